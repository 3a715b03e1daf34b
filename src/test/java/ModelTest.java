import java.util.ArrayList;
import java.util.HashSet;
import java.util.List;
import java.util.Random;
import java.util.Set;

/**
 * Runs of many calls on SoupSand and on a slow model of the document side by side: every answer has to
 * be the same. The model keeps nothing between calls and takes the document's words one by one; the
 * calls come from seeds that are written here, so each time the same ones.
 */
public final class ModelTest {
    private static final int NONE = -1, UNKNOWN = -1001, OUTSIDE = -1002, NOT = -1003, FULL = -1004, QUARREL = -1005;
    private static final String[] METHODS = {
        "column", "layer", "loose", "about", "shake", "beat", "count", "run", "choices", "odds", "step", "word",
        "strike", "bars", "toStrike", "house", "sink", "sunk", "led", "lean", "tank", "floats", "margin", "least",
        "work", "stands", "plan", "loss", "feed", "read", "fault", "rule"};

    private static int wrong = 0;

    // ---- the model

    private static final class MLayer {
        int kind, thick;
        List<int[]> loose = new ArrayList<>();
    }

    private static final class MColumn {
        int top = 500, water = 0;
        List<MLayer> layers = new ArrayList<>();
    }

    private static final class MShake {
        int share;
        List<Integer> beats = new ArrayList<>();
    }

    private static final class Outcome {
        int[] push, gone;
    }

    private static final class Model {
        MColumn[] columns = new MColumn[6];
        List<MShake> shakes = new ArrayList<>();
        List<int[]> words = new ArrayList<>();
        Set<Integer> struck = new HashSet<>();
        List<int[]> houses = new ArrayList<>(), tanks = new ArrayList<>(), works = new ArrayList<>();
        int[] rules = firstRules();
        StringBuilder text = new StringBuilder();
        int faultAt = NONE;

        Model() {
            for (int c = 0; c < 6; c++) columns[c] = new MColumn();
        }

        static int[] firstRules() {
            int[] r = new int[25];
            int[] f = {20, 50, 90, 10, 60};
            for (int i = 0; i < 20; i++) r[i] = f[i % 5];
            r[20] = 18; r[21] = 9; r[22] = 40; r[23] = 5; r[24] = 0;
            return r;
        }

        boolean noColumn(int c) { return c < 0 || c > 5; }
        boolean noLayer(int c, int k) { return noColumn(c) || k < 0 || k >= columns[c].layers.size(); }
        boolean noShake(int q) { return q < 0 || q >= shakes.size(); }
        static boolean no(int i, List<?> l) { return i < 0 || i >= l.size(); }
        static boolean out(long v, long l, long h) { return !(l <= v && v <= h); }

        int depth(MColumn m, int k) {
            int d = 0;
            for (MLayer l : m.layers.subList(0, k)) d += l.thick;
            return d;
        }

        boolean wet(MColumn m, int k) { return depth(m, k) >= m.water; }
        int unit(MColumn m, int k) { return wet(m, k) ? rules[21] : rules[20]; }

        int hold(MColumn m, int k) {
            int sum = 0;
            for (int i = 0; i < k; i++) sum += m.layers.get(i).thick * unit(m, i);
            sum += m.layers.get(k).thick * unit(m, k) / 2;
            return sum < 1 ? 1 : sum;
        }

        int ruleOf(MColumn m, int k, int name) { return rules[5 * m.layers.get(k).kind + name]; }

        Outcome play(MColumn m, int[] choice, MShake shake, int drainMore, int looseLess) {
            int n = m.layers.size();
            int[] push = new int[n];
            int[] gone = new int[n];
            java.util.Arrays.fill(gone, NONE);
            int steps = shake.beats.size() + rules[24];
            for (int s = 0; s < steps; s++) {
                if (s < shake.beats.size()) {
                    int strength = shake.beats.get(s);
                    int[] at = new int[n];
                    for (int k = n - 1; k >= 0; k--) {
                        at[k] = strength;
                        strength = strength * (gone[k] != NONE ? rules[22] : ruleOf(m, k, 2)) / 100;
                    }
                    for (int k = 0; k < n; k++) {
                        if (!wet(m, k) || gone[k] != NONE) continue;
                        int loose = Math.max(0, m.layers.get(k).loose.get(choice[k])[0] - looseLess);
                        push[k] += (long) at[k] * loose * ruleOf(m, k, 0) / (10L * hold(m, k));
                        if (push[k] >= 1000) { push[k] = 1000; gone[k] = s; }
                    }
                }
                int[] lost = new int[n];
                for (int k = 0; k < n; k++) {
                    if (wet(m, k)) lost[k] = push[k] * Math.min(1000, ruleOf(m, k, 1) + drainMore) / 1000;
                }
                for (int k = 0; k < n; k++) push[k] -= lost[k];
                for (int k = 1; k < n; k++) {
                    int up = k - 1;
                    if (!wet(m, up) || gone[up] != NONE) continue;
                    push[up] += lost[k] / 2;
                    if (push[up] >= 1000) { push[up] = 1000; gone[up] = s; }
                }
            }
            Outcome o = new Outcome();
            o.push = push;
            o.gone = gone;
            return o;
        }

        List<int[]> allChoices(MColumn m) {
            List<int[]> rows = new ArrayList<>();
            rows.add(new int[0]);
            for (MLayer l : m.layers) {
                List<int[]> longer = new ArrayList<>();
                for (int[] row : rows) {
                    for (int j = 0; j < l.loose.size(); j++) {
                        int[] r = java.util.Arrays.copyOf(row, row.length + 1);
                        r[row.length] = j;
                        longer.add(r);
                    }
                }
                rows = longer;
            }
            return rows;
        }

        int[] first(MColumn m) { return new int[m.layers.size()]; }

        int weight(MColumn m, int[] choice) {
            int w = 1;
            for (int k = 0; k < choice.length; k++) w *= m.layers.get(k).loose.get(choice[k])[1];
            return w;
        }

        boolean anyGone(Outcome o) {
            for (int g : o.gone) if (g != NONE) return true;
            return false;
        }

        boolean agrees(int[] word, int[] choice) {
            MColumn m = columns[word[0]];
            if (word[1] == 2) {
                int v = m.layers.get(word[2]).loose.get(choice[word[2]])[0];
                return v >= word[3] && v <= word[4];
            }
            boolean boils = anyGone(play(m, choice, shakes.get(word[2]), 0, 0));
            return word[1] == 1 ? boils : !boils;
        }

        boolean isKept(int c, int[] choice, int without) {
            for (int i = 0; i < words.size(); i++) {
                if (words.get(i)[0] != c || struck.contains(i) || (without >> i & 1) == 1) continue;
                if (!agrees(words.get(i), choice)) return false;
            }
            return true;
        }

        List<int[]> kept(int c) {
            List<int[]> rows = new ArrayList<>();
            for (int[] choice : allChoices(columns[c])) if (isKept(c, choice, 0)) rows.add(choice);
            return rows;
        }

        int[] parts(MColumn m, Outcome o, int width) {
            int[] parts = new int[o.gone.length];
            for (int k = 0; k < parts.length; k++) {
                if (o.gone[k] == NONE) continue;
                int within = 0;
                for (int d = depth(m, k); d < depth(m, k) + m.layers.get(k).thick; d++) if (d < 2 * width) within++;
                parts[k] = within * ruleOf(m, k, 3) / 100;
            }
            return parts;
        }

        int sinkBy(int h, int q, int[] choice, int drainMore, int looseLess) {
            MColumn m = columns[houses.get(h)[0]];
            int sum = 0;
            for (int p : parts(m, play(m, choice, shakes.get(q), drainMore, looseLess), houses.get(h)[1])) sum += p;
            return sum;
        }

        static long frac(long up, long low, int which) {
            java.math.BigInteger g = java.math.BigInteger.valueOf(up).gcd(java.math.BigInteger.valueOf(low));
            return (which == 0 ? up : low) / g.longValue();
        }

        long call(String name, long[] p) {
            int a = (int) p[0], b = (int) p[1], c = (int) p[2], d = (int) p[3], e = (int) p[4];
            switch (name) {
                case "column": {
                    if (noColumn(a)) return UNKNOWN;
                    if (b != 0 && b != 1) return OUTSIDE;
                    if (out(c, 0, b == 0 ? 999 : 400)) return OUTSIDE;
                    MColumn m = columns[a];
                    int was = b == 0 ? m.top : m.water;
                    if (b == 0) m.top = c; else m.water = c;
                    return was;
                }
                case "layer": {
                    if (noColumn(a)) return UNKNOWN;
                    if (out(b, 0, 3) || out(c, 1, 60) || out(d, 0, 100)) return OUTSIDE;
                    if (columns[a].layers.size() == 6) return FULL;
                    MLayer l = new MLayer();
                    l.kind = b;
                    l.thick = c;
                    l.loose.add(new int[] {d, 1});
                    columns[a].layers.add(l);
                    return columns[a].layers.size() - 1;
                }
                case "loose": {
                    if (noLayer(a, b)) return UNKNOWN;
                    if (out(c, 0, 100) || out(d, 1, 9)) return OUTSIDE;
                    List<int[]> loose = columns[a].layers.get(b).loose;
                    for (int[] v : loose) if (v[0] == c) return NOT;
                    if (loose.size() == 3) return FULL;
                    loose.add(new int[] {c, d});
                    return loose.size();
                }
                case "about": {
                    if (noLayer(a, b)) return UNKNOWN;
                    if (out(c, 0, 5)) return OUTSIDE;
                    MColumn m = columns[a];
                    MLayer l = m.layers.get(b);
                    int[] all = {l.kind, l.thick, l.loose.size(), depth(m, b), wet(m, b) ? 1 : 0, hold(m, b)};
                    return all[c];
                }
                case "shake": {
                    if (out(a, 0, 1000)) return OUTSIDE;
                    if (shakes.size() == 6) return FULL;
                    MShake s = new MShake();
                    s.share = a;
                    shakes.add(s);
                    return shakes.size() - 1;
                }
                case "beat": {
                    if (noShake(a)) return UNKNOWN;
                    if (out(b, 0, 999)) return OUTSIDE;
                    if (shakes.get(a).beats.size() == 30) return FULL;
                    shakes.get(a).beats.add(b);
                    return shakes.get(a).beats.size();
                }
                case "count": {
                    if (out(a, 0, 8)) return OUTSIDE;
                    int layers = 0, beats = 0;
                    for (MColumn m : columns) layers += m.layers.size();
                    for (MShake s : shakes) beats += s.beats.size();
                    int[] all = {layers, shakes.size(), beats, words.size(), struck.size(), houses.size(), tanks.size(),
                        works.size(), text.length()};
                    return all[a];
                }
                case "run": {
                    if (noLayer(a, c) || noShake(b)) return UNKNOWN;
                    if (out(d, 0, 1)) return OUTSIDE;
                    Outcome o = play(columns[a], first(columns[a]), shakes.get(b), 0, 0);
                    return d == 0 ? o.push[c] : o.gone[c];
                }
                case "choices": {
                    if (noColumn(a)) return UNKNOWN;
                    if (b == 3 && (noLayer(a, c) || no(d, columns[a].layers.get(c).loose))) return UNKNOWN;
                    if (out(b, 0, 3)) return OUTSIDE;
                    List<int[]> all = allChoices(columns[a]);
                    if (b == 0) return all.size();
                    if (b == 1) return kept(a).size();
                    int with = 0;
                    for (int i = 0; i < all.size(); i++) {
                        if (!isKept(a, all.get(i), 0)) continue;
                        if (b == 2) return i;
                        if (all.get(i)[c] == d) with++;
                    }
                    return b == 2 ? NONE : with;
                }
                case "odds":
                case "step": {
                    if (noLayer(a, c) || noShake(b)) return UNKNOWN;
                    if (out(d, 0, 1)) return OUTSIDE;
                    List<int[]> kept = kept(a);
                    if (kept.isEmpty()) return QUARREL;
                    long up = 0, low = 0;
                    boolean without = false;
                    int least = 999, greatest = -1;
                    for (int[] choice : kept) {
                        int g = play(columns[a], choice, shakes.get(b), 0, 0).gone[c];
                        int w = weight(columns[a], choice);
                        low += w;
                        if (g == NONE) { without = true; continue; }
                        up += w;
                        least = Math.min(least, g);
                        greatest = Math.max(greatest, g);
                    }
                    if (name.equals("odds")) return frac(up, low, d);
                    if (d == 0) return least == 999 ? NONE : least;
                    return without ? NONE : greatest;
                }
                case "word": {
                    if (out(b, 0, 2)) return OUTSIDE;
                    if (noColumn(a)) return UNKNOWN;
                    if (b < 2 && noShake(c)) return UNKNOWN;
                    if (b == 2 && noLayer(a, c)) return UNKNOWN;
                    if (b == 2 && (out(d, 0, 100) || out(e, 0, 100) || e < d)) return OUTSIDE;
                    if (words.size() == 16) return FULL;
                    words.add(new int[] {a, b, c, d, e});
                    return words.size() - 1;
                }
                case "strike": {
                    if (no(a, words)) return UNKNOWN;
                    boolean was = struck.contains(a);
                    if (b != 0) struck.add(a); else struck.remove(a);
                    return was ? 1 : 0;
                }
                case "bars": {
                    if (no(a, words)) return UNKNOWN;
                    int many = 0;
                    for (int[] choice : allChoices(columns[words.get(a)[0]])) if (!agrees(words.get(a), choice)) many++;
                    return many;
                }
                case "toStrike": {
                    if (noColumn(a)) return UNKNOWN;
                    return fewest(a);
                }
                case "house": {
                    if (noColumn(a)) return UNKNOWN;
                    if (out(b, 1, 60) || out(c, 0, 9999)) return OUTSIDE;
                    if (houses.size() == 8) return FULL;
                    houses.add(new int[] {a, b, c});
                    return houses.size() - 1;
                }
                case "sink": {
                    if (no(a, houses) || noShake(b)) return UNKNOWN;
                    if (out(c, 0, 2)) return OUTSIDE;
                    int col = houses.get(a)[0];
                    if (c == 2) return sinkBy(a, b, first(columns[col]), 0, 0);
                    List<int[]> kept = kept(col);
                    if (kept.isEmpty()) return QUARREL;
                    int least = Integer.MAX_VALUE, greatest = 0;
                    for (int[] choice : kept) {
                        int s = sinkBy(a, b, choice, 0, 0);
                        least = Math.min(least, s);
                        greatest = Math.max(greatest, s);
                    }
                    return c == 0 ? least : greatest;
                }
                case "sunk": {
                    if (no(a, houses) || noShake(b)) return UNKNOWN;
                    if (out(c, 0, 1)) return OUTSIDE;
                    long[] odds = sunkOdds(a, b);
                    return odds[1] == 0 ? QUARREL : frac(odds[0], odds[1], c);
                }
                case "led": {
                    if (no(a, houses) || noShake(b)) return UNKNOWN;
                    if (out(c, 0, 1)) return OUTSIDE;
                    MColumn m = columns[houses.get(a)[0]];
                    if (sinkBy(a, b, first(m), 0, 0) < rules[23]) return NOT;
                    Outcome o = play(m, first(m), shakes.get(b), 0, 0);
                    int[] parts = parts(m, o, houses.get(a)[1]);
                    int best = 0;
                    for (int k = 0; k < parts.length; k++) if (parts[k] > parts[best]) best = k;
                    return c == 0 ? best : o.gone[best];
                }
                case "lean": {
                    if (no(a, houses) || no(b, houses) || noShake(c)) return UNKNOWN;
                    return Math.abs(sinkBy(a, c, first(columns[houses.get(a)[0]]), 0, 0)
                        - sinkBy(b, c, first(columns[houses.get(b)[0]]), 0, 0));
                }
                case "tank": {
                    if (noLayer(a, b)) return UNKNOWN;
                    if (out(c, 1, 999) || out(d, 1, 99)) return OUTSIDE;
                    if (tanks.size() == 8) return FULL;
                    tanks.add(new int[] {a, b, c, d});
                    return tanks.size() - 1;
                }
                case "floats": {
                    if (no(a, tanks) || noShake(b)) return UNKNOWN;
                    int[] t = tanks.get(a);
                    List<int[]> kept = kept(t[0]);
                    if (kept.isEmpty()) return QUARREL;
                    int so = 0;
                    for (int[] choice : kept) {
                        if (play(columns[t[0]], choice, shakes.get(b), 0, 0).gone[t[1]] != NONE && t[2] < t[3] * rules[20]) so++;
                    }
                    return so == 0 ? 0 : so == kept.size() ? 2 : 1;
                }
                case "margin": {
                    if (noShake(a) || noColumn(b) || noColumn(c) || noLayer(b, d)) return UNKNOWN;
                    if (b == c || out(e, 0, 2)) return OUTSIDE;
                    int z = middle(b, d);
                    if (e == 2) return z;
                    long[] m = marginAt(a, b, c, z);
                    return m == null ? NOT : frac(m[0], m[1], e);
                }
                case "least": {
                    if (noShake(a)) return UNKNOWN;
                    if (out(b, 0, 4)) return OUTSIDE;
                    long[] best = null;
                    for (int from = 0; from < 6; from++) {
                        for (int to = 0; to < 6; to++) {
                            for (int k = 0; k < columns[from].layers.size() && from != to; k++) {
                                long[] m = marginAt(a, from, to, middle(from, k));
                                if (m == null) continue;
                                if (best != null && m[0] * best[4] >= best[3] * m[1]) continue;
                                best = new long[] {from, to, k, m[0], m[1]};
                            }
                        }
                    }
                    if (best == null) return NONE;
                    return b < 3 ? best[b] : frac(best[3], best[4], b - 3);
                }
                case "work": {
                    if (noColumn(a)) return UNKNOWN;
                    if (out(b, 0, 1) || out(c, 1, b == 0 ? 500 : 100) || out(d, 1, 999)) return OUTSIDE;
                    if (works.size() == 6) return FULL;
                    works.add(new int[] {a, b, c, d});
                    return works.size() - 1;
                }
                case "stands": {
                    for (int i = 0; i < 32; i++) if ((a >> i & 1) == 1 && no(i, works)) return UNKNOWN;
                    if (quarrelled()) return QUARREL;
                    return standsBy(a) ? 1 : 0;
                }
                case "plan": {
                    if (out(a, 0, 1)) return OUTSIDE;
                    if (quarrelled()) return QUARREL;
                    int best = NONE, bestPrice = NONE;
                    for (int set = 0; set < 1 << works.size(); set++) {
                        int price = 0;
                        for (int i = 0; i < works.size(); i++) if ((set >> i & 1) == 1) price += works.get(i)[3];
                        if (!standsBy(set)) continue;
                        if (best == NONE || price < bestPrice) { best = set; bestPrice = price; }
                    }
                    return a == 0 ? best : bestPrice;
                }
                case "loss": {
                    if (quarrelled()) return QUARREL;
                    long sum = 0;
                    for (int h = 0; h < houses.size(); h++) {
                        for (int q = 0; q < shakes.size(); q++) {
                            long[] odds = sunkOdds(h, q);
                            sum += (long) shakes.get(q).share * houses.get(h)[2] * odds[0] / odds[1];
                        }
                    }
                    return sum;
                }
                case "feed": {
                    if (out(a, 1, 8)) return OUTSIDE;
                    if (text.length() + a > 200) return FULL;
                    for (int i = a - 1; i >= 0; i--) text.append((char) (p[1] >>> 8 * i & 255));
                    return text.length();
                }
                case "read": {
                    return readText();
                }
                case "fault": return faultAt;
                case "rule": return out(a, 0, 24) ? OUTSIDE : rules[a];
                default: throw new IllegalStateException(name);
            }
        }

        int fewest(int c) {
            int best = -1;
            List<int[]> all = allChoices(columns[c]);
            List<Integer> open = new ArrayList<>();
            for (int i = 0; i < words.size(); i++) if (words.get(i)[0] == c && !struck.contains(i)) open.add(i);
            for (int pick = 0; pick < 1 << open.size(); pick++) {
                int set = 0;
                for (int i = 0; i < open.size(); i++) if ((pick >> i & 1) == 1) set |= 1 << open.get(i);
                if (best >= 0 && Integer.bitCount(set) > Integer.bitCount(best)) continue;
                if (best >= 0 && Integer.bitCount(set) == Integer.bitCount(best) && set > best) continue;
                for (int[] choice : all) {
                    if (isKept(c, choice, set)) { best = set; break; }
                }
            }
            return best;
        }

        long[] sunkOdds(int h, int q) {
            int col = houses.get(h)[0];
            long up = 0, low = 0;
            for (int[] choice : kept(col)) {
                int w = weight(columns[col], choice);
                low += w;
                if (sinkBy(h, q, choice, 0, 0) >= rules[23]) up += w;
            }
            return new long[] {up, low};
        }

        int middle(int c, int k) {
            return columns[c].top - depth(columns[c], k) - columns[c].layers.get(k).thick / 2;
        }

        long[] marginAt(int q, int a, int b, int z) {
            long holds = 0;
            int way = a < b ? 1 : -1;
            for (int c = a; c != b + way; c += way) {
                MColumn m = columns[c];
                Outcome o = play(m, first(m), shakes.get(q), 0, 0);
                boolean found = false;
                int upper = m.top;
                for (int k = 0; k < m.layers.size(); k++) {
                    int lower = upper - m.layers.get(k).thick;
                    if (upper >= z && lower < z) {
                        found = true;
                        if (o.gone[k] == NONE) holds += (long) hold(m, k) * (1000 - o.push[k]) / 1000 * ruleOf(m, k, 4) / 100;
                    }
                    upper = lower;
                }
                if (!found) return null;
            }
            long driven = above(a, z) - above(b, z);
            return driven > 0 ? new long[] {holds, driven} : null;
        }

        long above(int c, int z) {
            MColumn m = columns[c];
            long sum = 0;
            int h = m.top;
            for (int k = 0; k < m.layers.size(); k++) {
                for (int i = 0; i < m.layers.get(k).thick; i++) {
                    if (h > z) sum += unit(m, k);
                    h--;
                }
            }
            return sum;
        }

        boolean quarrelled() {
            for (int[] h : houses) if (kept(h[0]).isEmpty()) return true;
            return false;
        }

        boolean standsBy(int set) {
            for (int h = 0; h < houses.size(); h++) {
                int col = houses.get(h)[0];
                int drain = 0, less = 0;
                for (int i = 0; i < works.size(); i++) {
                    if ((set >> i & 1) == 0 || works.get(i)[0] != col) continue;
                    if (works.get(i)[1] == 0) drain += works.get(i)[2]; else less += works.get(i)[2];
                }
                List<int[]> kept = kept(col);
                for (int q = 0; q < shakes.size(); q++) {
                    for (int[] choice : kept) if (sinkBy(h, q, choice, drain, less) >= rules[23]) return false;
                }
            }
            return true;
        }

        /** Cuts the text into tokens first, then follows the grammar by states. */
        int readText() {
            String t = text.toString();
            text.setLength(0);
            faultAt = NONE;
            List<String> tokens = new ArrayList<>();
            List<Integer> places = new ArrayList<>();
            java.util.regex.Matcher m = java.util.regex.Pattern.compile("[a-z]+|[0-9]+|[^ ]", java.util.regex.Pattern.DOTALL).matcher(t);
            while (m.find()) {
                tokens.add(m.group());
                places.add(m.start());
            }
            tokens.add("");
            places.add(t.length());
            List<String> names = List.of("grow", "drain", "pass", "settle", "hold");
            List<String> alone = List.of("dry", "wet", "flow", "mark", "after");
            int[] lows = {0, 0, 0, 0, 0, 1, 1, 0, 1, 0};
            int[] highs = {99, 999, 100, 99, 99, 99, 99, 100, 99, 30};
            int[] fresh = firstRules();
            String state = "clause";
            int clauses = 0, kind = 0, slot = 0, entry = 0;
            Set<String> told = new HashSet<>();
            for (int i = 0; i < tokens.size(); i++) {
                String w = tokens.get(i);
                boolean number = !w.isEmpty() && w.charAt(0) >= '0' && w.charAt(0) <= '9';
                int flaw = 0;
                if (state.equals("clause")) {
                    if (w.isEmpty()) break;
                    if (!w.equals("kind") && !alone.contains(w)) flaw = 1;
                    else if (clauses == 12) flaw = 4;
                    else if (w.equals("kind")) { state = "K"; told.clear(); }
                    else { entry = 5 + alone.indexOf(w); slot = 15 + entry; state = "N;"; }
                } else if (state.equals("K") || state.startsWith("N")) {
                    int low = state.equals("K") ? 0 : lows[entry], high = state.equals("K") ? 3 : highs[entry];
                    if (!number) flaw = 1;
                    else if (w.length() > 3 || out(Integer.parseInt(w), low, high)) flaw = 2;
                    else if (state.equals("K")) { kind = Integer.parseInt(w); state = "name"; }
                    else { fresh[slot] = Integer.parseInt(w); state = state.equals("N;") ? ";" : "name;"; }
                } else if (w.equals(";") && state.endsWith(";")) {
                    clauses++;
                    state = "clause";
                } else if (state.startsWith("name") && names.contains(w)) {
                    if (!told.add(w)) flaw = 3;
                    entry = names.indexOf(w);
                    slot = 5 * kind + entry;
                    state = "N";
                } else {
                    flaw = 1;
                }
                if (flaw != 0) {
                    faultAt = places.get(i);
                    return -10 - flaw;
                }
            }
            rules = fresh;
            return clauses;
        }
    }

    // ---- the same call of the program

    private static long program(SoupSand x, String name, long[] p) {
        int a = (int) p[0], b = (int) p[1], c = (int) p[2], d = (int) p[3], e = (int) p[4];
        switch (name) {
            case "column": return x.column(a, b, c);
            case "layer": return x.layer(a, b, c, d);
            case "loose": return x.loose(a, b, c, d);
            case "about": return x.about(a, b, c);
            case "shake": return x.shake(a);
            case "beat": return x.beat(a, b);
            case "count": return x.count(a);
            case "run": return x.run(a, b, c, d);
            case "choices": return x.choices(a, b, c, d);
            case "odds": return x.odds(a, b, c, d);
            case "step": return x.step(a, b, c, d);
            case "word": return x.word(a, b, c, d, e);
            case "strike": return x.strike(a, b != 0);
            case "bars": return x.bars(a);
            case "toStrike": return x.toStrike(a);
            case "house": return x.house(a, b, c);
            case "sink": return x.sink(a, b, c);
            case "sunk": return x.sunk(a, b, c);
            case "led": return x.led(a, b, c);
            case "lean": return x.lean(a, b, c);
            case "tank": return x.tank(a, b, c, d);
            case "floats": return x.floats(a, b);
            case "margin": return x.margin(a, b, c, d, e);
            case "least": return x.least(a, b);
            case "work": return x.work(a, b, c, d);
            case "stands": return x.stands(a);
            case "plan": return x.plan(a);
            case "loss": return x.loss();
            case "feed": return x.feed(a, p[1]);
            case "read": return x.read();
            case "fault": return x.fault();
            case "rule": return x.rule(a);
            default: throw new IllegalStateException(name);
        }
    }

    // ---- the calls

    /** Both sides of one run. */
    private static final class Pair {
        final SoupSand x = new SoupSand();
        final Model m = new Model();
        final Random r;
        final long seed;
        int calls = 0;

        Pair(long seed) {
            this.seed = seed;
            r = new Random(seed);
        }

        int in(int low, int high) { return low + r.nextInt(high - low + 1); }

        /** Mostly within the bounds, at times right at or beyond them, seldom far out. */
        int near(int low, int high) {
            int dice = r.nextInt(40);
            if (dice == 0) return low - 1;
            if (dice == 1) return high + 1;
            if (dice < 5) return low;
            if (dice < 8) return high;
            if (dice == 8 && r.nextInt(4) == 0) return r.nextBoolean() ? r.nextInt() : r.nextBoolean() ? Integer.MIN_VALUE : Integer.MAX_VALUE;
            return high < low ? low : in(low, high);
        }

        void call(String name, long... p) {
            long[] five = java.util.Arrays.copyOf(p, 5);
            long want = m.call(name, five);
            long got = program(x, name, five);
            calls++;
            if (got == want) return;
            wrong++;
            if (wrong < 20) {
                System.out.println("seed " + seed + " call " + calls + ": " + name + java.util.Arrays.toString(p)
                    + " answered " + got + ", the model " + want);
            }
        }

        void feedText(String t) {
            for (int i = 0; i < t.length();) {
                int n = Math.min(t.length() - i, in(1, 8));
                long bytes = r.nextInt(3) == 0 ? r.nextLong() : 0;
                for (int j = 0; j < n; j++) bytes = bytes << 8 | t.charAt(i + j);
                call("feed", n, bytes);
                i += n;
            }
        }

        String number(int low, int high) {
            int dice = r.nextInt(120);
            if (dice == 0) return "" + (high + 1);
            if (dice == 1) return "0000";
            if (dice == 2) return "" + Math.max(0, low - 1);
            if (dice < 8 && low <= 9) return "00" + in(low, Math.min(9, high));
            return "" + in(low, high);
        }

        String blanks(boolean need) {
            return " ".repeat(r.nextInt(5) == 0 ? in(0, 2) : need && r.nextInt(4) > 0 ? 1 : 0);
        }

        String clause() {
            String[] names = {"grow", "drain", "pass", "settle", "hold"};
            int[] highs = {99, 999, 100, 99, 99};
            String[] alone = {"dry", "wet", "flow", "mark", "after"};
            int[] lows = {1, 1, 0, 1, 0};
            int[] tops = {99, 99, 100, r.nextInt(3) == 0 ? 99 : 9, 30};
            StringBuilder t = new StringBuilder();
            if (r.nextInt(3) == 0) {
                int i = r.nextInt(5);
                t.append(alone[i]).append(blanks(true)).append(number(lows[i], tops[i]));
            } else {
                t.append("kind").append(blanks(true)).append(number(0, 3));
                int told = 0;
                for (int n = in(1, 4); n > 0; n--) {
                    int i = r.nextInt(5);
                    if ((told >> i & 1) == 1 && r.nextInt(8) > 0) continue;
                    told |= 1 << i;
                    int high = i == 1 && r.nextBoolean() ? 99 : highs[i];
                    t.append(blanks(true)).append(names[i]).append(blanks(true)).append(number(i == 0 ? high / 2 : 0, high));
                }
            }
            return t.append(blanks(false)).append(";").append(blanks(false)).toString();
        }

        String text() {
            StringBuilder t = new StringBuilder();
            if (r.nextInt(6) == 0) {
                for (int n = in(11, 14); n > 0; n--) t.append(r.nextBoolean() ? "wet" : "mark").append(blanks(true)).append(in(1, 9)).append(";");
            } else {
                for (int n = in(0, 5); n > 0; n--) t.append(clause());
            }
            if (r.nextInt(3) == 0 && t.length() > 0) {
                String signs = " ;0123456789abdefghiklmnoprstwy~A\u0000\u00ff/:`{";
                for (int n = in(1, 2); n > 0 && t.length() > 0; n--) {
                    int at = r.nextInt(t.length());
                    int how = r.nextInt(4);
                    if (how == 0) t.deleteCharAt(at);
                    else if (how == 1) t.insert(at, signs.charAt(r.nextInt(signs.length())));
                    else if (how == 2) t.setCharAt(at, signs.charAt(r.nextInt(signs.length())));
                    else t.setLength(at);
                }
            }
            if (t.length() > 200) t.setLength(200);
            return t.toString();
        }

        int someColumn() { return r.nextInt(25) == 0 ? near(0, 5) : in(0, 2); }
        int someShake() { return r.nextInt(25) == 0 ? near(-1, 6) : in(0, Math.max(0, m.shakes.size() - 1)); }
        int some(List<?> l) { return r.nextInt(25) == 0 ? near(-1, l.size()) : in(0, Math.max(0, l.size() - 1)); }

        int someLayer(int c) {
            int n = m.noColumn(c) ? 0 : m.columns[c].layers.size();
            return r.nextInt(25) == 0 ? near(-1, n) : in(0, Math.max(0, n - 1));
        }

        void change(int mostChoices) {
            int c = someColumn();
            int k = someLayer(c);
            switch (r.nextInt(16)) {
                case 0: call("column", c, 0, near(470, 530)); break;
                case 1: call("column", c, near(0, 1), r.nextInt(3) == 0 ? near(0, 400) : in(0, 40)); break;
                case 2: case 3: case 4:
                    if (m.noColumn(c) || m.columns[c].layers.size() < 4 || r.nextInt(6) == 0) {
                        call("layer", c, near(0, 3), r.nextBoolean() ? near(1, 60) : in(1, 12), r.nextBoolean() ? near(0, 100) : in(60, 100));
                    }
                    break;
                case 5: case 6:
                    if (m.noColumn(c) || m.allChoices(m.columns[c]).size() * 3 / 2 <= mostChoices) {
                        call("loose", c, k, near(0, 100), near(1, 9));
                    }
                    break;
                case 7: call("shake", near(0, 1000)); break;
                case 8: case 9: case 10:
                    for (int n = in(1, 4), q = someShake(); n > 0; n--) call("beat", q, r.nextBoolean() ? near(0, 999) : in(300, 999));
                    break;
                case 11: {
                    if (m.words.size() > 6 && r.nextInt(20) > 0) break;
                    int kind = near(0, 2);
                    int l = in(0, 60);
                    if (kind == 2) call("word", c, 2, k, r.nextInt(9) == 0 ? near(0, 100) : l, r.nextInt(9) == 0 ? near(0, 100) : in(l, 100));
                    else call("word", c, kind, someShake(), near(0, 100), near(0, 100));
                    break;
                }
                case 12: call("house", c, r.nextBoolean() ? near(1, 60) : in(3, 30), near(0, 9999)); break;
                case 13: call("tank", c, k, near(1, 999), near(1, 99)); break;
                case 14: {
                    int kind = near(0, 1);
                    if (m.works.size() < 3 || r.nextInt(9) == 0) call("work", c, kind, kind == 0 ? near(1, 500) : near(1, 100), r.nextBoolean() ? near(1, 999) : in(1, 4));
                    break;
                }
                default:
                    if (r.nextInt(3) > 0) { call("strike", some(m.words), r.nextInt(2)); break; }
                    feedText(text());
                    call("count", 8);
                    call("read");
                    call("fault");
                    for (int i = 0; i < 25; i++) call("rule", i);
            }
        }

        void ask() {
            int c = someColumn(), k = someLayer(c), q = someShake();
            switch (r.nextInt(20)) {
                case 0: call("about", c, k, near(0, 5)); break;
                case 1: call("count", near(0, 8)); break;
                case 2: case 3: call("run", c, q, k, near(0, 1)); break;
                case 4: call("choices", c, near(0, 3), k, near(0, 2)); break;
                case 5: call("odds", c, q, k, near(0, 1)); break;
                case 6: call("step", c, q, k, near(0, 1)); break;
                case 7: call("bars", some(m.words)); break;
                case 8: call("toStrike", c); break;
                case 9: call("sink", some(m.houses), q, near(0, 2)); break;
                case 10: call("sunk", some(m.houses), q, near(0, 1)); break;
                case 11: call("led", some(m.houses), q, near(0, 1)); break;
                case 12: call("lean", some(m.houses), some(m.houses), q); break;
                case 13: call("floats", some(m.tanks), q); break;
                case 14: call("margin", q, c, someColumn(), k, near(0, 2)); break;
                case 15: call("least", q, near(0, 4)); break;
                case 16: call("stands", near(0, (1 << m.works.size()) - 1)); break;
                case 17: call("plan", near(0, 1)); break;
                case 18: call("loss"); break;
                default: call("rule", near(0, 24));
            }
        }

        /** Calls with any numbers at all: each must be answered. */
        void wild() {
            long[] p = new long[5];
            for (int i = 0; i < 5; i++) {
                int dice = r.nextInt(12);
                p[i] = dice == 0 ? r.nextInt() : dice == 1 ? Integer.MIN_VALUE : dice == 2 ? Integer.MAX_VALUE : in(-1, 6);
            }
            call(METHODS[r.nextInt(METHODS.length)], p);
        }
    }

    private static void ordinaryRuns() {
        long calls = 0;
        for (int seed = 1; seed <= 1500; seed++) {
            Pair pair = new Pair(seed);
            int builds = pair.in(10, 60);
            for (int i = 0; i < builds; i++) pair.change(18);
            while (pair.calls < 400) {
                if (pair.r.nextInt(4) == 0) pair.change(18);
                else pair.ask();
            }
            calls += pair.calls;
        }
        System.out.println(calls + " calls of ordinary runs");
    }

    private static void wildRuns() {
        for (int seed = 1; seed <= 2000; seed++) {
            Pair pair = new Pair(100000 + seed);
            for (int i = 0; i < 300; i++) pair.wild();
        }
    }

    private static void textRuns() {
        for (int seed = 1; seed <= 4000; seed++) {
            Pair pair = new Pair(200000 + seed);
            for (int i = 0; i < 8; i++) {
                pair.feedText(pair.text());
                pair.call("read");
                pair.call("fault");
                for (int what = 0; what < 25; what++) pair.call("rule", what);
            }
        }
    }

    /** Full columns of six layers with three values each. */
    private static void greatRuns() {
        for (int seed = 1; seed <= 6; seed++) {
            Pair pair = new Pair(300000 + seed);
            for (int k = 0; k < 6; k++) {
                pair.call("layer", 0, pair.in(0, 3), pair.in(1, 9), pair.in(50, 100));
                pair.call("loose", 0, k, pair.in(0, 49), pair.in(1, 9));
                pair.call("loose", 0, k, pair.in(20, 100), pair.in(1, 9));
            }
            for (int q = 0; q < 2; q++) {
                pair.call("shake", pair.in(0, 1000));
                for (int i = 0; i < 4; i++) pair.call("beat", q, pair.in(1, 300));
            }
            pair.call("house", 0, 60, 777);
            for (int q = 0; q < 2; q++) {
                for (int k = 0; k < 6; k++) {
                    for (int what = 0; what < 2; what++) {
                        pair.call("odds", 0, q, k, what);
                        pair.call("step", 0, q, k, what);
                    }
                }
            }
            pair.call("word", 0, seed % 2, 0, 0, 0);
            pair.call("word", 0, 2, 3, 20, 80);
            for (int what = 0; what < 3; what++) pair.call("choices", 0, what, 0, 0);
            pair.call("odds", 0, 1, 0, 1);
            pair.call("toStrike", 0);
            pair.call("loss");
        }
    }

    public static void main(String[] args) {
        ordinaryRuns();
        wildRuns();
        textRuns();
        greatRuns();
        System.out.println(wrong == 0 ? "all answers are the model's" : wrong + " answers are not the model's");
        if (wrong != 0) System.exit(1);
    }
}

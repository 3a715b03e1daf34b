/-! ===== slips: what holds, what drives ===== -/
/-- by how much a layer holds -/
def gr (B : Mem) (c q : Int) (k : Nat) : Int := if (fin B c q (fun _ => 0) 0 0 k).2 = -1 then hld B c k * (1000 - (fin B c q (fun _ => 0) 0 0 k).1) / 1000 * rlk B c k 4 / 100 else 0
def hs (B : Mem) (q z lo : Int) : Nat → Int
  | 0 => 0
  | n + 1 => hs B q z lo n + gr B (lo + n) q (lAt B (lo + n) z).toNat
def slp (B : Mem) (a b z : Int) : Prop := (∀ c : Int, min a b ≤ c → c ≤ max a b → lAt B c z ≠ -1) ∧ 0 < wab B a z (nly B a) - wab B b z (nly B b)
abbrev sH (B : Mem) (q a b z : Int) : Int := hs B q z (min a b) (max a b - min a b + 1).toNat
abbrev sD (B : Mem) (a b z : Int) : Int := wab B a z (nly B a) - wab B b z (nly B b)
/-- the grips are laid -/
def GR (M B : Mem) (q lo hi : Int) : Prop := ∀ c : Int, lo ≤ c → c ≤ hi → ∀ k : Nat, k < nly B c → M 50 (c * 6 + k) = gr B c q k
def FrS (M N : Mem) : Prop := (∀ h, h ≠ 10 → N h = M h) ∧ ∀ k : Int, k ≠ 1 → k ≠ 2 → N 10 k = M 10 k
theorem slAg {M N : Mem} (h : ∀ h, h ≠ 10 → h ≠ 50 → N h = M h) : Ag M N := by
  intro q hq
  have e : N q.1 = M q.1 := h q.1 (by revert q; decide) (by revert q; decide)
  obtain ⟨q1, q2⟩ := q
  cases q2 with
  | none => exact e
  | some k => exact congrFun e k
section WEIGH
variable {M N B : Mem} {q : Int}
theorem fin_rng (hR : RB B) (hW : WF B) (c q : Int) (ch : Nat → Int) (k : Nat) : (0 ≤ (fin B c q ch 0 0 k).1 ∧ (fin B c q ch 0 0 k).1 ≤ 1000) ∧ (-1 ≤ (fin B c q ch 0 0 k).2 ∧ (fin B c q ch 0 0 k).2 ≤ 59) := by
  have h := FF_ok hR hW c q ch (mo := 0) (le := 0) (by decide) (by decide) (nst B q) k
  have h2 := nst_i hR hW q
  have h3 := beats_i hR q
  obtain ⟨h0, h1, _, h4, h5⟩ := h
  unfold fin
  omega
theorem gr_parts (hR : RB B) (hW : WF B) (c q : Int) {k : Nat} (hk : k ≤ 6) : (0 ≤ hld B c k * (1000 - (fin B c q (fun _ => 0) 0 0 k).1) ∧ hld B c k * (1000 - (fin B c q (fun _ => 0) 0 0 k).1) ≤ 1000000 * 1000) ∧ (0 ≤ hld B c k * (1000 - (fin B c q (fun _ => 0) 0 0 k).1) / 1000 * rlk B c k 4 ∧ hld B c k * (1000 - (fin B c q (fun _ => 0) 0 0 k).1) / 1000 * rlk B c k 4 ≤ 1000000 * 999) := by
  have h1 := hld_rng hR c k hk
  have h2 := fin_rng hR hW c q (fun _ => 0) k
  have h3 := mul_rng (a := hld B c k) (A := 1000000) (b := 1000 - (fin B c q (fun _ => 0) 0 0 k).1) (C := 1000) (by omega) (by omega)
  have h4 := mul_rng (a := hld B c k * (1000 - (fin B c q (fun _ => 0) 0 0 k).1) / 1000) (A := 1000000) (by omega) (rlk_rng hR c k 4)
  exact ⟨h3, h4⟩
theorem gr_rng (hR : RB B) (hW : WF B) (c q : Int) {k : Nat} (hk : k ≤ 6) : 0 ≤ gr B c q k ∧ gr B c q k ≤ 10000000 := by
  have := gr_parts hR hW c q hk
  unfold gr
  split <;> omega
theorem lAt_nat (hR : RB B) (c z : Int) : (lAt B c z).toNat ≤ 6 := by
  have := nly_i hR c
  rcases lAt_rng (B := B) c z with e | ⟨k, e1, e2⟩ <;> omega
theorem hs_rng (hR : RB B) (hW : WF B) (q z lo : Int) : ∀ n : Nat, 0 ≤ hs B q z lo n ∧ hs B q z lo n ≤ 10000000 * n
  | 0 => by unfold hs; omega
  | n + 1 => by
    have h1 := hs_rng hR hW q z lo n
    have h2 := gr_rng hR hW (lo + n) q (lAt_nat hR (lo + n) z)
    unfold hs
    omega
theorem gripOf_ok {c : Int} {k : Nat} {Q : Int → Prop} (H : TrU M B c q (fun _ => 0) 0 0) (hp : PC M (fin B c q (fun _ => 0) 0 0) (nly B c)) (hk : k < nly B c) (kk : Q (gr B c q k)) : w_Trial_gripOf M k Q := by
  have hR := H.b.hR
  have hn := nly_i hR c
  have hg := gr_parts hR H.b.hW c q (k := k) (by omega)
  unfold w_Trial_gripOf
  refine ⟨by omega, ?_⟩
  (intro g eg _ _; have eg : g = M 15 k := eg)
  rw [(hp k hk).2] at eg
  unfold gr at kk
  refine ⟨fun h => ⟨by omega, ?_⟩, fun h => by rw [if_neg (by omega)] at kk; exact kk⟩
  rw [if_pos (by omega)] at kk
  (intro d ed _ _; have ed : d = M 16 k := ed)
  rw [H.hol k hk] at ed
  refine ⟨by omega, ?_⟩
  (intro p ep _ _; have ep : p = M 14 k := ep)
  rw [(hp k hk).1] at ep
  rw [ed, ep]
  refine ⟨by omega, ruleOf_ok H.b hk (by decide) (by decide) ⟨by omega, kk⟩⟩
theorem slBegin_ok {lo hi : Int} {Q : Mem → Prop} (I : Inv M B) (q0 : 0 ≤ q) (q6 : q < 6) (l0 : 0 ≤ lo) (lh : lo ≤ hi) (h5 : hi ≤ 5) (kk : ∀ N, Inv N B → GR N B q lo hi → Q N) : w_Slips_begin M q lo hi Q := by
  have hR := I.2.2.1
  have hW := I.2.2.2.1
  unfold w_Slips_begin w_Slips_begin_L0
  intro X hX
  have key : ∀ (d : Nat) (c : Int) (N : Mem), c + d = hi + 1 → lo ≤ c → Inv N B → GR N B q lo (c - 1) → X c N := by
    intro d
    induction d with
    | zero =>
      intro c N hd hc IN g
      apply hX
      unfold w_Slips_begin_B0
      rw [(show c - 1 = hi by omega)] at g
      exact ⟨by omega, by omega, fun _ => kk N IN g, fun h => absurd h (by omega)⟩
    | succ d ih =>
      intro c N hd hc IN g
      have hn := nly_i hR c
      apply hX
      unfold w_Slips_begin_B0
      refine ⟨by omega, by omega, fun h => absurd h (by omega), fun _ => ?_⟩
      refine runFirst_ok IN.1 hR hW (by omega) (by omega) q0 q6 (fun N1 t1 t2 t3 => ?_)
      have I1 := IN.ag t3.ag
      have g1 : GR N1 B q lo (c - 1) := fun x a b k hk => by rw [t3 _ (by decide) (by decide) (by decide) (by decide) (by decide) (by decide) (by decide)]; exact g x a b k hk
      unfold w_Slips_begin_L1
      intro Y hY
      have key2 : ∀ (e i : Nat) (O : Mem), i + e = nly B c → Inv O B → TrU O B c q (fun _ => 0) 0 0 → PC O (fin B c q (fun _ => 0) 0 0) (nly B c) → GR O B q lo (c - 1) → (∀ k : Nat, k < i → O 50 (c * 6 + k) = gr B c q k) → Y i O := by
        intro e
        induction e with
        | zero =>
          intro i O hi o1 o2 o3 o4 o5
          apply hY
          unfold w_Slips_begin_B1
          refine ⟨by omega, ?_⟩
          (intro a ea _ _; have ea : a = O 21 c := ea)
          rw [c_layers o1.1] at ea
          refine ⟨by omega, fun _ => ih (c + 1) O (by omega) (by omega) o1 (fun x a b k hk => ?_), fun h => absurd h (by omega)⟩
          by_cases z : x = c
          · subst z; exact o5 k (by omega)
          · exact o4 x a (by omega) k hk
        | succ e ih2 =>
          intro i O hi o1 o2 o3 o4 o5
          have hgr := gr_rng hR hW c q (k := i) (by omega)
          apply hY
          unfold w_Slips_begin_B1
          refine ⟨by omega, ?_⟩
          (intro a ea _ _; have ea : a = O 21 c := ea)
          rw [c_layers o1.1] at ea
          refine ⟨by omega, fun h => absurd h (by omega), fun _ => ?_⟩
          refine gripOf_ok o2 o3 (by omega) ⟨⟨by omega, by omega⟩, ?_⟩
          (intro O1 eO1; subst eO1)
          have f : ∀ h, h ≠ 10 → h ≠ 50 → (mset O 50 (c * 6 + i) (gr B c q i)) h = O h := fun h _ e => mset_ne e
          refine ih2 (i + 1) _ (by omega) (o1.ag (slAg f)) (o2.fr (mset_ne (by decide)) (mset_ne (by decide)) (mset_ne (by decide)) (o2.b.hC.ag (slAg f))) (fun k hk => by rw [mset_ne (by decide), mset_ne (by decide)]; exact o3 k hk) (fun x a b k hk => ?_) (fun k hk => ?_)
          · have := nly_i hR x
            rw [ms_n (by omega)]
            exact o4 x a b k hk
          · by_cases z : k = i
            · rw [z, ms_s]
            · rw [ms_n (by omega)]; exact o5 k (by omega)
      exact key2 (nly B c) 0 N1 (by omega) I1 t1 t2 g1 (fun k hk => absurd hk (by omega))
  exact key (hi + 1 - lo).toNat lo M (by omega) (Int.le_refl _) I (fun x a b => absurd a (by omega))
theorem weigh_ok {a b z : Int} {Q : Int → Mem → Prop} (I : Inv M B) (a0 : 0 ≤ a) (a6 : a < 6) (b0 : 0 ≤ b) (b6 : b < 6) (hz : -1000 ≤ z ∧ z ≤ 1000) (G : GR M B q (min a b) (max a b))
    (k1 : slp B a b z → ∀ N, N 10 1 = sH B q a b z → N 10 2 = sD B a b z → FrS M N → Q 1 N) (k0 : ¬ slp B a b z → ∀ N, FrS M N → Q 0 N) : w_Slips_weigh M a b z Q := by
  have hR := I.2.2.1
  have hW := I.2.2.2.1
  have hwa := wab_rng hR a z (nly B a)
  have hwb := wab_rng hR b z (nly B b)
  have hna := nly_i hR a
  have hnb := nly_i hR b
  unfold w_Slips_weigh
  (intro M0 eM0; subst eM0)
  refine ⟨by omega, by omega, ?_⟩
  unfold w_Slips_weigh_L0
  intro X hX
  have key : ∀ (d n : Nat) (N : Mem), n + d = (max a b - min a b + 1).toNat → N 10 1 = hs B q z (min a b) n → FrS M N → (∀ c : Int, min a b ≤ c → c < min a b + n → lAt B c z ≠ -1) → X (min a b + n) N := by
    intro d
    induction d with
    | zero =>
      intro n N hd h1 h2 h3
      rw [Nat.add_zero] at hd
      have IN := I.ag (slAg (fun h e _ => h2.1 h e))
      apply hX
      unfold w_Slips_weigh_B0
      refine ⟨by omega, by omega, by omega, by omega, fun _ => ?_, fun h => absurd h (by omega)⟩
      refine weightAbove_ok IN.1 hR a0 a6 hz (weightAbove_ok IN.1 hR b0 b6 hz ⟨by omega, by omega, ?_⟩)
      (intro N1 eN1; subst eN1)
      have f1 : FrS M (mset N 10 2 (wab B a z (nly B a) - wab B b z (nly B b))) := ⟨fun h e => by rw [mset_ne e]; exact h2.1 h e, fun k e1 e2 => by rw [ms_n e2]; exact h2.2 k e1 e2⟩
      intro v ev _ _
      rw [ms_s] at ev
      refine ⟨fun hv => k0 (fun s => by have := s.2; omega) _ f1, fun hv => k1 ⟨fun c x y => h3 c x (by omega), by omega⟩ _ ?_ ?_ f1⟩
      · rw [ms_n (by decide), h1, hd]
      · rw [ms_s]
    | succ d ih =>
      intro n N hd h1 h2 h3
      have IN := I.ag (slAg (fun h e _ => h2.1 h e))
      have hhs := hs_rng hR hW q z (min a b) n
      have hn1 := nly_i hR (min a b + n)
      apply hX
      unfold w_Slips_weigh_B0
      refine ⟨by omega, by omega, by omega, by omega, fun h => absurd h (by omega), fun _ => ?_⟩
      refine layerAt_ok IN.1 hR (by omega) (by omega) (by omega) ?_
      have hlr := lAt_rng (B := B) (min a b + n) z
      refine ⟨by rcases hlr with e | ⟨k, e1, e2⟩ <;> omega, fun hl => ?_, fun hl => k0 (fun s => s.1 (min a b + n) (by omega) (by omega) hl) N h2⟩
      obtain ⟨k, e1, e2⟩ := hlr.resolve_left hl
      clear hlr
      have hgr := gr_rng hR hW (min a b + n) q (k := k) (by omega)
      have est : hs B q z (min a b) (n + 1) = hs B q z (min a b) n + gr B (min a b + n) q k := by
        show hs B q z (min a b) n + gr B (min a b + n) q (lAt B (min a b + n) z).toNat = _
        rw [e1]
        rfl
      (intro v ev _ _; have ev : v = N 10 1 := ev)
      rw [h1] at ev
      rw [e1]
      refine ⟨by omega, ?_⟩
      (intro g eg _ _; have eg : g = N 50 ((min a b + n) * 6 + k) := eg)
      rw [h2.1 _ (by decide), G (min a b + n) (by omega) (by omega) k e2] at eg
      refine ⟨by omega, ?_⟩
      (intro N1 eN1; subst eN1)
      have st := ih (n + 1) (mset N 10 1 (v + g)) (by omega) (by rw [ms_s, est, ev, eg]) ⟨fun h e => by rw [mset_ne e]; exact h2.1 h e, fun k e1 e2 => by rw [ms_n e1]; exact h2.2 k e1 e2⟩ (fun c x y => ?_)
      · rw [(show min a b + ((n + 1 : Nat) : Int) = min a b + n + 1 by omega)] at st
        exact st
      · by_cases z : c = min a b + n
        · rw [z]; exact hl
        · exact h3 c x (by omega)
  have := key (max a b - min a b + 1).toNat 0 (mset M 10 1 0) (by omega) (by rw [ms_s]; rfl) ⟨fun h e => mset_ne e, fun k e1 e2 => ms_n e1⟩ (fun c x y => absurd y (by omega))
  rw [(show min a b + ((0 : Nat) : Int) = min a b by omega)] at this
  exact this
/-- the model's -/
theorem m_findSlip_ok {a b z : Int} {Q : Int → Mem → Prop} (I : Inv M B) (q0 : 0 ≤ q) (q6 : q < 6) (a0 : 0 ≤ a) (a6 : a < 6) (b0 : 0 ≤ b) (b6 : b < 6) (hz : -1000 ≤ z ∧ z ≤ 1000)
    (k1 : slp B a b z → ∀ N, Inv N B → N 12 48 = sH B q a b z → N 12 49 = sD B a b z → Q 1 N) (k0 : ¬ slp B a b z → ∀ N, Inv N B → Q 0 N) : w_m_findSlip M q a b z Q := by
  have hR := I.2.2.1
  have hW := I.2.2.2.1
  have hwa := wab_rng hR a z (nly B a)
  have hwb := wab_rng hR b z (nly B b)
  have hna := nly_i hR a
  have hnb := nly_i hR b
  unfold w_m_findSlip
  refine m_plain_ok (fun M0 p1 p2 p3 p4 => ?_)
  have f0 : FrM M M0 := ⟨fun h _ _ _ _ _ _ _ e => p3 h e, fun k a b _ => p4 k a b⟩
  have I0 := I.ag f0.ag
  (intro M1 eM1; subst eM1)
  have I1 : Inv (mset M0 12 48 0) B := I0.ag (Ag.rf.sF (by decide))
  have main : ∀ hi : Int, hi = max a b → w_m_findSlip_L0 Q q a b z hi (min a b) (mset M0 12 48 0) := by
    intro hi ehi
    subst ehi
    unfold w_m_findSlip_L0
    intro X hX
    have key : ∀ (d n : Nat) (N : Mem), n + d = (max a b - min a b + 1).toNat → Inv N B → N 12 22 = 0 → N 12 23 = 0 → N 12 48 = hs B q z (min a b) n → (∀ c : Int, min a b ≤ c → c < min a b + n → lAt B c z ≠ -1) → X (min a b + n) N := by
      intro d
      induction d with
      | zero =>
        intro n N hd IN m1 m2 h1 h3
        rw [Nat.add_zero] at hd
        apply hX
        unfold w_m_findSlip_B0
        refine ⟨by omega, by omega, fun _ => ?_, fun h => absurd h (by omega)⟩
        refine m_above_ok IN.2.1 hR a0 a6 hz (m_above_ok IN.2.1 hR b0 b6 hz ⟨by omega, by omega, ?_⟩)
        (intro N1 eN1; subst eN1)
        have I2 : Inv (mset N 12 49 (wab B a z (nly B a) - wab B b z (nly B b))) B := IN.ag (Ag.rf.sF (by decide))
        intro v ev _ _
        rw [ms_s] at ev
        refine ⟨fun hv => k0 (fun s => by have := s.2; omega) _ I2, fun hv => k1 ⟨fun c x y => h3 c x (by omega), by omega⟩ _ I2 ?_ ?_⟩
        · rw [ms_n (by decide), h1, hd]
        · rw [ms_s]
      | succ d ih =>
        intro n N hd IN m1 m2 h1 h3
        have hhs := hs_rng hR hW q z (min a b) n
        have hn1 := nly_i hR (min a b + n)
        apply hX
        unfold w_m_findSlip_B0
        refine ⟨by omega, by omega, fun h => absurd h (by omega), fun _ => ?_⟩
        refine m_layerAt_ok IN.2.1 hR (by omega) (by omega) (by omega) ?_
        have hlr := lAt_rng (B := B) (min a b + n) z
        refine ⟨by rcases hlr with e | ⟨k, e1, e2⟩ <;> omega, fun hl => ?_, fun hl => k0 (fun s => s.1 (min a b + n) (by omega) (by omega) (by rcases hlr with e | ⟨k, e1, e2⟩ <;> omega)) N IN⟩
        obtain ⟨k, e1, e2⟩ := hlr.resolve_left (by omega)
        clear hlr
        have hgr := gr_rng hR hW (min a b + n) q (k := k) (by omega)
        have hgp := gr_parts hR hW (min a b + n) q (k := k) (by omega)
        have est : hs B q z (min a b) (n + 1) = hs B q z (min a b) n + gr B (min a b + n) q k := by
          show hs B q z (min a b) n + gr B (min a b + n) q (lAt B (min a b + n) z).toNat = _
          rw [e1]
          rfl
        refine m_chRun_ok IN.2.1 hR hW (by omega) (by omega) q0 q6 (by decide) (by decide) m1 m2 (by decide) (by decide) (fun P r1 r2 r3 r4 r5 => ?_)
        rw [dig_first] at r1
        have IP := IN.ag r5.ag
        rw [e1]
        refine m_hold_ok IP.2.1 hR (by omega) (by omega) k (by omega) ⟨by omega, ?_⟩
        (intro p ep _ _; have ep : p = P 69 k := ep)
        rw [(r1 k e2).1] at ep
        rw [ep]
        refine ⟨by omega, by omega, ?_⟩
        (intro kd ekd _ _; have ekd : kd = P 56 (6 * (min a b + n) + k) := ekd)
        rw [m_kind IP.2.1, Int.mul_comm 6] at ekd
        (intro ru eru _ _; have eru : ru = P 64 (5 * kd + 4) := eru)
        rw [m_rule IP.2.1, ekd, Int.mul_comm 5] at eru
        have eru : ru = rlk B (min a b + n) k 4 := eru
        rw [eru]
        refine ⟨by omega, ?_⟩
        (intro v ev _ _; have ev : v = P 12 48 := ev)
        rw [r5.2 _ (by decide) (by decide) (by decide), h1] at ev
        refine ⟨by omega, ?_⟩
        (intro g eg _ _; have eg : g = P 70 k := eg)
        rw [(r1 k e2).2] at eg
        have J : ∀ y : Int, y = gr B (min a b + n) q k → w_m_findSlip_j1 Q X q a b z (max a b) (min a b + n) v y P := by
          intro y ey
          unfold w_m_findSlip_j1
          refine ⟨by omega, ?_⟩
          (intro P1 eP1; subst eP1)
          have st := ih (n + 1) (mset P 12 48 (v + y)) (by omega) (IP.ag (Ag.rf.sF (by decide))) (by rw [ms_n (by decide)]; exact r3) (by rw [ms_n (by decide)]; exact r4) (by rw [ms_s, est, ev, ey]) (fun c x y => ?_)
          · rw [(show min a b + ((n + 1 : Nat) : Int) = min a b + n + 1 by omega)] at st
            exact st
          · by_cases z : c = min a b + n
            · rw [z]; omega
            · exact h3 c x (by omega)
        refine ⟨fun hg => ⟨by omega, J _ ?_⟩, fun hg => J 0 ?_⟩
        · unfold gr
          rw [if_pos (by omega)]
        · unfold gr
          rw [if_neg (by omega)]
    have := key (max a b - min a b + 1).toNat 0 (mset M0 12 48 0) (by omega) I1 (by rw [ms_n (by decide)]; exact p1) (by rw [ms_n (by decide)]; exact p2) (by rw [ms_s]; rfl) (fun c x y => absurd y (by omega))
    rw [(show min a b + ((0 : Nat) : Int) = min a b by omega)] at this
    exact this
  have J0 : ∀ s : Int, s = min a b → w_m_findSlip_j0 Q q a b z s (mset M0 12 48 0) := by
    intro s es
    subst es
    unfold w_m_findSlip_j0
    exact ⟨by omega, by omega, fun h => main a (by omega), fun h => main b (by omega)⟩
  exact ⟨by omega, by omega, fun h => J0 b (by omega), fun h => J0 a (by omega)⟩
end WEIGH

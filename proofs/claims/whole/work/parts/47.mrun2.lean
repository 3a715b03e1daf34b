/-- what a run of the model may change -/
def Fr6 (M N : Mem) : Prop := ∀ h, h ≠ 69 → h ≠ 70 → h ≠ 71 → h ≠ 72 → h ≠ 73 → h ≠ 74 → N h = M h
theorem Fr6.rf {M : Mem} : Fr6 M M := fun _ _ _ _ _ _ _ => rfl
theorem Fr6.trans {M N O : Mem} (h1 : Fr6 M N) (h2 : Fr6 N O) : Fr6 M O := fun h a b c d e f => (h2 h a b c d e f).trans (h1 h a b c d e f)
theorem Fr6.ag {M N : Mem} (h : Fr6 M N) : Ag M N := by
  intro q hq
  have e : N q.1 = M q.1 := h q.1 (by revert q; decide) (by revert q; decide) (by revert q; decide) (by revert q; decide) (by revert q; decide) (by revert q; decide)
  obtain ⟨q1, q2⟩ := q
  cases q2 with
  | none => exact e
  | some k => exact congrFun e k
/-- two rows of states alone change -/
def Fr2 (M N : Mem) : Prop := ∀ h, h ≠ 69 → h ≠ 70 → N h = M h
theorem Fr2.rf {M : Mem} : Fr2 M M := fun _ _ _ => rfl
theorem Fr2.trans {M N O : Mem} (h1 : Fr2 M N) (h2 : Fr2 N O) : Fr2 M O := fun h a b => (h2 h a b).trans (h1 h a b)
theorem Fr2.six {M N : Mem} (h1 : Fr2 M N) : Fr6 M N := fun h a b _ _ _ _ => h1 h a b
theorem m_grow_ok {M : Mem} {k : Nat} {by' s p : Int} {Q : Mem → Prop} (hk : k < 6) (hp : M 69 k = p) (hw : M 70 k = -1) (p0 : 0 ≤ p ∧ p ≤ 1000) (hb : 0 ≤ by' ∧ by' ≤ 10000000) (hs : 0 ≤ s ∧ s ≤ 59)
    (kk : ∀ N, N 69 k = (gain (p, -1) s by').1 → N 70 k = (gain (p, -1) s by').2 → (∀ j : Int, j ≠ k → N 69 j = M 69 j ∧ N 70 j = M 70 j) → Fr2 M N → Q N) : w_m_grow M k by' s Q := by
  unfold w_m_grow
  refine ⟨by omega, ?_⟩
  (intro a ea _ _; have ea : a = M 69 k := ea)
  rw [hp] at ea
  subst ea
  refine And.intro ⟨by omega, by omega⟩ ?_
  (intro N1 eN1; subst eN1)
  refine ⟨by omega, ?_⟩
  intro b eb _ _
  rw [ms_s] at eb
  refine ⟨fun h => ?_, fun h => ⟨by omega, ?_⟩⟩
  · have e : gain (a, -1) s by' = (a + by', -1) := by unfold gain; rw [if_pos rfl, if_pos (show a + by' < 1000 by omega)]
    refine kk _ ?_ ?_ (fun j hj => ⟨?_, rfl⟩) (fun h h1 h2 => mset_ne h1)
    · rw [e, ms_s]
    · rw [e]; exact hw
    · rw [ms_n hj]
  · (intro N2 eN2; subst eN2)
    refine And.intro ⟨by omega, by omega⟩ ?_
    (intro N3 eN3; subst eN3)
    have e : gain (a, -1) s by' = (1000, s) := by unfold gain; rw [if_pos rfl, if_neg (show ¬ a + by' < 1000 by omega)]
    refine kk _ ?_ ?_ (fun j hj => ⟨?_, ?_⟩) (fun h h1 h2 => by rw [mset_ne h2, mset_ne h1, mset_ne h1])
    · rw [e, mset_ne (by decide), ms_s]
    · rw [e, ms_s]
    · rw [mset_ne (by decide), ms_n hj, ms_n hj]
    · rw [ms_n hj, mset_ne (by decide), mset_ne (by decide)]
/-- the rows of wetness and hold are laid -/
def Laid (M B : Mem) (c : Int) : Prop := ∀ k : Nat, k < nly B c → (M 73 k = 1 ∧ wet B c k ∨ M 73 k = 0 ∧ ¬ wet B c k) ∧ M 74 k = hld B c k
theorem Laid.fr {M N B : Mem} {c : Int} (h : Laid M B c) (e1 : N 73 = M 73) (e2 : N 74 = M 74) : Laid N B c := fun k hk => by rw [e1, e2]; exact h k hk
theorem nly_i {B : Mem} (hR : RB B) (c : Int) : B 2 c = (nly B c : Nat) ∧ nly B c ≤ 6 := by
  have := b_layers hR c
  unfold nly
  omega
theorem PM.cg {M : Mem} {P P' : Nat → Int × Int} {n : Nat} (h : PM M P n) (e : ∀ k, k < n → P' k = P k) : PM M P' n := fun k hk => by rw [e k hk]; exact h k hk
theorem m_drain_ok {M B : Mem} {c mo : Int} {s : Nat} {P : Nat → Int × Int} {Q : Mem → Prop} (hM : MB M B) (hR : RB B) (c0 : 0 ≤ c) (c6 : c < 6) (hmo : M 12 22 = mo) (mo0 : 0 ≤ mo ∧ mo ≤ 3000) (hs : s < 60) (hP : ∀ k, okP (P k) (s + 1)) (hpm : PM M P (nly B c)) (hld : Laid M B c)
    (kk : ∀ N, PM N (drn B c mo P s) (nly B c) → Laid N B c → (∀ h, h ≠ 69 → h ≠ 70 → h ≠ 72 → N h = M h) → Q N) : w_m_drain M c s Q := by
  obtain ⟨hn, hn6⟩ := nly_i hR c
  unfold w_m_drain
  refine ⟨by omega, ?_⟩
  (intro a ea _ _; have ea : a = M 55 c := ea)
  rw [m_layers hM, hn] at ea
  subst ea
  -- behind the losses
  have L1 : ∀ M1 : Mem, PM M1 P (nly B c) → Laid M1 B c → (∀ j : Nat, j < nly B c → M1 72 j = los B c mo (P j).1 j) → (∀ h, h ≠ 69 → h ≠ 70 → h ≠ 72 → M1 h = M h) → w_m_drain_L1 Q s (nly B c) 0 M1 := by
    intro M1 hpm1 hld1 hlo hfr
    unfold w_m_drain_L1
    intro X hX
    have key : ∀ (d i : Nat) (N : Mem), i + d = nly B c → PM N (fun k => if k < i then drn B c mo P s k else P k) (nly B c) → N 72 = M1 72 → Laid N B c → (∀ h, h ≠ 69 → h ≠ 70 → h ≠ 72 → N h = M h) → X i N := by
      intro d
      induction d with
      | zero =>
        intro i N hi h1 h2 h3 h4
        apply hX
        unfold w_m_drain_B1
        refine ⟨by omega, by omega, fun _ => kk N (h1.cg (fun k hk => by rw [if_pos (by omega)])) h3 h4, fun h => absurd h (by omega)⟩
      | succ d ih =>
        intro i N hi h1 h2 h3 h4
        have hi6 : i < nly B c := by omega
        have hPi := hP i
        have hli := los_rng hR c mo0.1 ⟨hPi.1, hPi.2.1⟩ i
        have hb := h1 i hi6
        dsimp only at hb
        rw [if_neg (by omega)] at hb
        obtain ⟨q1, q2, q3, q4, q5⟩ := id hPi
        apply hX
        unfold w_m_drain_B1
        refine ⟨by omega, by omega, fun h => absurd h (by omega), fun _ => ⟨by omega, ?_⟩⟩
        (intro a ea _ _; have ea : a = N 69 i := ea)
        refine ⟨by omega, ?_⟩
        (intro b eb _ _; have eb : b = N 72 i := eb)
        rw [h2, hlo i hi6] at eb
        rw [hb.1] at ea
        subst ea
        subst eb
        refine And.intro ⟨by omega, by omega⟩ ?_
        (intro N1 eN1; subst eN1)
        have step : ∀ O : Mem, O 69 i = (drn B c mo P s i).1 → O 70 i = (drn B c mo P s i).2 → (∀ j : Int, j ≠ i → O 69 j = N 69 j ∧ O 70 j = N 70 j) → Fr2 N O → X (i + 1 : Nat) O := by
          intro O o1 o2 o3 o4
          refine ih (i + 1) O (by omega) (fun k hk => ?_) ((o4 _ (by decide) (by decide)).trans h2) (h3.fr (o4 _ (by decide) (by decide)) (o4 _ (by decide) (by decide))) (fun h a b c => (o4 h a b).trans (h4 h a b c))
          dsimp only
          by_cases e : k = i
          · subst e
            rw [if_pos (by omega)]
            exact ⟨o1, o2⟩
          · have e2 : ¬ (k : Int) = i := fun z => e (Int.ofNat_inj.mp z)
            obtain ⟨g1, g2⟩ := o3 k e2
            rw [g1, g2]
            have := h1 k hk
            dsimp only at this
            by_cases e3 : k < i
            · rw [if_pos e3] at this; rw [if_pos (by omega)]; exact this
            · rw [if_neg e3] at this; rw [if_neg (by omega)]; exact this
        have fr1 : Fr2 N (mset N 69 i ((P i).1 - los B c mo (P i).1 i)) := fun h h1 h2 => mset_ne h1
        have oth : ∀ j : Int, j ≠ i → (mset N 69 i ((P i).1 - los B c mo (P i).1 i)) 69 j = N 69 j ∧ (mset N 69 i ((P i).1 - los B c mo (P i).1 i)) 70 j = N 70 j := fun j hj => ⟨ms_n hj, rfl⟩
        have hwt := (h3 i hi6).1
        refine ⟨by omega, by omega, fun h => ?_, fun h => ⟨by omega, ?_⟩⟩
        · -- the lowest layer
          have e : drn B c mo P s i = ((P i).1 - los B c mo (P i).1 i, (P i).2) := by
            unfold drn
            by_cases hw : wet B c i
            · rw [if_pos hw, if_neg (by omega)]
              unfold gain
              by_cases hg : (P i).2 = -1
              · have := q3 hg
                rw [if_pos hg, if_pos (show (P i).1 - los B c mo (P i).1 i + 0 < 1000 by omega), Int.add_zero, hg]
              · rw [if_neg hg]
            · rw [if_neg hw]
              have : los B c mo (P i).1 i = 0 := by unfold los; rw [if_neg hw]
              rw [this, Int.sub_zero]
          refine step _ ?_ ?_ oth fr1
          · rw [ms_s, e]
          · rw [e]; exact hb.2
        · (intro d9 ed9 _ _; have ed9 : d9 = N 73 i := ed9)
          refine ⟨fun hz => ?_, fun hz => ⟨by omega, ?_⟩⟩
          · have hw : ¬ wet B c i := by omega
            have e : drn B c mo P s i = P i := by unfold drn; rw [if_neg hw]
            have e0 : los B c mo (P i).1 i = 0 := by unfold los; rw [if_neg hw]
            refine step _ ?_ ?_ oth fr1
            · rw [ms_s, e, e0, Int.sub_zero]
            · rw [e]; exact hb.2
          · have hw : wet B c i := by
              rcases hwt with z | z
              · exact z.2
              · exact absurd (ed9.trans z.1) hz
            (intro g eg _ _; have eg : g = N 70 i := eg)
            rw [hb.2] at eg
            refine ⟨fun hg => ?_, fun hg => ⟨by omega, ?_⟩⟩
            · have e : drn B c mo P s i = ((P i).1 - los B c mo (P i).1 i, (P i).2) := by
                unfold drn
                rw [if_pos hw]
                unfold gain
                rw [if_neg (show ¬ (P i).2 = -1 by omega)]
              refine step _ ?_ ?_ oth fr1
              · rw [ms_s, e]
              · rw [e]; exact hb.2
            · have hg1 : (P i).2 = -1 := by omega
              have hP2 := hP (i + 1)
              have hl2 := los_rng hR c mo0.1 ⟨hP2.1, hP2.2.1⟩ (i + 1)
              have hP2' := hP2.2.1
              intro f ef _ _
              have ef : f = los B c mo (P (i + 1)).1 (i + 1) := by
                have z : (mset N 69 i ((P i).1 - los B c mo (P i).1 i)) 72 = M1 72 := h2
                rw [z] at ef
                have := hlo (i + 1) (by omega)
                rw [ef]; exact this
              have e : drn B c mo P s i = gain ((P i).1 - los B c mo (P i).1 i, -1) s (los B c mo (P (i + 1)).1 (i + 1) / 2) := by
                unfold drn
                rw [if_pos hw, if_pos (by omega), hg1]
              refine m_grow_ok (p := (P i).1 - los B c mo (P i).1 i) (by omega) ms_s (show N 70 i = -1 by rw [hb.2]; exact hg1) (by omega) (by omega) (by omega) (fun O o1 o2 o3 o4 => ?_)
              rw [ef, ← e] at o1 o2
              exact step O o1 o2 (fun j hj => ⟨(o3 j hj).1.trans (oth j hj).1, (o3 j hj).2.trans (oth j hj).2⟩) (fr1.trans o4)
    exact key (nly B c) 0 M1 (by omega) (hpm1.cg (fun k _ => by rw [if_neg (by omega)])) rfl hld1 hfr
  unfold w_m_drain_L0
  intro X hX
  have key : ∀ (d i : Nat) (N : Mem), i + d = nly B c → (∀ j : Nat, j < i → N 72 j = los B c mo (P j).1 j) → (∀ h, h ≠ 72 → N h = M h) → X i N := by
    intro d
    induction d with
    | zero =>
      intro i N hi h1 h2
      apply hX
      unfold w_m_drain_B0
      refine ⟨by omega, by omega, fun _ => ?_, fun h => absurd h (by omega)⟩
      refine L1 N (fun k hk => ?_) (hld.fr (h2 _ (by decide)) (h2 _ (by decide))) (fun j hj => h1 j (by omega)) (fun h _ _ hl => h2 h hl)
      rw [h2 69 (by decide), h2 70 (by decide)]
      exact hpm k hk
    | succ d ih =>
      intro i N hi h1 h2
      have hi6 : i < nly B c := by omega
      have hPi := hP i
      have hli := los_rng hR c mo0.1 ⟨hPi.1, hPi.2.1⟩ i
      have hb := hpm i hi6
      obtain ⟨q1, q2, q3, q4, q5⟩ := id hPi
      have fin : ∀ z : Int, z = los B c mo (P i).1 i → w_m_drain_j1 Q X c s (nly B c) i i z N := by
        intro z ez
        unfold w_m_drain_j1
        refine And.intro ⟨by omega, by omega⟩ ?_
        (intro O eO; subst eO)
        refine ih (i + 1) _ (by omega) (fun j hj => ?_) (fun h hh => by rw [mset_ne hh]; exact h2 h hh)
        by_cases e : j = i
        · subst e; rw [ms_s]; exact ez
        · have e2 : ¬ (j : Int) = i := fun z => e (Int.ofNat_inj.mp z)
          rw [ms_n e2]; exact h1 j (by omega)
      have mid : ∀ z : Int, z = min 1000 (rlk B c i 1 + mo) → w_m_drain_j0 Q X c s (nly B c) i z N := by
        intro z ez
        unfold w_m_drain_j0
        refine ⟨by omega, ?_⟩
        (intro a ea _ _; have ea : a = N 73 i := ea)
        rw [h2 73 (by decide)] at ea
        have hwt := (hld i hi6).1
        refine ⟨fun hz => fin 0 ?_, fun hz => ⟨by omega, ?_⟩⟩
        · have hw : ¬ wet B c i := by omega
          unfold los; rw [if_neg hw]
        · have hw : wet B c i := by
            rcases hwt with y | y
            · exact y.2
            · exact absurd (ea.trans y.1) hz
          (intro b eb _ _; have eb : b = N 69 i := eb)
          rw [h2 69 (by decide), hb.1] at eb
          subst eb
          rw [ez]
          refine ⟨by omega, fin _ ?_⟩
          unfold los; rw [if_pos hw]
      have hkd := b_kind hR (c * 6 + i)
      apply hX
      unfold w_m_drain_B0
      refine ⟨by omega, by omega, fun h => absurd h (by omega), fun _ => ⟨by omega, ?_⟩⟩
      (intro a ea _ _; have ea : a = N 56 (6 * c + i) := ea)
      rw [h2 56 (by decide), m_kind hM, Int.mul_comm 6 c] at ea
      (intro b eb _ _; have eb : b = N 64 (5 * a + 1) := eb)
      rw [h2 64 (by decide), m_rule hM, ea, Int.mul_comm 5] at eb
      (intro d9 ed9 _ _; have ed9 : d9 = N 12 22 := ed9)
      rw [h2 12 (by decide), hmo] at ed9
      have er : b = rlk B c i 1 := eb
      refine ⟨fun h => mid _ (by omega), fun h => mid _ (by omega)⟩
  exact key (nly B c) 0 M (by omega) (fun j hj => absurd hj (by omega)) (fun _ _ => rfl)

/-! ===== calls that write the state ===== -/
-- column
theorem S_column_ok {M B : Mem} {c w v : Int} {Q : Int → Mem → Prop} (hC : CB M B) (hc : R32 c) (hw : R32 w) (hv : R32 v) (kU : ¬ (0 ≤ c ∧ c < 6) → Q (-1001) M) (kO : 0 ≤ c ∧ c < 6 → ¬ ((w = 0 ∧ 0 ≤ v ∧ v ≤ 999) ∨ (w = 1 ∧ 0 ≤ v ∧ v ≤ 400)) → Q (-1002) M)
    (k0 : 0 ≤ c → c < 6 → w = 0 → 0 ≤ v → v ≤ 999 → Q (B 0 c) (mset (mset M 19 c v) 5 9 0)) (k1 : 0 ≤ c → c < 6 → w = 1 → 0 ≤ v → v ≤ 400 → Q (B 1 c) (mset (mset M 20 c v) 5 9 0)) : w_S_column M c w v Q := by
  unfold w_S_column
  refine hasColumn_ok hc (fun h => ?_) (fun c0 c6 => ?_)
  · (first | refine t0n ?_ | refine t0e ?_)
    exact kU h
  (first | refine t1n ?_ | refine t1e ?_)
  refine S_beyond_ok hw (by decide) (by decide) (fun h => ?_) (fun w0 w1 => ?_)
  · (first | refine t1n ?_ | refine t1e ?_)
    exact kO ⟨c0, c6⟩ (by omega)
  (first | refine t0n ?_ | refine t0e ?_)
  refine ⟨hw, fun h => ?_, fun h => ?_⟩
  · unfold w_S_column_j0
    refine S_beyond_ok hv (by decide) (by decide) (fun hb => ?_) (fun v0 v1 => ?_)
    · (first | refine t1n ?_ | refine t1e ?_)
      exact kO ⟨c0, c6⟩ (by omega)
    (first | refine t0n ?_ | refine t0e ?_)
    refine ⟨hw, fun _ => ?_, fun z => absurd z h⟩
    unfold w_S_column_j1
    refine ⟨by omega, ?_⟩
    (intro a ea _ _; have ea : a = M 20 c := ea)
    refine And.intro ⟨by omega, by omega⟩ ?_
    (intro N eN; subst eN)
    refine forget_ok ?_
    rw [ea, c_water hC]
    exact k1 c0 c6 (by omega) v0 v1
  · unfold w_S_column_j0
    refine S_beyond_ok hv (by decide) (by decide) (fun hb => ?_) (fun v0 v1 => ?_)
    · (first | refine t1n ?_ | refine t1e ?_)
      exact kO ⟨c0, c6⟩ (by omega)
    (first | refine t0n ?_ | refine t0e ?_)
    refine ⟨hw, fun z => absurd h z, fun _ => ?_⟩
    unfold w_S_column_j1a
    refine ⟨by omega, ?_⟩
    (intro a ea _ _; have ea : a = M 19 c := ea)
    refine And.intro ⟨by omega, by omega⟩ ?_
    (intro N eN; subst eN)
    refine forget_ok ?_
    rw [ea, c_top hC]
    exact k0 c0 c6 h v0 v1
theorem m_column_ok {M B : Mem} {c w v : Int} {Q : Int → Mem → Prop} (hM : MB M B) (hc : R32 c) (hw : R32 w) (hv : R32 v) (kU : ¬ (0 ≤ c ∧ c < 6) → Q (-1001) M) (kO : 0 ≤ c ∧ c < 6 → ¬ ((w = 0 ∧ 0 ≤ v ∧ v ≤ 999) ∨ (w = 1 ∧ 0 ≤ v ∧ v ≤ 400)) → Q (-1002) M)
    (k0 : 0 ≤ c → c < 6 → w = 0 → 0 ≤ v → v ≤ 999 → ∀ N, MB N (mset B 0 c v) → sme kC M N → (∀ c : Int, 0 ≤ c → c < 6 → N 66 c = 0) → Q (B 0 c) N) (k1 : 0 ≤ c → c < 6 → w = 1 → 0 ≤ v → v ≤ 400 → ∀ N, MB N (mset B 1 c v) → sme kC M N → (∀ c : Int, 0 ≤ c → c < 6 → N 66 c = 0) → Q (B 1 c) N) : w_m_column M c w v Q := by
  unfold w_m_column
  refine m_isColumn_ok hc (fun h => ?_) (fun c0 c6 => ?_)
  · (first | refine t0n ?_ | refine t0e ?_)
    exact kU h
  (first | refine t1n ?_ | refine t1e ?_)
  refine ⟨hw, m_in_ok hw (by decide) (by decide) (fun h => ?_) (fun w0 w1 => ?_)⟩
  · (first | refine t0n ?_ | refine t0e ?_)
    exact kO ⟨c0, c6⟩ (by omega)
  (first | refine t1n ?_ | refine t1e ?_)
  refine ⟨hv, hw, fun h => ?_, fun h => ?_⟩
  · unfold w_m_column_j0
    refine m_in_ok hv (by decide) (by decide) (fun hb => ?_) (fun v0 v1 => ?_)
    · (first | refine t0n ?_ | refine t0e ?_)
      exact kO ⟨c0, c6⟩ (by omega)
    (first | refine t1n ?_ | refine t1e ?_)
    refine m_change_B (fun N hN K f0 _ => ?_)
    refine ⟨hw, fun _ => ⟨by omega, ?_⟩, fun z => absurd z h⟩
    (intro b eb _ _; have eb : b = N 54 c := eb)
    unfold w_m_column_j1
    refine ⟨hw, fun _ => ⟨⟨by omega, by omega⟩, ?_⟩, fun z => absurd z h⟩
    (intro O eO; subst eO)
    rw [eb, m_water (hN B hM)]
    exact k1 c0 c6 (by omega) v0 v1 _ ((hN B hM).setA 1 54 (by decide)) (K.s (by decide)) (fun c a b => by rw [mset_ne (by decide)]; exact f0 c a b)
  · unfold w_m_column_j0
    refine m_in_ok hv (by decide) (by decide) (fun hb => ?_) (fun v0 v1 => ?_)
    · (first | refine t0n ?_ | refine t0e ?_)
      exact kO ⟨c0, c6⟩ (by omega)
    (first | refine t1n ?_ | refine t1e ?_)
    refine m_change_B (fun N hN K f0 _ => ?_)
    refine ⟨hw, fun z => absurd h z, fun _ => ⟨by omega, ?_⟩⟩
    (intro b eb _ _; have eb : b = N 53 c := eb)
    unfold w_m_column_j1
    refine ⟨hw, fun z => absurd h z, fun _ => ⟨⟨by omega, by omega⟩, ?_⟩⟩
    (intro O eO; subst eO)
    rw [eb, m_top (hN B hM)]
    exact k0 c0 c6 h v0 v1 _ ((hN B hM).setA 0 53 (by decide)) (K.s (by decide)) (fun c a b => by rw [mset_ne (by decide)]; exact f0 c a b)
theorem both_column {M B : Mem} {c w v : Int} {Q : Int → Int → Mem → Prop} (I : Inv M B) (hc : R32 c) (hw : R32 w) (hv : R32 v) (k : ∀ (r : Int) (N B' : Mem), Inv N B' → Q r r N) : w_S_column M c w v (fun r M1 => w_m_column M1 c w v (fun r2 M2 => Q r r2 M2)) := by
  obtain ⟨hC, hM, hR, hW, hS, hCC, hCM⟩ := id I
  refine S_column_ok hC hc hw hv (fun h => ?_) (fun h1 h2 => ?_) (fun c0 c6 e v0 v1 => ?_) (fun c0 c6 e v0 v1 => ?_)
  · exact m_column_ok hM hc hw hv (fun _ => k _ _ _ I) (fun a => absurd a h) (fun a b => absurd ⟨a, b⟩ h) (fun a b => absurd ⟨a, b⟩ h)
  · exact m_column_ok hM hc hw hv (fun a => absurd h1 a) (fun _ _ => k _ _ _ I) (fun _ _ a b d => absurd (Or.inl ⟨a, b, d⟩) h2) (fun _ _ a b d => absurd (Or.inr ⟨a, b, d⟩) h2)
  · have hk : sme kM M (mset (mset M 19 c v) 5 9 0) := (sme.rf.s (by decide)).s (by decide)
    have H : Half (mset (mset M 19 c v) 5 9 0) B (mset B 0 c v) := ⟨(hC.setA 0 19 (by decide)).skipF 5 (by decide), hM.km hk, hR.set 0 v0 v1, hW.cg rfl rfl rfl rfl rfl rfl rfl rfl rfl rfl rfl rfl rfl rfl rfl rfl, hS, CC.none ms_s⟩
    refine m_column_ok (hM.km hk) hc hw hv (fun a => absurd ⟨c0, c6⟩ a) (fun _ a => absurd (Or.inl ⟨e, v0, v1⟩) a) (fun _ _ _ _ _ N hN K f0 => k _ _ _ (H.inv K hN (CM.none f0))) (fun _ _ a => absurd a (by omega))
  · have hk : sme kM M (mset (mset M 20 c v) 5 9 0) := (sme.rf.s (by decide)).s (by decide)
    have H : Half (mset (mset M 20 c v) 5 9 0) B (mset B 1 c v) := ⟨(hC.setA 1 20 (by decide)).skipF 5 (by decide), hM.km hk, hR.set 1 v0 v1, hW.cg rfl rfl rfl rfl rfl rfl rfl rfl rfl rfl rfl rfl rfl rfl rfl rfl, hS, CC.none ms_s⟩
    refine m_column_ok (hM.km hk) hc hw hv (fun a => absurd ⟨c0, c6⟩ a) (fun _ a => absurd (Or.inr ⟨e, v0, v1⟩) a) (fun _ _ a => absurd a (by omega)) (fun _ _ _ _ _ N hN K f0 => k _ _ _ (H.inv K hN (CM.none f0)))

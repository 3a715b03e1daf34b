/-! ===== a run by the first choice, both sides ===== -/
/-- what the model's trials may change -/
def FrM (M N : Mem) : Prop := (∀ h, h ≠ 69 → h ≠ 70 → h ≠ 71 → h ≠ 72 → h ≠ 73 → h ≠ 74 → h ≠ 68 → h ≠ 12 → N h = M h) ∧ ∀ k : Int, k ≠ 22 → k ≠ 23 → k ≠ 17 → N 12 k = M 12 k
theorem FrM.rf {M : Mem} : FrM M M := ⟨fun _ _ _ _ _ _ _ _ _ => rfl, fun _ _ _ _ => rfl⟩
theorem FrM.trans {M N O : Mem} (h1 : FrM M N) (h2 : FrM N O) : FrM M O := ⟨fun h a b c d e f g i => (h2.1 h a b c d e f g i).trans (h1.1 h a b c d e f g i), fun k a b c => (h2.2 k a b c).trans (h1.2 k a b c)⟩
theorem Fr6.m {M N : Mem} (h : Fr6 M N) : FrM M N := ⟨fun x a b c d e f _ _ => h x a b c d e f, fun k _ _ _ => congrFun (h 12 (by decide) (by decide) (by decide) (by decide) (by decide) (by decide)) k⟩
theorem FrC.m {M N : Mem} (h : FrC M N) : FrM M N := ⟨fun x _ _ _ _ _ _ a b => h.1 x a b, fun k _ _ a => h.2 k a⟩
theorem FrM.ag {M N : Mem} (h : FrM M N) : Ag M N := by
  have t : ∀ q ∈ kTab, (q.1 ≠ 69 ∧ q.1 ≠ 70 ∧ q.1 ≠ 71 ∧ q.1 ≠ 72 ∧ q.1 ≠ 73 ∧ q.1 ≠ 74 ∧ q.1 ≠ 68) ∧ (q.1 ≠ 12 ∨ (q.2 ≠ none ∧ q.2 ≠ some 22 ∧ q.2 ≠ some 23 ∧ q.2 ≠ some 17)) := by decide
  intro q hq
  obtain ⟨⟨t1, t2, t3, t4, t5, t6, t7⟩, t8⟩ := t q hq
  obtain ⟨q1, q2⟩ := q
  cases q2 with
  | none =>
    rcases t8 with e | e
    · exact h.1 q1 t1 t2 t3 t4 t5 t6 t7 e
    · exact absurd rfl e.1
  | some k =>
    by_cases e : q1 = 12
    · subst e
      rcases t8 with e | e
      · exact absurd rfl e
      · exact h.2 k (fun z => e.2.1 (by rw [z])) (fun z => e.2.2.1 (by rw [z])) (fun z => e.2.2.2 (by rw [z]))
    · exact congrFun (h.1 q1 t1 t2 t3 t4 t5 t6 t7 e) k
theorem dig_first (B : Mem) (c : Int) : dig B c 0 = fun _ => 0 := by
  have l : ∀ (n d : Nat), lft B c n 0 d = 0 := by
    intro n d
    induction d with
    | zero => rfl
    | succ d ih => unfold lft; rw [ih, Int.zero_ediv]
  funext k
  unfold dig
  rw [l, Int.zero_emod]
/-- choosing a place and running by it -/
theorem m_chRun_ok {M B : Mem} {c q p mo le : Int} {Q : Mem → Prop} (hM : MB M B) (hR : RB B) (hW : WF B) (c0 : 0 ≤ c) (c6 : c < 6) (q0 : 0 ≤ q) (q6 : q < 6) (p0 : 0 ≤ p) (p1 : p ≤ 2147483647) (hmo : M 12 22 = mo) (hle : M 12 23 = le) (mo0 : 0 ≤ mo ∧ mo ≤ 3000) (le0 : 0 ≤ le ∧ le ≤ 3000)
    (kk : ∀ N, PM N (fin B c q (dig B c p) mo le) (nly B c) → N 12 17 = wgt B c (dig B c p) (nly B c) → N 12 22 = mo → N 12 23 = le → FrM M N → Q N) : w_m_choose M c p (fun M1 => w_m_runOf M1 c q Q) := by
  refine m_choose_ok hM hR hW c0 c6 p0 p1 (fun N h1 h2 h3 => ?_)
  have e1 : N 12 22 = mo := by rw [h3.2 _ (by decide)]; exact hmo
  have e2 : N 12 23 = le := by rw [h3.2 _ (by decide)]; exact hle
  refine m_runOf_ok ⟨hM.ag h3.ag, hR, hW, c0, c6, q0, q6, h1, e1, e2, mo0, le0⟩ (fun O o1 o2 => ?_)
  have eo : O 12 = N 12 := o2 12 (by decide) (by decide) (by decide) (by decide) (by decide) (by decide)
  exact kk O o1 (by rw [eo]; exact h2) (by rw [eo]; exact e1) (by rw [eo]; exact e2) (h3.m.trans o2.m)
theorem m_plainRun_ok {M B : Mem} {c q : Int} {Q : Mem → Prop} (hM : MB M B) (hR : RB B) (hW : WF B) (c0 : 0 ≤ c) (c6 : c < 6) (q0 : 0 ≤ q) (q6 : q < 6)
    (kk : ∀ N, PM N (fin B c q (fun _ => 0) 0 0) (nly B c) → FrM M N → Q N) : w_m_plain M (fun M0 => w_m_choose M0 c 0 (fun M1 => w_m_runOf M1 c q Q)) := by
  refine m_plain_ok (fun N h1 h2 h3 h4 => ?_)
  have f : FrM M N := ⟨fun h _ _ _ _ _ _ _ e => h3 h e, fun k a b _ => h4 k a b⟩
  refine m_chRun_ok (hM.ag f.ag) hR hW c0 c6 q0 q6 (by decide) (by decide) h1 h2 (by decide) (by decide) (fun O o1 _ _ _ o5 => ?_)
  rw [dig_first] at o1
  exact kk O o1 (f.trans o5)
theorem both_run {M B : Mem} {c q l w : Int} {Q : Int → Int → Mem → Prop} (I : Inv M B) (hc : R32 c) (hq : R32 q) (hl : R32 l) (hw : R32 w) (k : ∀ (r : Int) (N B' : Mem), Inv N B' → Q r r N) : w_S_run M c q l w (fun r M1 => w_m_run M1 c q l w (fun r2 M2 => Q r r2 M2)) := by
  obtain ⟨hC, hM, hR, hW, hS, hCC, hCM⟩ := id I
  obtain ⟨hn, hn6⟩ := nly_i hR c
  have hsh := b_shakes hR 0
  unfold w_S_run
  refine hasLayer_ok hC hc hl (fun h => ?_) (fun c0 c6 l0 l6 => ?_)
  · (first | refine t0n ?_ | refine t0e ?_)
    unfold w_m_run
    refine m_isLayer_ok hM hc hl (fun _ => ?_) (fun a b d e => absurd ⟨a, b, d, e⟩ h)
    (first | refine t0n ?_ | refine t0e ?_)
    exact k _ _ _ I
  (first | refine t1n ?_ | refine t1e ?_)
  refine hasShake_ok hC hq (fun h => ?_) (fun q0 q6 => ?_)
  · (first | refine t0n ?_ | refine t0e ?_)
    unfold w_m_run
    refine m_isLayer_ok hM hc hl (fun h => absurd ⟨c0, c6, l0, l6⟩ h) (fun _ _ _ _ => ?_)
    (first | refine t1n ?_ | refine t1e ?_)
    refine m_isShake_ok hM hq (fun _ => ?_) (fun a b => absurd ⟨a, b⟩ h)
    (first | refine t0n ?_ | refine t0e ?_)
    exact k _ _ _ I
  (first | refine t1n ?_ | refine t1e ?_)
  refine S_beyond_ok hw (by decide) (by decide) (fun h => ?_) (fun w0 w1 => ?_)
  · (first | refine t1n ?_ | refine t1e ?_)
    unfold w_m_run
    refine m_isLayer_ok hM hc hl (fun h => absurd ⟨c0, c6, l0, l6⟩ h) (fun _ _ _ _ => ?_)
    (first | refine t1n ?_ | refine t1e ?_)
    refine m_isShake_ok hM hq (fun h => absurd ⟨q0, q6⟩ h) (fun _ _ => ?_)
    (first | refine t1n ?_ | refine t1e ?_)
    refine ⟨hw, m_in_ok hw (by decide) (by decide) (fun _ => ?_) (fun a b => absurd h (by omega))⟩
    (first | refine t0n ?_ | refine t0e ?_)
    exact k _ _ _ I
  (first | refine t0n ?_ | refine t0e ?_)
  refine runFirst_ok hC hR hW c0 c6 q0 (by omega) (fun N h1 h2 h3 => ?_)
  have IN := I.ag h3.ag
  have el : l = (l.toNat : Nat) := by omega
  have hl2 := h2 l.toNat (by omega)
  rw [← el] at hl2
  -- the model's answer
  have go : ∀ r : Int, (w = 0 → r = (fin B c q (fun _ => 0) 0 0 l.toNat).1) → (¬ w = 0 → r = (fin B c q (fun _ => 0) 0 0 l.toNat).2) → w_m_run N c q l w (fun r2 M2 => Q r r2 M2) := by
    intro r r1 r2
    unfold w_m_run
    refine m_isLayer_ok IN.2.1 hc hl (fun h => absurd ⟨c0, c6, l0, l6⟩ h) (fun _ _ _ _ => ?_)
    (first | refine t1n ?_ | refine t1e ?_)
    refine m_isShake_ok IN.2.1 hq (fun h => absurd ⟨q0, q6⟩ h) (fun _ _ => ?_)
    (first | refine t1n ?_ | refine t1e ?_)
    refine ⟨hw, m_in_ok hw (by decide) (by decide) (fun h => absurd h (by omega)) (fun _ _ => ?_)⟩
    (first | refine t1n ?_ | refine t1e ?_)
    refine m_plainRun_ok IN.2.1 hR hW c0 c6 q0 (by omega) (fun O o1 o2 => ?_)
    have ol := o1 l.toNat (by omega)
    rw [← el] at ol
    refine ⟨hw, fun h => ⟨by omega, ?_⟩, fun h => ⟨by omega, ?_⟩⟩
    · (intro a ea _ _; have ea : a = O 70 l := ea)
      rw [ol.2, ← r2 h] at ea
      rw [ea]
      exact k _ _ _ (IN.ag o2.ag)
    · (intro a ea _ _; have ea : a = O 69 l := ea)
      rw [ol.1, ← r1 h] at ea
      rw [ea]
      exact k _ _ _ (IN.ag o2.ag)
  refine ⟨hw, fun h => ⟨by omega, ?_⟩, fun h => ⟨by omega, ?_⟩⟩
  · (intro a ea _ _; have ea : a = N 15 l := ea)
    rw [hl2.2] at ea
    exact go a (fun z => absurd z h) (fun _ => ea)
  · (intro a ea _ _; have ea : a = N 14 l := ea)
    rw [hl2.1] at ea
    exact go a (fun _ => ea) (fun z => absurd h z)

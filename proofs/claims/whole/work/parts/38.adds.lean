-- house
abbrev houseB (B : Mem) (c w v : Int) : Mem := mset (mset (mset (mset (B) 24 (B 23 0) c) 25 (B 23 0) w) 26 (B 23 0) v) 23 0 (B 23 0 + 1)
theorem S_house_ok {M B : Mem} {c w v : Int} {Q : Int → Mem → Prop} (hC : CB M B) (hR : RB B) (hc : R32 c) (hw : R32 w) (hv : R32 v) (kU : ¬ (0 ≤ c ∧ c < 6) → Q (-1001) M) (kO : (0 ≤ c ∧ c < 6) → ¬ (1 ≤ w ∧ w ≤ 60 ∧ 0 ≤ v ∧ v ≤ 9999) → Q (-1002) M) (kF : (0 ≤ c ∧ c < 6) → (1 ≤ w ∧ w ≤ 60 ∧ 0 ≤ v ∧ v ≤ 9999) → B 23 0 = 8 → Q (-1004) M) (kk : (0 ≤ c ∧ c < 6) → (1 ≤ w ∧ w ≤ 60 ∧ 0 ≤ v ∧ v ≤ 9999) → B 23 0 < 8 → ∀ N, CB N (houseB B c w v) → sme kM M N → (∀ h, h = 5 ∨ h = 36 ∨ h = 37 → N h = M h) → Q (B 23 0) N) : w_S_house M c w v Q := by
  have hn := b_houses hR 0
  unfold w_S_house
  refine hasColumn_ok hc (fun h => ?_) (fun c0 c6 => ?_)
  · (first | refine t0n ?_ | refine t0e ?_)
    exact kU h
  (first | refine t1n ?_ | refine t1e ?_)
  refine S_beyond_ok hw (by decide) (by decide) (fun h => ?_) (fun w0 w1 => ?_)
  · (first | refine t1n ?_ | refine t1e ?_)
    exact kO ⟨c0, c6⟩ (by omega)
  (first | refine t0n ?_ | refine t0e ?_)
  refine S_beyond_ok hv (by decide) (by decide) (fun h => ?_) (fun v0 v1 => ?_)
  · (first | refine t1n ?_ | refine t1e ?_)
    exact kO ⟨c0, c6⟩ (by omega)
  (first | refine t0n ?_ | refine t0e ?_)
  (intro a ea _ _; have ea : a = M 6 3 := ea)
  rw [c_houses hC] at ea
  refine ⟨fun h => ?_, fun h => kF ⟨c0, c6⟩ (by omega) (by omega)⟩
  unfold w_Houses_addHouse
  (intro b0 eb0 _ _; have eb0 : b0 = M 6 3 := eb0)
  rw [c_houses hC] at eb0
  subst eb0
  refine And.intro ⟨by omega, by omega⟩ ?_
  (intro N0 eN0; subst eN0)
  (intro b1 eb1 _ _; have eb1 : b1 = M 6 3 := eb1)
  rw [c_houses hC] at eb1
  subst eb1
  refine And.intro ⟨by omega, by omega⟩ ?_
  (intro N1 eN1; subst eN1)
  (intro b2 eb2 _ _; have eb2 : b2 = M 6 3 := eb2)
  rw [c_houses hC] at eb2
  subst eb2
  refine And.intro ⟨by omega, by omega⟩ ?_
  (intro N2 eN2; subst eN2)
  (intro d ed _ _; have ed : d = M 6 3 := ed)
  rw [c_houses hC] at ed
  subst ed
  refine And.intro (by omega) ?_
  (intro Nd eNd; subst eNd)
  (intro f ef _ _; have ef : f = B 23 0 + 1 := ef)
  rw [show f - 1 = B 23 0 by omega]
  refine kk ⟨c0, c6⟩ (by omega) (by omega) _ ((((hC.setA 24 38 (by decide)).setA 25 39 (by decide)).setA 26 40 (by decide)).setF 23 6 (by decide)) ((((sme.rf.s (by decide)).s (by decide)).s (by decide)).s (by decide)) (fun h hh => ?_)
  rcases hh with rfl | rfl | rfl <;> rfl
theorem m_house_ok {M B : Mem} {c w v : Int} {Q : Int → Mem → Prop} (hM : MB M B) (hR : RB B) (hc : R32 c) (hw : R32 w) (hv : R32 v) (kU : ¬ (0 ≤ c ∧ c < 6) → Q (-1001) M) (kO : (0 ≤ c ∧ c < 6) → ¬ (1 ≤ w ∧ w ≤ 60 ∧ 0 ≤ v ∧ v ≤ 9999) → Q (-1002) M) (kF : (0 ≤ c ∧ c < 6) → (1 ≤ w ∧ w ≤ 60 ∧ 0 ≤ v ∧ v ≤ 9999) → B 23 0 = 8 → Q (-1004) M) (kk : (0 ≤ c ∧ c < 6) → (1 ≤ w ∧ w ≤ 60 ∧ 0 ≤ v ∧ v ≤ 9999) → B 23 0 < 8 → ∀ N, MB N (houseB B c w v) → sme kC M N → (∀ h, h = 66 ∨ h = 67 ∨ h = 82 → N h = M h) → Q (B 23 0) N) : w_m_house M c w v Q := by
  have hn := b_houses hR 0
  unfold w_m_house
  refine m_isColumn_ok hc (fun h => ?_) (fun c0 c6 => ?_)
  · (first | refine t0n ?_ | refine t0e ?_)
    exact kU h
  (first | refine t1n ?_ | refine t1e ?_)
  refine ⟨hw, m_in_ok hw (by decide) (by decide) (fun h => ?_) (fun w0 w1 => ?_)⟩
  · (first | refine t0n ?_ | refine t0e ?_)
    exact kO ⟨c0, c6⟩ (by omega)
  (first | refine t1n ?_ | refine t1e ?_)
  refine ⟨hv, m_in_ok hv (by decide) (by decide) (fun h => ?_) (fun v0 v1 => ?_)⟩
  · (first | refine t0n ?_ | refine t0e ?_)
    exact kO ⟨c0, c6⟩ (by omega)
  (first | refine t1n ?_ | refine t1e ?_)
  (intro a ea _ _; have ea : a = M 12 39 := ea)
  rw [m_houses hM] at ea
  refine ⟨fun h => ?_, fun h => kF ⟨c0, c6⟩ (by omega) (by omega)⟩
  (intro b0 eb0 _ _; have eb0 : b0 = M 12 39 := eb0)
  rw [m_houses hM] at eb0
  subst eb0
  refine And.intro ⟨by omega, by omega⟩ ?_
  (intro N0 eN0; subst eN0)
  (intro b1 eb1 _ _; have eb1 : b1 = M 12 39 := eb1)
  rw [m_houses hM] at eb1
  subst eb1
  refine And.intro ⟨by omega, by omega⟩ ?_
  (intro N1 eN1; subst eN1)
  (intro b2 eb2 _ _; have eb2 : b2 = M 12 39 := eb2)
  rw [m_houses hM] at eb2
  subst eb2
  refine And.intro ⟨by omega, by omega⟩ ?_
  (intro N2 eN2; subst eN2)
  (intro d ed _ _; have ed : d = M 12 39 := ed)
  rw [m_houses hM] at ed
  subst ed
  refine And.intro (by omega) ?_
  (intro Nd eNd; subst eNd)
  (intro f ef _ _; have ef : f = B 23 0 + 1 := ef)
  rw [show f - 1 = B 23 0 by omega]
  refine kk ⟨c0, c6⟩ (by omega) (by omega) _ ((((hM.setA 24 83 (by decide)).setA 25 84 (by decide)).setA 26 85 (by decide)).setF 23 12 (by decide)) ((((sme.rf.s (by decide)).s (by decide)).s (by decide)).s (by decide)) (fun h hh => ?_)
  rcases hh with rfl | rfl | rfl <;> rfl
theorem wf_house {B : Mem} {c w v : Int} (hW : WF B) (hw : 1 ≤ w) : WF (houseB B c w v) := by
  obtain ⟨h1, h2, h3, h4, h5, h6, h7, h8, h9, h10, h11, h12, h13, h14, h15⟩ := hW
  refine ⟨h1, h2, h3, h4, h5, h6, h7, h8, h9, h10, h11, h12, h13, h14, fun i i0 i1 => ?_⟩
  have i1 : i < B 23 0 + 1 := i1
  show 1 ≤ (mset B 25 (B 23 0) w) 25 i
  by_cases e : i = B 23 0
  · rw [e, ms_s]; exact hw
  · rw [ms_n e]; exact h15 i i0 (by omega)
theorem both_house {M B : Mem} {c w v : Int} {Q : Int → Int → Mem → Prop} (I : Inv M B) (hc : R32 c) (hw : R32 w) (hv : R32 v) (k : ∀ (r : Int) (N B' : Mem), Inv N B' → Q r r N) : w_S_house M c w v (fun r M1 => w_m_house M1 c w v (fun r2 M2 => Q r r2 M2)) := by
  obtain ⟨hC, hM, hR, hW, hS, hCC, hCM⟩ := id I
  have hn := b_houses hR 0
  have hly := b_layers hR c
  refine S_house_ok hC hR hc hw hv (fun h => ?_) (fun h1 h2 => ?_) (fun h1 h2 h3 => ?_) (fun h1 h2 h3 N hN hk hu => ?_)
  · exact m_house_ok hM hR hc hw hv (fun _ => k _ _ _ I) (fun a => absurd a h) (fun a => absurd a h) (fun a => absurd a h)
  · exact m_house_ok hM hR hc hw hv (fun a => absurd h1 a) (fun _ _ => k _ _ _ I) (fun _ a => absurd a h2) (fun _ a => absurd a h2)
  · exact m_house_ok hM hR hc hw hv (fun a => absurd h1 a) (fun _ a => absurd h2 a) (fun _ _ _ => k _ _ _ I) (fun _ _ a => absurd a (by omega))
  · have hcu : cut (houseB B c w v) = cut B := ((((cut_hi (by decide)).trans (cut_hi (by decide))).trans (cut_hi (by decide))).trans (cut_hi (by decide)))
    have hCC1 : CC N (houseB B c w v) := CC.cg (fun c hc hl => by rw [hu 5 (Or.inl rfl)] at hl; rw [hu 36 (Or.inr (Or.inl rfl)), hu 37 (Or.inr (Or.inr rfl))]; exact hCC c hc hl) hcu
    have H : Half N B (houseB B c w v) := ⟨hN, hM.km hk, (((hR.set 24 (show (0 : Int) ≤ c by omega) (show c ≤ (5 : Int) by omega)).set 25 (show (0 : Int) ≤ w by omega) (show w ≤ (60 : Int) by omega)).set 26 (show (0 : Int) ≤ v by omega) (show v ≤ (9999 : Int) by omega)).set 23 (show (0 : Int) ≤ _ by omega) (show _ ≤ (8 : Int) by omega), wf_house hW (by omega), fun i hi => by rw [hu 5 (Or.inl rfl)]; exact hS i hi, hCC1⟩
    refine m_house_ok (hM.km hk) hR hc hw hv (fun a => absurd h1 a) (fun _ a => absurd h2 a) (fun _ _ a => absurd a (by omega)) (fun _ _ _ O hO K ho => k _ _ _ (H.inv K hO (CM.cg (B := B) (fun c h0 hc hl => ?_) hcu rfl)))
    rw [ho 66 (Or.inl rfl)] at hl
    rw [ho 67 (Or.inr (Or.inl rfl)), ho 82 (Or.inr (Or.inr rfl))]
    exact (hCM.km hk) c h0 hc hl
-- tank
abbrev tankB (B : Mem) (c l w v : Int) : Mem := mset (mset (mset (mset (mset (B) 28 (B 27 0) c) 29 (B 27 0) l) 30 (B 27 0) w) 31 (B 27 0) v) 27 0 (B 27 0 + 1)
theorem S_tank_ok {M B : Mem} {c l w v : Int} {Q : Int → Mem → Prop} (hC : CB M B) (hR : RB B) (hc : R32 c) (hl : R32 l) (hw : R32 w) (hv : R32 v) (kU : ¬ (0 ≤ c ∧ c < 6 ∧ 0 ≤ l ∧ l < B 2 c) → Q (-1001) M) (kO : (0 ≤ c ∧ c < 6 ∧ 0 ≤ l ∧ l < B 2 c) → ¬ (1 ≤ w ∧ w ≤ 999 ∧ 1 ≤ v ∧ v ≤ 99) → Q (-1002) M) (kF : (0 ≤ c ∧ c < 6 ∧ 0 ≤ l ∧ l < B 2 c) → (1 ≤ w ∧ w ≤ 999 ∧ 1 ≤ v ∧ v ≤ 99) → B 27 0 = 8 → Q (-1004) M) (kk : (0 ≤ c ∧ c < 6 ∧ 0 ≤ l ∧ l < B 2 c) → (1 ≤ w ∧ w ≤ 999 ∧ 1 ≤ v ∧ v ≤ 99) → B 27 0 < 8 → ∀ N, CB N (tankB B c l w v) → sme kM M N → (∀ h, h = 5 ∨ h = 36 ∨ h = 37 → N h = M h) → Q (B 27 0) N) : w_S_tank M c l w v Q := by
  have hn := b_tanks hR 0
  have hly := b_layers hR c
  unfold w_S_tank
  refine hasLayer_ok hC hc hl (fun h => ?_) (fun c0 c6 l0 l1 => ?_)
  · (first | refine t0n ?_ | refine t0e ?_)
    exact kU h
  (first | refine t1n ?_ | refine t1e ?_)
  refine S_beyond_ok hw (by decide) (by decide) (fun h => ?_) (fun w0 w1 => ?_)
  · (first | refine t1n ?_ | refine t1e ?_)
    exact kO ⟨c0, c6, l0, l1⟩ (by omega)
  (first | refine t0n ?_ | refine t0e ?_)
  refine S_beyond_ok hv (by decide) (by decide) (fun h => ?_) (fun v0 v1 => ?_)
  · (first | refine t1n ?_ | refine t1e ?_)
    exact kO ⟨c0, c6, l0, l1⟩ (by omega)
  (first | refine t0n ?_ | refine t0e ?_)
  (intro a ea _ _; have ea : a = M 7 4 := ea)
  rw [c_tanks hC] at ea
  refine ⟨fun h => ?_, fun h => kF ⟨c0, c6, l0, l1⟩ (by omega) (by omega)⟩
  unfold w_Tanks_addTank
  (intro b0 eb0 _ _; have eb0 : b0 = M 7 4 := eb0)
  rw [c_tanks hC] at eb0
  subst eb0
  refine And.intro ⟨by omega, by omega⟩ ?_
  (intro N0 eN0; subst eN0)
  (intro b1 eb1 _ _; have eb1 : b1 = M 7 4 := eb1)
  rw [c_tanks hC] at eb1
  subst eb1
  refine And.intro ⟨by omega, by omega⟩ ?_
  (intro N1 eN1; subst eN1)
  (intro b2 eb2 _ _; have eb2 : b2 = M 7 4 := eb2)
  rw [c_tanks hC] at eb2
  subst eb2
  refine And.intro ⟨by omega, by omega⟩ ?_
  (intro N2 eN2; subst eN2)
  (intro b3 eb3 _ _; have eb3 : b3 = M 7 4 := eb3)
  rw [c_tanks hC] at eb3
  subst eb3
  refine And.intro ⟨by omega, by omega⟩ ?_
  (intro N3 eN3; subst eN3)
  (intro d ed _ _; have ed : d = M 7 4 := ed)
  rw [c_tanks hC] at ed
  subst ed
  refine And.intro (by omega) ?_
  (intro Nd eNd; subst eNd)
  (intro f ef _ _; have ef : f = B 27 0 + 1 := ef)
  rw [show f - 1 = B 27 0 by omega]
  refine kk ⟨c0, c6, l0, l1⟩ (by omega) (by omega) _ (((((hC.setA 28 41 (by decide)).setA 29 42 (by decide)).setA 30 43 (by decide)).setA 31 44 (by decide)).setF 27 7 (by decide)) (((((sme.rf.s (by decide)).s (by decide)).s (by decide)).s (by decide)).s (by decide)) (fun h hh => ?_)
  rcases hh with rfl | rfl | rfl <;> rfl
theorem m_tank_ok {M B : Mem} {c l w v : Int} {Q : Int → Mem → Prop} (hM : MB M B) (hR : RB B) (hc : R32 c) (hl : R32 l) (hw : R32 w) (hv : R32 v) (kU : ¬ (0 ≤ c ∧ c < 6 ∧ 0 ≤ l ∧ l < B 2 c) → Q (-1001) M) (kO : (0 ≤ c ∧ c < 6 ∧ 0 ≤ l ∧ l < B 2 c) → ¬ (1 ≤ w ∧ w ≤ 999 ∧ 1 ≤ v ∧ v ≤ 99) → Q (-1002) M) (kF : (0 ≤ c ∧ c < 6 ∧ 0 ≤ l ∧ l < B 2 c) → (1 ≤ w ∧ w ≤ 999 ∧ 1 ≤ v ∧ v ≤ 99) → B 27 0 = 8 → Q (-1004) M) (kk : (0 ≤ c ∧ c < 6 ∧ 0 ≤ l ∧ l < B 2 c) → (1 ≤ w ∧ w ≤ 999 ∧ 1 ≤ v ∧ v ≤ 99) → B 27 0 < 8 → ∀ N, MB N (tankB B c l w v) → sme kC M N → (∀ h, h = 66 ∨ h = 67 ∨ h = 82 → N h = M h) → Q (B 27 0) N) : w_m_tank M c l w v Q := by
  have hn := b_tanks hR 0
  have hly := b_layers hR c
  unfold w_m_tank
  refine m_isLayer_ok hM hc hl (fun h => ?_) (fun c0 c6 l0 l1 => ?_)
  · (first | refine t0n ?_ | refine t0e ?_)
    exact kU h
  (first | refine t1n ?_ | refine t1e ?_)
  refine ⟨hw, m_in_ok hw (by decide) (by decide) (fun h => ?_) (fun w0 w1 => ?_)⟩
  · (first | refine t0n ?_ | refine t0e ?_)
    exact kO ⟨c0, c6, l0, l1⟩ (by omega)
  (first | refine t1n ?_ | refine t1e ?_)
  refine ⟨hv, m_in_ok hv (by decide) (by decide) (fun h => ?_) (fun v0 v1 => ?_)⟩
  · (first | refine t0n ?_ | refine t0e ?_)
    exact kO ⟨c0, c6, l0, l1⟩ (by omega)
  (first | refine t1n ?_ | refine t1e ?_)
  (intro a ea _ _; have ea : a = M 12 43 := ea)
  rw [m_tanks hM] at ea
  refine ⟨fun h => ?_, fun h => kF ⟨c0, c6, l0, l1⟩ (by omega) (by omega)⟩
  (intro b0 eb0 _ _; have eb0 : b0 = M 12 43 := eb0)
  rw [m_tanks hM] at eb0
  subst eb0
  refine And.intro ⟨by omega, by omega⟩ ?_
  (intro N0 eN0; subst eN0)
  (intro b1 eb1 _ _; have eb1 : b1 = M 12 43 := eb1)
  rw [m_tanks hM] at eb1
  subst eb1
  refine And.intro ⟨by omega, by omega⟩ ?_
  (intro N1 eN1; subst eN1)
  (intro b2 eb2 _ _; have eb2 : b2 = M 12 43 := eb2)
  rw [m_tanks hM] at eb2
  subst eb2
  refine And.intro ⟨by omega, by omega⟩ ?_
  (intro N2 eN2; subst eN2)
  (intro b3 eb3 _ _; have eb3 : b3 = M 12 43 := eb3)
  rw [m_tanks hM] at eb3
  subst eb3
  refine And.intro ⟨by omega, by omega⟩ ?_
  (intro N3 eN3; subst eN3)
  (intro d ed _ _; have ed : d = M 12 43 := ed)
  rw [m_tanks hM] at ed
  subst ed
  refine And.intro (by omega) ?_
  (intro Nd eNd; subst eNd)
  (intro f ef _ _; have ef : f = B 27 0 + 1 := ef)
  rw [show f - 1 = B 27 0 by omega]
  refine kk ⟨c0, c6, l0, l1⟩ (by omega) (by omega) _ (((((hM.setA 28 86 (by decide)).setA 29 87 (by decide)).setA 30 88 (by decide)).setA 31 89 (by decide)).setF 27 12 (by decide)) (((((sme.rf.s (by decide)).s (by decide)).s (by decide)).s (by decide)).s (by decide)) (fun h hh => ?_)
  rcases hh with rfl | rfl | rfl <;> rfl
theorem wf_tank {B : Mem} {c l w v : Int} (hW : WF B) (hl : l < B 2 c) : WF (tankB B c l w v) := by
  obtain ⟨h1, h2, h3, h4, h5, h6, h7, h8, h9, h10, h11⟩ := hW
  refine ⟨h1, h2, h3, h4, h5, h6, h7, h8, h9, fun i i0 i1 => ?_, h11⟩
  have i1 : i < B 27 0 + 1 := i1
  show (mset B 29 (B 27 0) l) 29 i < B 2 ((mset B 28 (B 27 0) c) 28 i)
  by_cases e : i = B 27 0
  · rw [e, ms_s, ms_s]; exact hl
  · rw [ms_n e, ms_n e]; exact h10 i i0 (by omega)
theorem both_tank {M B : Mem} {c l w v : Int} {Q : Int → Int → Mem → Prop} (I : Inv M B) (hc : R32 c) (hl : R32 l) (hw : R32 w) (hv : R32 v) (k : ∀ (r : Int) (N B' : Mem), Inv N B' → Q r r N) : w_S_tank M c l w v (fun r M1 => w_m_tank M1 c l w v (fun r2 M2 => Q r r2 M2)) := by
  obtain ⟨hC, hM, hR, hW, hS, hCC, hCM⟩ := id I
  have hn := b_tanks hR 0
  have hly := b_layers hR c
  refine S_tank_ok hC hR hc hl hw hv (fun h => ?_) (fun h1 h2 => ?_) (fun h1 h2 h3 => ?_) (fun h1 h2 h3 N hN hk hu => ?_)
  · exact m_tank_ok hM hR hc hl hw hv (fun _ => k _ _ _ I) (fun a => absurd a h) (fun a => absurd a h) (fun a => absurd a h)
  · exact m_tank_ok hM hR hc hl hw hv (fun a => absurd h1 a) (fun _ _ => k _ _ _ I) (fun _ a => absurd a h2) (fun _ a => absurd a h2)
  · exact m_tank_ok hM hR hc hl hw hv (fun a => absurd h1 a) (fun _ a => absurd h2 a) (fun _ _ _ => k _ _ _ I) (fun _ _ a => absurd a (by omega))
  · have hcu : cut (tankB B c l w v) = cut B := (((((cut_hi (by decide)).trans (cut_hi (by decide))).trans (cut_hi (by decide))).trans (cut_hi (by decide))).trans (cut_hi (by decide)))
    have hCC1 : CC N (tankB B c l w v) := CC.cg (fun c hc hl => by rw [hu 5 (Or.inl rfl)] at hl; rw [hu 36 (Or.inr (Or.inl rfl)), hu 37 (Or.inr (Or.inr rfl))]; exact hCC c hc hl) hcu
    have H : Half N B (tankB B c l w v) := ⟨hN, hM.km hk, ((((hR.set 28 (show (0 : Int) ≤ c by omega) (show c ≤ (5 : Int) by omega)).set 29 (show (0 : Int) ≤ l by omega) (show l ≤ (5 : Int) by omega)).set 30 (show (0 : Int) ≤ w by omega) (show w ≤ (999 : Int) by omega)).set 31 (show (0 : Int) ≤ v by omega) (show v ≤ (99 : Int) by omega)).set 27 (show (0 : Int) ≤ _ by omega) (show _ ≤ (8 : Int) by omega), wf_tank hW h1.2.2.2, fun i hi => by rw [hu 5 (Or.inl rfl)]; exact hS i hi, hCC1⟩
    refine m_tank_ok (hM.km hk) hR hc hl hw hv (fun a => absurd h1 a) (fun _ a => absurd h2 a) (fun _ _ a => absurd a (by omega)) (fun _ _ _ O hO K ho => k _ _ _ (H.inv K hO (CM.cg (B := B) (fun c h0 hc hl => ?_) hcu rfl)))
    rw [ho 66 (Or.inl rfl)] at hl
    rw [ho 67 (Or.inr (Or.inl rfl)), ho 82 (Or.inr (Or.inr rfl))]
    exact (hCM.km hk) c h0 hc hl
-- work
abbrev workB (B : Mem) (c d n p : Int) : Mem := mset (mset (mset (mset (mset (B) 33 (B 32 0) c) 34 (B 32 0) d) 35 (B 32 0) n) 36 (B 32 0) p) 32 0 (B 32 0 + 1)
theorem S_work_j {M B : Mem} {c d n p hi : Int} {Q : Int → Mem → Prop} (hC : CB M B) (hR : RB B) (hn : R32 n) (hp : R32 p) (hc : 0 ≤ c ∧ c < 6) (hd : 0 ≤ d ∧ d ≤ 1) (hh : 1 ≤ hi ∧ hi ≤ 500) (kO : ¬ (1 ≤ n ∧ n ≤ hi ∧ 1 ≤ p ∧ p ≤ 999) → Q (-1002) M) (kF : (1 ≤ n ∧ n ≤ hi ∧ 1 ≤ p ∧ p ≤ 999) → B 32 0 = 6 → Q (-1004) M) (kk : (1 ≤ n ∧ n ≤ hi ∧ 1 ≤ p ∧ p ≤ 999) → B 32 0 < 6 → ∀ N, CB N (workB B c d n p) → sme kM M N → (∀ h, h = 5 ∨ h = 36 ∨ h = 37 → N h = M h) → Q (B 32 0) N) : w_S_work_j0 Q c d n p n 1 hi M := by
  have hnb := b_works hR 0
  unfold w_S_work_j0
  refine S_beyond_ok hn (by decide) (by omega) (fun h => ?_) (fun n0 n1 => ?_)
  · (first | refine t1n ?_ | refine t1e ?_)
    exact kO (by omega)
  (first | refine t0n ?_ | refine t0e ?_)
  refine S_beyond_ok hp (by decide) (by decide) (fun h => ?_) (fun p0 p1 => ?_)
  · (first | refine t1n ?_ | refine t1e ?_)
    exact kO (by omega)
  (first | refine t0n ?_ | refine t0e ?_)
  (intro a ea _ _; have ea : a = M 8 5 := ea)
  rw [c_works hC] at ea
  refine ⟨fun h => ?_, fun h => kF (by omega) (by omega)⟩
  unfold w_Works_addWork
  (intro b0 eb0 _ _; have eb0 : b0 = M 8 5 := eb0)
  rw [c_works hC] at eb0
  subst eb0
  refine And.intro ⟨by omega, by omega⟩ ?_
  (intro N0 eN0; subst eN0)
  (intro b1 eb1 _ _; have eb1 : b1 = M 8 5 := eb1)
  rw [c_works hC] at eb1
  subst eb1
  refine And.intro ⟨by omega, by omega⟩ ?_
  (intro N1 eN1; subst eN1)
  (intro b2 eb2 _ _; have eb2 : b2 = M 8 5 := eb2)
  rw [c_works hC] at eb2
  subst eb2
  refine And.intro ⟨by omega, by omega⟩ ?_
  (intro N2 eN2; subst eN2)
  (intro b3 eb3 _ _; have eb3 : b3 = M 8 5 := eb3)
  rw [c_works hC] at eb3
  subst eb3
  refine And.intro ⟨by omega, by omega⟩ ?_
  (intro N3 eN3; subst eN3)
  (intro e ee _ _; have ee : e = M 8 5 := ee)
  rw [c_works hC] at ee
  subst ee
  refine And.intro (by omega) ?_
  (intro Nd eNd; subst eNd)
  (intro f ef _ _; have ef : f = B 32 0 + 1 := ef)
  rw [show f - 1 = B 32 0 by omega]
  refine kk (by omega) (by omega) _ (((((hC.setA 33 45 (by decide)).setA 34 46 (by decide)).setA 35 47 (by decide)).setA 36 48 (by decide)).setF 32 8 (by decide)) (((((sme.rf.s (by decide)).s (by decide)).s (by decide)).s (by decide)).s (by decide)) (fun h hh => ?_)
  rcases hh with rfl | rfl | rfl <;> rfl
theorem S_work_ok {M B : Mem} {c d n p : Int} {Q : Int → Mem → Prop} (hC : CB M B) (hR : RB B) (hc : R32 c) (hd : R32 d) (hn : R32 n) (hp : R32 p) (kU : ¬ (0 ≤ c ∧ c < 6) → Q (-1001) M) (kO : (0 ≤ c ∧ c < 6) → ¬ (((d = 0 ∧ 1 ≤ n ∧ n ≤ 500) ∨ (d = 1 ∧ 1 ≤ n ∧ n ≤ 100)) ∧ 1 ≤ p ∧ p ≤ 999) → Q (-1002) M) (kF : (0 ≤ c ∧ c < 6) → (((d = 0 ∧ 1 ≤ n ∧ n ≤ 500) ∨ (d = 1 ∧ 1 ≤ n ∧ n ≤ 100)) ∧ 1 ≤ p ∧ p ≤ 999) → B 32 0 = 6 → Q (-1004) M) (kk : (0 ≤ c ∧ c < 6) → (((d = 0 ∧ 1 ≤ n ∧ n ≤ 500) ∨ (d = 1 ∧ 1 ≤ n ∧ n ≤ 100)) ∧ 1 ≤ p ∧ p ≤ 999) → B 32 0 < 6 → ∀ N, CB N (workB B c d n p) → sme kM M N → (∀ h, h = 5 ∨ h = 36 ∨ h = 37 → N h = M h) → Q (B 32 0) N) : w_S_work M c d n p Q := by
  unfold w_S_work
  refine hasColumn_ok hc (fun h => ?_) (fun c0 c6 => ?_)
  · (first | refine t0n ?_ | refine t0e ?_)
    exact kU h
  (first | refine t1n ?_ | refine t1e ?_)
  refine S_beyond_ok hd (by decide) (by decide) (fun h => ?_) (fun d0 d1 => ?_)
  · (first | refine t1n ?_ | refine t1e ?_)
    exact kO ⟨c0, c6⟩ (by omega)
  (first | refine t0n ?_ | refine t0e ?_)
  refine ⟨hd, fun hz => ?_, fun hz => ?_⟩
  · exact S_work_j hC hR hn hp ⟨c0, c6⟩ ⟨d0, d1⟩ (by decide) (fun h => kO ⟨c0, c6⟩ (by omega)) (fun h1 h2 => kF ⟨c0, c6⟩ (by omega) h2) (fun h1 h2 => kk ⟨c0, c6⟩ (by omega) h2)
  · exact S_work_j hC hR hn hp ⟨c0, c6⟩ ⟨d0, d1⟩ (by decide) (fun h => kO ⟨c0, c6⟩ (by omega)) (fun h1 h2 => kF ⟨c0, c6⟩ (by omega) h2) (fun h1 h2 => kk ⟨c0, c6⟩ (by omega) h2)
theorem m_work_j {M B : Mem} {c d n p hi : Int} {Q : Int → Mem → Prop} (hM : MB M B) (hR : RB B) (hn : R32 n) (hp : R32 p) (hc : 0 ≤ c ∧ c < 6) (hd : 0 ≤ d ∧ d ≤ 1) (hh : 1 ≤ hi ∧ hi ≤ 500) (kO : ¬ (1 ≤ n ∧ n ≤ hi ∧ 1 ≤ p ∧ p ≤ 999) → Q (-1002) M) (kF : (1 ≤ n ∧ n ≤ hi ∧ 1 ≤ p ∧ p ≤ 999) → B 32 0 = 6 → Q (-1004) M) (kk : (1 ≤ n ∧ n ≤ hi ∧ 1 ≤ p ∧ p ≤ 999) → B 32 0 < 6 → ∀ N, MB N (workB B c d n p) → sme kC M N → (∀ h, h = 66 ∨ h = 67 ∨ h = 82 → N h = M h) → Q (B 32 0) N) : w_m_work_j0 Q c d n p n 1 hi M := by
  have hnb := b_works hR 0
  unfold w_m_work_j0
  refine m_in_ok hn (by decide) (by omega) (fun h => ?_) (fun n0 n1 => ?_)
  · (first | refine t0n ?_ | refine t0e ?_)
    exact kO (by omega)
  (first | refine t1n ?_ | refine t1e ?_)
  refine ⟨hp, m_in_ok hp (by decide) (by decide) (fun h => ?_) (fun p0 p1 => ?_)⟩
  · (first | refine t0n ?_ | refine t0e ?_)
    exact kO (by omega)
  (first | refine t1n ?_ | refine t1e ?_)
  (intro a ea _ _; have ea : a = M 12 50 := ea)
  rw [m_works hM] at ea
  refine ⟨fun h => ?_, fun h => kF (by omega) (by omega)⟩
  (intro b0 eb0 _ _; have eb0 : b0 = M 12 50 := eb0)
  rw [m_works hM] at eb0
  subst eb0
  refine And.intro ⟨by omega, by omega⟩ ?_
  (intro N0 eN0; subst eN0)
  (intro b1 eb1 _ _; have eb1 : b1 = M 12 50 := eb1)
  rw [m_works hM] at eb1
  subst eb1
  refine And.intro ⟨by omega, by omega⟩ ?_
  (intro N1 eN1; subst eN1)
  (intro b2 eb2 _ _; have eb2 : b2 = M 12 50 := eb2)
  rw [m_works hM] at eb2
  subst eb2
  refine And.intro ⟨by omega, by omega⟩ ?_
  (intro N2 eN2; subst eN2)
  (intro b3 eb3 _ _; have eb3 : b3 = M 12 50 := eb3)
  rw [m_works hM] at eb3
  subst eb3
  refine And.intro ⟨by omega, by omega⟩ ?_
  (intro N3 eN3; subst eN3)
  (intro e ee _ _; have ee : e = M 12 50 := ee)
  rw [m_works hM] at ee
  subst ee
  refine And.intro (by omega) ?_
  (intro Nd eNd; subst eNd)
  (intro f ef _ _; have ef : f = B 32 0 + 1 := ef)
  rw [show f - 1 = B 32 0 by omega]
  refine kk (by omega) (by omega) _ (((((hM.setA 33 90 (by decide)).setA 34 91 (by decide)).setA 35 92 (by decide)).setA 36 93 (by decide)).setF 32 12 (by decide)) (((((sme.rf.s (by decide)).s (by decide)).s (by decide)).s (by decide)).s (by decide)) (fun h hh => ?_)
  rcases hh with rfl | rfl | rfl <;> rfl
theorem m_work_ok {M B : Mem} {c d n p : Int} {Q : Int → Mem → Prop} (hM : MB M B) (hR : RB B) (hc : R32 c) (hd : R32 d) (hn : R32 n) (hp : R32 p) (kU : ¬ (0 ≤ c ∧ c < 6) → Q (-1001) M) (kO : (0 ≤ c ∧ c < 6) → ¬ (((d = 0 ∧ 1 ≤ n ∧ n ≤ 500) ∨ (d = 1 ∧ 1 ≤ n ∧ n ≤ 100)) ∧ 1 ≤ p ∧ p ≤ 999) → Q (-1002) M) (kF : (0 ≤ c ∧ c < 6) → (((d = 0 ∧ 1 ≤ n ∧ n ≤ 500) ∨ (d = 1 ∧ 1 ≤ n ∧ n ≤ 100)) ∧ 1 ≤ p ∧ p ≤ 999) → B 32 0 = 6 → Q (-1004) M) (kk : (0 ≤ c ∧ c < 6) → (((d = 0 ∧ 1 ≤ n ∧ n ≤ 500) ∨ (d = 1 ∧ 1 ≤ n ∧ n ≤ 100)) ∧ 1 ≤ p ∧ p ≤ 999) → B 32 0 < 6 → ∀ N, MB N (workB B c d n p) → sme kC M N → (∀ h, h = 66 ∨ h = 67 ∨ h = 82 → N h = M h) → Q (B 32 0) N) : w_m_work M c d n p Q := by
  unfold w_m_work
  refine m_isColumn_ok hc (fun h => ?_) (fun c0 c6 => ?_)
  · (first | refine t0n ?_ | refine t0e ?_)
    exact kU h
  (first | refine t1n ?_ | refine t1e ?_)
  refine ⟨hd, m_in_ok hd (by decide) (by decide) (fun h => ?_) (fun d0 d1 => ?_)⟩
  · (first | refine t0n ?_ | refine t0e ?_)
    exact kO ⟨c0, c6⟩ (by omega)
  (first | refine t1n ?_ | refine t1e ?_)
  refine ⟨hn, hd, fun hz => ?_, fun hz => ?_⟩
  · exact m_work_j hM hR hn hp ⟨c0, c6⟩ ⟨d0, d1⟩ (by decide) (fun h => kO ⟨c0, c6⟩ (by omega)) (fun h1 h2 => kF ⟨c0, c6⟩ (by omega) h2) (fun h1 h2 => kk ⟨c0, c6⟩ (by omega) h2)
  · exact m_work_j hM hR hn hp ⟨c0, c6⟩ ⟨d0, d1⟩ (by decide) (fun h => kO ⟨c0, c6⟩ (by omega)) (fun h1 h2 => kF ⟨c0, c6⟩ (by omega) h2) (fun h1 h2 => kk ⟨c0, c6⟩ (by omega) h2)
theorem both_work {M B : Mem} {c d n p : Int} {Q : Int → Int → Mem → Prop} (I : Inv M B) (hc : R32 c) (hd : R32 d) (hn : R32 n) (hp : R32 p) (k : ∀ (r : Int) (N B' : Mem), Inv N B' → Q r r N) : w_S_work M c d n p (fun r M1 => w_m_work M1 c d n p (fun r2 M2 => Q r r2 M2)) := by
  obtain ⟨hC, hM, hR, hW, hS, hCC, hCM⟩ := id I
  have hnb := b_works hR 0
  refine S_work_ok hC hR hc hd hn hp (fun h => ?_) (fun h1 h2 => ?_) (fun h1 h2 h3 => ?_) (fun h1 h2 h3 N hN hk hu => ?_)
  · exact m_work_ok hM hR hc hd hn hp (fun _ => k _ _ _ I) (fun a => absurd a h) (fun a => absurd a h) (fun a => absurd a h)
  · exact m_work_ok hM hR hc hd hn hp (fun a => absurd h1 a) (fun _ _ => k _ _ _ I) (fun _ a => absurd a h2) (fun _ a => absurd a h2)
  · exact m_work_ok hM hR hc hd hn hp (fun a => absurd h1 a) (fun _ a => absurd h2 a) (fun _ _ _ => k _ _ _ I) (fun _ _ a => absurd a (by omega))
  · have hcu : cut (workB B c d n p) = cut B := (((((cut_hi (by decide)).trans (cut_hi (by decide))).trans (cut_hi (by decide))).trans (cut_hi (by decide))).trans (cut_hi (by decide)))
    have hCC1 : CC N (workB B c d n p) := CC.cg (fun c hc hl => by rw [hu 5 (Or.inl rfl)] at hl; rw [hu 36 (Or.inr (Or.inl rfl)), hu 37 (Or.inr (Or.inr rfl))]; exact hCC c hc hl) hcu
    have H : Half N B (workB B c d n p) := ⟨hN, hM.km hk, ((((hR.set 33 (show (0 : Int) ≤ c by omega) (show c ≤ (5 : Int) by omega)).set 34 (show (0 : Int) ≤ d by omega) (show d ≤ (1 : Int) by omega)).set 35 (show (0 : Int) ≤ n by omega) (show n ≤ (500 : Int) by omega)).set 36 (show (0 : Int) ≤ p by omega) (show p ≤ (999 : Int) by omega)).set 32 (show (0 : Int) ≤ _ by omega) (show _ ≤ (6 : Int) by omega), hW.cg rfl rfl rfl rfl rfl rfl rfl rfl rfl rfl rfl rfl rfl rfl rfl rfl, fun i hi => by rw [hu 5 (Or.inl rfl)]; exact hS i hi, hCC1⟩
    refine m_work_ok (hM.km hk) hR hc hd hn hp (fun a => absurd h1 a) (fun _ a => absurd h2 a) (fun _ _ a => absurd a (by omega)) (fun _ _ _ O hO K ho => k _ _ _ (H.inv K hO (CM.cg (B := B) (fun c h0 hc hl => ?_) hcu rfl)))
    rw [ho 66 (Or.inl rfl)] at hl
    rw [ho 67 (Or.inr (Or.inl rfl)), ho 82 (Or.inr (Or.inr rfl))]
    exact (hCM.km hk) c h0 hc hl

-- shake
theorem both_shake {M B : Mem} {x : Int} {Q : Int → Int → Mem → Prop} (I : Inv M B) (hx : R32 x) (k : ∀ (r : Int) (N B' : Mem), Inv N B' → Q r r N) : w_S_shake M x (fun r M1 => w_m_shake M1 x (fun r2 M2 => Q r r2 M2)) := by
  obtain ⟨hC, hM, hR, hW, hS, hCC, hCM⟩ := id I
  have hn := b_shakes hR 0
  unfold w_S_shake
  refine S_beyond_ok hx (by decide) (by decide) (fun h => ?_) (fun x0 x1 => ?_)
  · (first | refine t1n ?_ | refine t1e ?_)
    unfold w_m_shake
    refine ⟨hx, m_in_ok hx (by decide) (by decide) (fun _ => ?_) (fun a b => absurd h (by omega))⟩
    (first | refine t0n ?_ | refine t0e ?_)
    exact k _ _ _ I
  (first | refine t0n ?_ | refine t0e ?_)
  (intro a ea _ _; have ea : a = M 3 3 := ea)
  rw [c_shakes hC] at ea
  refine ⟨fun h => ?_, fun h => ?_⟩
  · unfold w_Shakes_addShake
    (intro b eb _ _; have eb : b = M 3 3 := eb)
    rw [c_shakes hC] at eb
    refine And.intro ⟨by omega, by omega⟩ ?_
    (intro N1 eN1; subst eN1)
    (intro d ed _ _; have ed : d = M 3 3 := ed)
    rw [c_shakes hC] at ed
    refine And.intro (by omega) ?_
    (intro N2 eN2; subst eN2)
    (intro f ef _ _; have ef : f = d + 1 := ef)
    have hk : sme kM M (mset (mset M 27 b x) 3 3 (d + 1)) := (sme.rf.s (by decide)).s (by decide)
    have hc1 : CB (mset (mset M 27 b x) 3 3 (d + 1)) (mset (mset B 21 b x) 20 0 (d + 1)) := (hC.setA 21 27 (by decide)).setF 20 3 (by decide)
    have hM1 := hM.km hk
    unfold w_m_shake
    refine ⟨hx, m_in_ok hx (by decide) (by decide) (fun z => absurd z (by omega)) (fun _ _ => ?_)⟩
    (first | refine t1n ?_ | refine t1e ?_)
    (intro a' ea' _ _; have ea' : a' = M 12 8 := ea')
    rw [m_shakes hM] at ea'
    refine ⟨fun _ => ?_, fun z => absurd z (by omega)⟩
    (intro b' eb' _ _; have eb' : b' = M 12 8 := eb')
    rw [m_shakes hM] at eb'
    refine And.intro ⟨by omega, by omega⟩ ?_
    (intro O1 eO1; subst eO1)
    (intro d' ed' _ _; have ed' : d' = M 12 8 := ed')
    rw [m_shakes hM] at ed'
    refine And.intro (by omega) ?_
    (intro O2 eO2; subst eO2)
    (intro f' ef' _ _; have ef' : f' = d' + 1 := ef')
    rw [show f' = f by omega, show b' = b by omega, show d' = d by omega]
    refine k _ _ (mset (mset B 21 b x) 20 0 (d + 1)) ⟨?_, ((hM1.setA 21 61 (by decide)).setF 20 12 (by decide)), (hR.set 21 x0 x1).set 20 (show (0 : Int) ≤ _ by omega) (show _ ≤ (6 : Int) by omega), ?_, ?_, ?_, ?_⟩
    · exact hc1.kc ((sme.rf.s (by decide)).s (by decide))
    · obtain ⟨h1, h2, h3, h4, h5, h6, h7, h8, h9, h10, h11, h12, h13, h14⟩ := hW
      refine ⟨h1, h2, h3, h4, h5, h6, h7, h8, fun i i0 i1 => ⟨(h9 i i0 i1).1, fun e => ?_⟩, h10, h11, h12, fun q q0 q1 => h13 q (by have q0 : d + 1 ≤ q := q0; omega) q1, h14⟩
      have := (h9 i i0 i1).2 e
      show B 14 i < d + 1
      omega
    · exact fun i hi => hS i hi
    · exact CC.cg (show CC _ B from hCC) ((cut_hi (by decide)).trans (cut_hi (by decide)))
    · exact CM.cg (show CM _ B from hCM) ((cut_hi (by decide)).trans (cut_hi (by decide))) rfl
  · unfold w_m_shake
    refine ⟨hx, m_in_ok hx (by decide) (by decide) (fun z => absurd z (by omega)) (fun _ _ => ?_)⟩
    (first | refine t1n ?_ | refine t1e ?_)
    (intro a' ea' _ _; have ea' : a' = M 12 8 := ea')
    rw [m_shakes hM] at ea'
    refine ⟨fun z => absurd (show a' = 6 by omega) z, fun _ => k _ _ _ I⟩

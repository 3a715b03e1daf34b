/-! ===== which columns stand: the model ===== -/
section MSTAND
variable {M N B : Mem}
theorem m_columnStands_ok {c s : Nat} {Q : Int → Mem → Prop} (I : Inv M B) (F : fnd M B) (hc6 : c < 6) (yh : hasH B c) (hs : s < 64)
    (k1 : stO B c s → ∀ N, Inv N B → N 66 = M 66 → N 96 = M 96 → Q 1 N) (k0 : ¬ stO B c s → ∀ N, Inv N B → N 66 = M 66 → N 96 = M 96 → Q 0 N) : w_m_columnStands M c s Q := by
  have hR := I.2.2.1
  have hW := I.2.2.2.1
  have c0 : (0 : Int) ≤ c := by omega
  have c6 : (c : Int) < 6 := by omega
  have hma := many_all (c := c) hR hW c0 c6
  have hnc := nCh_i (c := c) hR hW c0 c6
  have hsh := nSh_i hR
  have hnw := nWk_i hR
  have rm := sWk_rng hR c 0 s (nWk B)
  have rl := sWk_rng hR c 1 s (nWk B)
  have hF := F c hc6 yh
  -- all choices in all shakes
  have rest : ∀ N, Inv N B → N 66 = M 66 → N 96 = M 96 → N 12 22 = sWk B c 0 s (nWk B) → N 12 23 = sWk B c 1 s (nWk B) → w_m_columnStands_L1 Q c 0 N := by
    intro N n1 n2 n3 n4 n5
    unfold w_m_columnStands_L1
    intro X hX
    have key : ∀ (d n : Nat) (O : Mem), n + d = nCh B c → Inv O B → O 66 = M 66 → O 96 = M 96 → O 12 22 = sWk B c 0 s (nWk B) → O 12 23 = sWk B c 1 s (nWk B) → (∀ p : Nat, p < n → kept B c p → ∀ q : Nat, q < nSh B → safe B c (fin B c q (dig B c p) (sWk B c 0 s (nWk B)) (sWk B c 1 s (nWk B)))) → X n O := by
      intro d
      induction d with
      | zero =>
        intro n O hd o1 o2 o3 o4 o5 o6
        rw [Nat.add_zero] at hd
        apply hX
        unfold w_m_columnStands_B1
        refine m_manyChoices_ok o1.2.1 hR c0 c6 ⟨by omega, by omega, fun _ => k1 (fun q hq p p0 p1 hp => ?_) O o1 o2 o3, fun h => absurd h (by omega)⟩
        have ep : p = (p.toNat : Nat) := by omega
        have := o6 p.toNat (by omega) (by rw [← ep]; exact hp) q hq
        rw [← ep] at this
        exact this
      | succ d ih =>
        intro n O hd o1 o2 o3 o4 o5 o6
        have nxt : ∀ P, Inv P B → P 66 = M 66 → P 96 = M 96 → P 12 22 = sWk B c 0 s (nWk B) → P 12 23 = sWk B c 1 s (nWk B) → (kept B c n → ∀ q : Nat, q < nSh B → safe B c (fin B c q (dig B c n) (sWk B c 0 s (nWk B)) (sWk B c 1 s (nWk B)))) → X ((n : Int) + 1) P := by
          intro P p1 p2 p3 p4 p5 p6
          refine ih (n + 1) P (by omega) p1 p2 p3 p4 p5 (fun p hp hk => ?_)
          by_cases e : p = n
          · subst e; exact p6 hk
          · exact o6 p (by omega) hk
        apply hX
        unfold w_m_columnStands_B1
        refine m_manyChoices_ok o1.2.1 hR c0 c6 ⟨by omega, by omega, fun h => absurd h (by omega), fun _ => ?_⟩
        unfold w_m_columnStands_L2
        intro Y hY
        have key2 : ∀ (e q : Nat) (P : Mem), q + e = nSh B → Inv P B → P 66 = M 66 → P 96 = M 96 → P 12 22 = sWk B c 0 s (nWk B) → P 12 23 = sWk B c 1 s (nWk B) → (kept B c n → ∀ x : Nat, x < q → safe B c (fin B c x (dig B c n) (sWk B c 0 s (nWk B)) (sWk B c 1 s (nWk B)))) → Y q P := by
          intro e
          induction e with
          | zero =>
            intro q P he p1 p2 p3 p4 p5 p6
            apply hY
            unfold w_m_columnStands_B2
            (intro a ea _ _; have ea : a = P 12 8 := ea)
            rw [m_shakes p1.2.1] at ea
            exact ⟨by omega, fun _ => nxt P p1 p2 p3 p4 p5 (fun hk x hx => p6 hk x (by omega)), fun h => absurd h (by omega)⟩
          | succ e ih2 =>
            intro q P he p1 p2 p3 p4 p5 p6
            have hcm := (p1.2.2.2.2.2.2 c c0 c6 (by rw [p2]; exact hF)).2 n (by omega) (by omega)
            apply hY
            unfold w_m_columnStands_B2
            (intro a ea _ _; have ea : a = P 12 8 := ea)
            rw [m_shakes p1.2.1] at ea
            refine ⟨by omega, fun h => absurd h (by omega), fun _ => ⟨by omega, ?_⟩⟩
            (intro v ev _ _; have ev : v = P 82 (729 * c + n) := ev)
            refine ⟨fun hv => nxt P p1 p2 p3 p4 p5 (fun hk => by have := hcm.mpr hk; omega), fun hv => ?_⟩
            have hkp : kept B c n := hcm.mp (by omega)
            refine m_chRun_ok p1.2.1 hR hW c0 c6 (by omega) (by omega) (by omega) (by omega) p4 p5 (by omega) (by omega) (fun T t1 t2 t3 t4 t5 => ?_)
            have IT := p1.ag t5.ag
            have i1 : T 66 = M 66 := by rw [t5.1 _ (by decide) (by decide) (by decide) (by decide) (by decide) (by decide) (by decide) (by decide)]; exact p2
            have i2 : T 96 = M 96 := by rw [t5.1 _ (by decide) (by decide) (by decide) (by decide) (by decide) (by decide) (by decide) (by decide)]; exact p3
            refine m_isSafe_ok IT.2.1 hR hW (by omega) yh t1 (fun sf => ?_) (fun sf => ?_)
            · (first | refine t1n ?_ | refine t1e ?_)
              refine ih2 (q + 1) T (by omega) IT i1 i2 t3 t4 (fun hk x hx => ?_)
              by_cases z : x = q
              · subst z; exact sf
              · exact p6 hk x (by omega)
            · (first | refine t0n ?_ | refine t0e ?_)
              refine ⟨⟨by omega, by omega⟩, ?_⟩
              (intro T1 eT1; subst eT1)
              refine ⟨⟨by omega, by omega⟩, ?_⟩
              (intro T2 eT2; subst eT2)
              refine k0 (fun st => sf (st q (by omega) n (by omega) (by omega) hkp)) _ ((IT.ag (Ag.rf.sA (by decide))).ag (Ag.rf.sA (by decide))) ?_ ?_
              · rw [mset_ne (by decide), mset_ne (by decide)]; exact i1
              · rw [mset_ne (by decide), mset_ne (by decide)]; exact i2
        exact key2 (nSh B) 0 O (by omega) o1 o2 o3 o4 o5 (fun _ x hx => absurd hx (by omega))
    exact key (nCh B c) 0 N (by omega) n1 n2 n3 n4 n5 (fun p hp => absurd hp (by omega))
  unfold w_m_columnStands
  (intro M1 eM1; subst eM1)
  (intro M2 eM2; subst eM2)
  unfold w_m_columnStands_L0
  intro X hX
  have key : ∀ (d i : Nat) (N : Mem), i + d = nWk B → Inv N B → N 66 = M 66 → N 96 = M 96 → N 12 22 = sWk B c 0 s i → N 12 23 = sWk B c 1 s i → X i N := by
    intro d
    induction d with
    | zero =>
      intro i N hd n1 n2 n3 n4 n5
      rw [Nat.add_zero] at hd
      rw [hd] at n4 n5
      have R := rest N n1 n2 n3 n4 n5
      apply hX
      unfold w_m_columnStands_B0
      (intro a ea _ _; have ea : a = N 12 50 := ea)
      rw [m_works n1.2.1] at ea
      refine ⟨by omega, fun _ => ⟨by omega, ?_⟩, fun h => absurd h (by omega)⟩
      (intro b eb _ _; have eb : b = N 94 c := eb)
      refine m_manyChoices_ok n1.2.1 hR c0 c6 ⟨by omega, fun _ => R, fun hb => ⟨by omega, ?_⟩⟩
      (intro b2 eb2 _ _; have eb2 : b2 = N 94 c := eb2)
      have eb2 : b2 = b := eb2.trans eb.symm
      subst eb2
      have hb0 : 0 ≤ b2 := by assumption
      have hcm := (n1.2.2.2.2.2.2 c c0 c6 (by rw [n2]; exact hF)).2 b2 hb0 (by omega)
      refine ⟨by omega, ?_⟩
      (intro v ev _ _; have ev : v = N 82 (729 * c + b2) := ev)
      refine ⟨fun _ => R, fun hv => ⟨by omega, ?_⟩⟩
      have hkp : kept B c b2 := hcm.mp (by omega)
      (intro w ew _ _; have ew : w = N 95 c := ew)
      have hw0 : 0 ≤ w := by assumption
      (intro sk esk _ _; have esk : sk = N 12 8 := esk)
      rw [m_shakes n1.2.1] at esk
      refine ⟨fun _ => R, fun hw => ⟨by omega, ?_⟩⟩
      (intro b3 eb3 _ _; have eb3 : b3 = N 94 c := eb3)
      have eb3 : b3 = b2 := eb3.trans eb.symm
      subst eb3
      refine m_choose_ok n1.2.1 hR hW c0 c6 hb0 (by omega) (fun P p1 p2 p3 => ⟨by omega, ?_⟩)
      have IP := n1.ag p3.ag
      (intro w2 ew2 _ _; have ew2 : w2 = P 95 c := ew2)
      rw [p3.1 _ (by decide) (by decide), ← ew] at ew2
      subst ew2
      refine m_runOf_ok (mo := sWk B c 0 s (nWk B)) (le := sWk B c 1 s (nWk B)) ⟨IP.2.1, hR, hW, c0, c6, hw0, by omega, p1, by rw [p3.2 _ (by decide)]; exact n4, by rw [p3.2 _ (by decide)]; exact n5, by omega, by omega⟩ (fun O o1 o2 => ⟨by omega, ?_⟩)
      have IX := IP.ag o2.ag
      have f : FrM N O := p3.m.trans o2.m
      have i1 : O 66 = M 66 := by rw [f.1 _ (by decide) (by decide) (by decide) (by decide) (by decide) (by decide) (by decide) (by decide)]; exact n2
      have i2 : O 96 = M 96 := by rw [f.1 _ (by decide) (by decide) (by decide) (by decide) (by decide) (by decide) (by decide) (by decide)]; exact n3
      have eo : O 12 = P 12 := o2 12 (by decide) (by decide) (by decide) (by decide) (by decide) (by decide)
      (intro w3 ew3 _ _; have ew3 : w3 = O 95 c := ew3)
      refine m_isSafe_ok IX.2.1 hR hW (by omega) yh o1 (fun sf => ?_) (fun sf => ?_)
      · (first | refine t1n ?_ | refine t1e ?_)
        exact rest O IX i1 i2 (by rw [eo, p3.2 _ (by decide)]; exact n4) (by rw [eo, p3.2 _ (by decide)]; exact n5)
      · (first | refine t0n ?_ | refine t0e ?_)
        refine k0 (fun st => sf ?_) O IX i1 i2
        have e : w2 = (w2.toNat : Nat) := by omega
        have := st w2.toNat (by omega) b3 hb0 (by omega) hkp
        rw [← e] at this
        exact this
    | succ d ih =>
      intro i N hd n1 n2 n3 n4 n5
      have r0 := sWk_rng hR c 0 s i
      have r1 := sWk_rng hR c 1 s i
      have ha := b_kamt hR i
      have e0 : sWk B c 0 s (i + 1) = sWk B c 0 s i + (if s.testBit i = true ∧ B 33 i = c ∧ B 34 i = 0 then B 35 i else 0) := rfl
      have e1 : sWk B c 1 s (i + 1) = sWk B c 1 s i + (if s.testBit i = true ∧ B 33 i = c ∧ B 34 i = 1 then B 35 i else 0) := rfl
      -- behind the first sum
      have J1 : ∀ x y : Int, (x = 0 ∧ ¬ (s.testBit i = true ∧ B 33 i = c) ∨ x = 1 ∧ (s.testBit i = true ∧ B 33 i = c)) → y = (if s.testBit i = true ∧ B 33 i = c ∧ B 34 i = 0 then B 35 i else 0) → (0 ≤ y ∧ y ≤ 500) → w_m_columnStands_j1 Q X c s i x (sWk B c 0 s i) y N := by
        intro x y hx ey hy
        unfold w_m_columnStands_j1
        refine ⟨by omega, ?_⟩
        (intro N1 eN1; subst eN1)
        have I1 : Inv (mset N 12 22 (sWk B c 0 s i + y)) B := n1.ag (Ag.rf.sF (by decide))
        intro l el _ _
        rw [ms_n (by decide), n5] at el
        have J2 : ∀ z : Int, z = (if s.testBit i = true ∧ B 33 i = c ∧ B 34 i = 1 then B 35 i else 0) → (0 ≤ z ∧ z ≤ 500) → w_m_columnStands_j2 Q X c s i l z (mset N 12 22 (sWk B c 0 s i + y)) := by
          intro z ez hz
          unfold w_m_columnStands_j2
          refine ⟨by omega, ?_⟩
          (intro N2 eN2; subst eN2)
          refine ih (i + 1) _ (by omega) (I1.ag (Ag.rf.sF (by decide))) ?_ ?_ ?_ ?_
          · rw [mset_ne (by decide), mset_ne (by decide)]; exact n2
          · rw [mset_ne (by decide), mset_ne (by decide)]; exact n3
          · rw [ms_n (by decide), ms_s, e0, ← ey]
          · rw [ms_s, e1, ← ez, el]
        refine ⟨by omega, fun h => J2 0 ?_ (by decide), fun h => ⟨by omega, ?_⟩⟩
        · rcases hx with ⟨_, hx⟩ | ⟨rfl, hx⟩
          · rw [if_neg (fun z => hx ⟨z.1, z.2.1⟩)]
          · exact absurd h (by decide)
        · rcases hx with ⟨rfl, hx⟩ | ⟨_, hx⟩
          · exact absurd rfl h
          · (intro kd ekd _ _; have ekd : kd = (mset N 12 22 (sWk B c 0 s i + y)) 91 i := ekd)
            rw [m_kkin I1.2.1] at ekd
            refine ⟨fun h2 => J2 0 ?_ (by decide), fun h2 => ⟨by omega, ?_⟩⟩
            · rw [if_neg (fun z => h2 (ekd.trans z.2.2))]
            · (intro am eam _ _; have eam : am = (mset N 12 22 (sWk B c 0 s i + y)) 92 i := eam)
              rw [m_kamt I1.2.1] at eam
              refine J2 am ?_ (by omega)
              rw [if_pos ⟨hx.1, hx.2, ekd.symm.trans h2⟩]
              exact eam
      have J0 : ∀ x : Int, (x = 0 ∧ ¬ (s.testBit i = true ∧ B 33 i = c) ∨ x = 1 ∧ (s.testBit i = true ∧ B 33 i = c)) → w_m_columnStands_j0 Q X c s i x N := by
        intro x hx
        unfold w_m_columnStands_j0
        (intro mo emo _ _; have emo : mo = N 12 22 := emo)
        rw [n4] at emo
        rw [emo]
        refine ⟨by omega, fun h => J1 x 0 hx ?_ (by decide), fun h => ⟨by omega, ?_⟩⟩
        · rcases hx with ⟨_, hx⟩ | ⟨rfl, hx⟩
          · rw [if_neg (fun z => hx ⟨z.1, z.2.1⟩)]
          · exact absurd h (by decide)
        · rcases id hx with ⟨rfl, hx'⟩ | ⟨_, hx'⟩
          · exact absurd rfl h
          · (intro kd ekd _ _; have ekd : kd = N 91 i := ekd)
            rw [m_kkin n1.2.1] at ekd
            refine ⟨fun h2 => J1 x 0 hx ?_ (by decide), fun h2 => ⟨by omega, ?_⟩⟩
            · rw [if_neg (fun z => h2 (ekd.trans z.2.2))]
            · (intro am eam _ _; have eam : am = N 92 i := eam)
              rw [m_kamt n1.2.1] at eam
              refine J1 x am hx ?_ (by omega)
              rw [if_pos ⟨hx'.1, hx'.2, ekd.symm.trans h2⟩]
              exact eam
      apply hX
      unfold w_m_columnStands_B0
      (intro a ea _ _; have ea : a = N 12 50 := ea)
      rw [m_works n1.2.1] at ea
      refine ⟨by omega, fun h => absurd h (by omega), fun _ => ?_⟩
      rw [bit1 (by omega) (by omega)]
      by_cases hb : s.testBit i = true
      · rw [if_pos hb]
        refine ⟨by decide, fun z => absurd rfl z, fun _ => ⟨by omega, ?_⟩⟩
        (intro x ex _ _; have ex : x = N 90 i := ex)
        rw [m_kcol n1.2.1] at ex
        exact ⟨by omega, fun h => J0 0 (Or.inl ⟨rfl, fun z => h (ex.trans z.2)⟩), fun h => J0 1 (Or.inr ⟨rfl, hb, ex.symm.trans h⟩)⟩
      · rw [if_neg hb]
        exact ⟨by decide, fun _ => J0 0 (Or.inl ⟨rfl, fun z => hb z.1⟩), fun z => absurd z (by decide)⟩
  refine key (nWk B) 0 _ (by omega) ((I.ag (Ag.rf.sF (by decide))).ag (Ag.rf.sF (by decide))) ?_ ?_ ?_ ?_
  · rw [mset_ne (by decide), mset_ne (by decide)]
  · rw [mset_ne (by decide), mset_ne (by decide)]
  · rw [ms_n (by decide), ms_s]; rfl
  · rw [ms_s]; rfl
/-- the model's kept verdicts -/
def lok (M B : Mem) : Prop := ∀ c : Nat, c < 6 → ∀ o : Nat, o < 64 → (M 96 (64 * c + o) = 0 ∨ (M 96 (64 * c + o) = 1 ∧ hasH B c ∧ stO B c o) ∨ (M 96 (64 * c + o) = 2 ∧ hasH B c ∧ ¬ stO B c o))
theorem stO_own (c : Int) (s : Nat) : stO B c (s &&& so B c (nWk B)) ↔ stO B c s := by
  unfold stO
  rw [sWk_own c 0 s (nWk B) (nWk B) (Nat.le_refl _), sWk_own c 1 s (nWk B) (nWk B) (Nat.le_refl _)]
theorem fnd.fr (h : fnd M B) (e : N 66 = M 66) : fnd N B := fun c hc hh => by rw [e]; exact h c hc hh
theorem m_allStand_ok {s : Nat} {Q : Int → Mem → Prop} (I : Inv M B) (F : fnd M B) (L : lok M B) (hs : s < 64) (k1 : alS B s → ∀ N, Inv N B → fnd N B → lok N B → Q 1 N) (k0 : ¬ alS B s → ∀ N, Inv N B → fnd N B → lok N B → Q 0 N) : w_m_allStand M s Q := by
  have hR := I.2.2.1
  have hW := I.2.2.2.1
  have hnw := nWk_i hR
  unfold w_m_allStand w_m_allStand_L0
  intro X hX
  have key : ∀ (d c : Nat) (x : Int) (N : Mem), c + d = 6 → Inv N B → fnd N B → lok N B → (x = 1 ∧ (∀ y : Nat, y < c → hasH B y → stO B y (s &&& so B y (nWk B))) ∨ x = 0 ∧ ¬ alS B s) → X x c N := by
    intro d
    induction d with
    | zero =>
      intro c x N hd n1 n2 n3 hx
      rw [Nat.add_zero] at hd
      subst hd
      apply hX
      unfold w_m_allStand_B0
      refine ⟨by decide, fun _ => ?_, fun h => absurd (by decide) h⟩
      rcases hx with ⟨rfl, hx⟩ | ⟨rfl, hx⟩
      · exact ⟨by decide, k1 hx N n1 n2 n3⟩
      · exact ⟨by decide, k0 hx N n1 n2 n3⟩
    | succ d ih =>
      intro c x N hd n1 n2 n3 hx
      have hc6 : c < 6 := by omega
      apply hX
      unfold w_m_allStand_B0
      refine ⟨by omega, fun h => absurd h (by omega), fun _ => ?_⟩
      rcases hx with ⟨rfl, hx⟩ | ⟨rfl, hx⟩
      · refine ⟨by decide, fun h => absurd h (by decide), fun _ => ?_⟩
        -- the end of a column's turn
        have J1 : ∀ P, Inv P B → fnd P B → lok P B → (hasH B c → P 96 (64 * c + (s &&& so B c (nWk B) : Nat)) ≠ 0) → w_m_allStand_j1 Q X s c (64 * (c : Int) + (s &&& so B c (nWk B) : Nat)) P := by
          intro P p1 p2 p3 p4
          have ho := own_64 hR c s
          unfold w_m_allStand_j1
          refine ⟨by omega, ?_⟩
          (intro a ea _ _; have ea : a = P 96 (64 * c + (s &&& so B c (nWk B) : Nat)) := ea)
          have good : (hasH B c → stO B c (s &&& so B c (nWk B))) → X 1 ((c : Int) + 1) P := by
            intro g
            refine ih (c + 1) 1 P (by omega) p1 p2 p3 (Or.inl ⟨rfl, fun y hy hh => ?_⟩)
            by_cases e : y = c
            · subst e; exact g hh
            · exact hx y (by omega) hh
          rcases p3 c hc6 _ ho with z | ⟨z, y1, y2⟩ | ⟨z, y1, y2⟩
          · exact ⟨fun w => absurd (w.symm.trans (ea.trans z)) (by decide), fun _ => good (fun hh => absurd z (p4 hh))⟩
          · exact ⟨fun w => absurd (w.symm.trans (ea.trans z)) (by decide), fun _ => good (fun _ => y2)⟩
          · exact ⟨fun _ => ih (c + 1) 0 P (by omega) p1 p2 p3 (Or.inr ⟨rfl, fun al => y2 (al c hc6 y1)⟩), fun w => absurd (ea.trans z) w⟩
        have J0 : ∀ P, Inv P B → fnd P B → P 96 = N 96 → hasH B c → ∀ z : Int, (z = 1 ∧ stO B c (s &&& so B c (nWk B)) ∨ z = 2 ∧ ¬ stO B c (s &&& so B c (nWk B))) → w_m_allStand_j0 Q X s c (64 * (c : Int) + (s &&& so B c (nWk B) : Nat)) (64 * (c : Int) + (s &&& so B c (nWk B) : Nat)) z P := by
          intro P p1 p2 p3 yh z hz
          have ho := own_64 hR c s
          unfold w_m_allStand_j0
          refine ⟨⟨by omega, by omega⟩, ?_⟩
          (intro P1 eP1; subst eP1)
          refine J1 _ (p1.ag (Ag.rf.sA (by decide))) (p2.fr (mset_ne (by decide))) (fun c' hc' o' ho' => ?_) (fun _ => by rw [ms_s]; omega)
          by_cases e : 64 * (c' : Int) + o' = 64 * (c : Int) + (s &&& so B c (nWk B) : Nat)
          · have e1 : c' = c := by omega
            subst e1
            have e2 : o' = s &&& so B c' (nWk B) := by omega
            subst e2
            rw [ms_s]
            rcases hz with ⟨h1, h2⟩ | ⟨h1, h2⟩
            · exact Or.inr (Or.inl ⟨h1, yh, h2⟩)
            · exact Or.inr (Or.inr ⟨h1, yh, h2⟩)
          · rw [ms_n e, p3]
            exact n3 c' hc' o' ho'
        unfold w_m_allStand_L1
        intro Y hY
        have key2 : ∀ (e i : Nat), i + e = nWk B → Y (s &&& so B c i : Nat) i := by
          intro e
          induction e with
          | zero =>
            intro i he
            rw [Nat.add_zero] at he
            rw [he]
            have ho := own_64 hR c s
            apply hY
            unfold w_m_allStand_B1
            (intro a ea _ _; have ea : a = N 12 50 := ea)
            rw [m_works n1.2.1] at ea
            refine ⟨by omega, fun _ => ?_, fun h => absurd h (by omega)⟩
            refine m_hasHouse_ok n1.2.1 hR (by omega) (fun yh => ?_) (fun nh => ?_)
            · (first | refine t1n ?_ | refine t1e ?_)
              refine ⟨by omega, ?_⟩
              (intro v ev _ _; have ev : v = N 96 (64 * c + (s &&& so B c (nWk B) : Nat)) := ev)
              refine ⟨fun hv => J1 N n1 n2 n3 (fun _ z => hv (ev.trans z)), fun hv => ?_⟩
              refine m_columnStands_ok n1 n2 hc6 yh hs (fun st P p1 p2 p3 => ?_) (fun st P p1 p2 p3 => ?_)
              · (first | refine t1n ?_ | refine t1e ?_)
                exact J0 P p1 (n2.fr p2) p3 yh 1 (Or.inl ⟨rfl, (stO_own c s).mpr st⟩)
              · (first | refine t0n ?_ | refine t0e ?_)
                exact J0 P p1 (n2.fr p2) p3 yh 2 (Or.inr ⟨rfl, fun z => st ((stO_own c s).mp z)⟩)
            · (first | refine t0n ?_ | refine t0e ?_)
              exact J1 N n1 n2 n3 (fun z => absurd z nh)
          | succ e ih2 =>
            intro i he
            have st := ih2 (i + 1) (by omega)
            have e1 : so B c (i + 1) = if B 33 i = c then so B c i ||| 2 ^ i else so B c i := rfl
            have hl : s &&& so B c i ≤ s := Nat.and_le_left
            have hp := pow64 i (by omega)
            apply hY
            unfold w_m_allStand_B1
            (intro a ea _ _; have ea : a = N 12 50 := ea)
            rw [m_works n1.2.1] at ea
            refine ⟨by omega, fun h => absurd h (by omega), fun _ => ⟨by omega, ?_⟩⟩
            (intro y ey _ _; have ey : y = N 90 i := ey)
            rw [m_kcol n1.2.1] at ey
            refine ⟨by omega, fun h => ?_, fun h => ?_⟩
            · rw [if_neg (fun z => h (ey.trans z))] at e1
              rw [e1] at st
              have e2 := bOr_nat (x := s &&& so B c i) (y := 0) (by omega) (by omega)
              rw [Nat.or_zero] at e2
              have e2 : bOr ((s &&& so B c i : Nat) : Int) 0 = ((s &&& so B c i : Nat) : Int) := e2
              rw [e2]
              exact st
            · rw [if_pos (ey.symm.trans h)] at e1
              have e2 := bShl_nat (x := 1) (k := i) (by omega) (by omega)
              rw [Nat.one_mul] at e2
              have e2 : bShl 1 (i : Int) = ((2 ^ i : Nat) : Int) := e2
              have hl2 : s &&& 2 ^ i ≤ s := Nat.and_le_left
              rw [e2, bAnd_nat (by omega) (by omega), bOr_nat (by omega) (by omega), ← Nat.and_or_distrib_left, ← e1]
              exact st
        have := key2 (nWk B) 0 (by omega)
        have e0 : s &&& so B c 0 = 0 := Nat.and_zero s
        rw [e0] at this
        exact this
      · exact ⟨by decide, fun _ => ⟨by decide, k0 hx N n1 n2 n3⟩, fun h => absurd rfl h⟩
  exact key 6 0 1 M (by decide) I F L (Or.inl ⟨rfl, fun y hy => absurd hy (by omega)⟩)
theorem m_lookAnew_ok {Q : Mem → Prop} (I : Inv M B) (F : fnd M B) (kk : ∀ N, Inv N B → fnd N B → lok N B → Q N) : w_m_lookAnew M Q := by
  unfold w_m_lookAnew w_m_lookAnew_L0
  intro X hX
  have key : ∀ (d i : Nat) (N : Mem), i + d = 384 → Inv N B → fnd N B → (∀ x : Nat, x < i → N 96 x = 0) → X i N := by
    intro d
    induction d with
    | zero =>
      intro i N hd n1 n2 n3
      apply hX
      unfold w_m_lookAnew_B0
      refine ⟨by omega, fun _ => kk N n1 n2 (fun c hc o ho => Or.inl ?_), fun h => absurd h (by omega)⟩
      have := n3 (64 * c + o) (by omega)
      rw [(show ((64 * c + o : Nat) : Int) = 64 * c + o by omega)] at this
      exact this
    | succ d ih =>
      intro i N hd n1 n2 n3
      apply hX
      unfold w_m_lookAnew_B0
      refine ⟨by omega, fun h => absurd h (by omega), fun _ => ⟨by omega, ?_⟩⟩
      (intro N1 eN1; subst eN1)
      refine ih (i + 1) _ (by omega) (n1.ag (Ag.rf.sA (by decide))) (n2.fr (mset_ne (by decide))) (fun x hx => ?_)
      by_cases e : x = i
      · rw [e, ms_s]
      · rw [ms_n (by omega)]; exact n3 x (by omega)
  exact key 384 0 M (by decide) I F (fun x hx => absurd hx (by omega))
end MSTAND

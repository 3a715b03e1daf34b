/-! ===== which columns stand: the class ===== -/
abbrev stO (B : Mem) (c : Int) (o : Nat) : Prop := stn B c (sWk B c 0 o (nWk B)) (sWk B c 1 o (nWk B))
def alS (B : Mem) (s : Nat) : Prop := ∀ c : Nat, c < 6 → hasH B c → stO B c (s &&& so B c (nWk B))
/-- the class's kept verdicts -/
def vok (M B : Mem) : Prop := ∀ c : Nat, c < 6 → hasH B c → ∀ o : Nat, o < 64 → (M 49 (c * 64 + o) = 0 ∨ (M 49 (c * 64 + o) = 1 ∧ stO B c o) ∨ (M 49 (c * 64 + o) = 2 ∧ ¬ stO B c o))
section CSTAND
variable {M N B : Mem}
theorem safe_cg {c q mo le : Int} {ch ch' : Nat → Int} (h : ∀ k, k < nly B c → ch k = ch' k) : safe B c (fin B c q ch mo le) ↔ safe B c (fin B c q ch' mo le) := by
  unfold safe
  rw [snk_cg (P := fin B c q ch mo le) (P' := fin B c q ch' mo le) _ (fun k hk => fin_cg h hk)]
theorem columnHolds_ok {c o : Nat} {Q : Int → Mem → Prop} (I : Inv M B) (hc6 : c < 6) (hl : M 5 9 / 2 ^ c % 2 = 1) (ho : o < 64) (k1 : stO B c o → ∀ N, FrT M N → Q 1 N) (k0 : ¬ stO B c o → ∀ N, FrT M N → Q 0 N) : w_S_columnHolds M c o Q := by
  have hR := I.2.2.1
  have hW := I.2.2.2.1
  have c0 : (0 : Int) ≤ c := by omega
  have c6 : (c : Int) < 6 := by omega
  have hma := many_all (c := c) hR hW c0 c6
  have hnc := nCh_i (c := c) hR hW c0 c6
  have hs := nSh_i hR
  have hnw := nWk_i hR
  have hwr := wd_rng hR c (nHo B)
  have hnl := nly_i hR c
  have hmk := b_rule hR 23
  have rm := sWk_rng hR c 0 o (nWk B)
  have rl := sWk_rng hR c 1 o (nWk B)
  unfold w_S_columnHolds
  refine widestOn_ok I.1 hR (by omega) ?_
  unfold w_S_columnHolds_L0
  intro X hX
  have key : ∀ (d q : Nat) (N : Mem), q + d = nSh B → FrT M N → (∀ x : Nat, x < q → ∀ p : Int, 0 ≤ p → p < many B c (nly B c) → kept B c p → safe B c (fin B c x (dig B c p) (sWk B c 0 o (nWk B)) (sWk B c 1 o (nWk B)))) → X q N := by
    intro d
    induction d with
    | zero =>
      intro q N hd f h
      rw [Nat.add_zero] at hd
      have IN := I.ag f.ag
      apply hX
      unfold w_S_columnHolds_B0
      (intro a ea _ _; have ea : a = N 3 3 := ea)
      rw [c_shakes IN.1] at ea
      exact ⟨by omega, fun _ => k1 (fun x hx => h x (by omega)) N f, fun h => absurd h (by omega)⟩
    | succ d ih =>
      intro q N hd f h
      have IN := I.ag f.ag
      apply hX
      unfold w_S_columnHolds_B0
      (intro a ea _ _; have ea : a = N 3 3 := ea)
      rw [c_shakes IN.1] at ea
      refine ⟨by omega, fun h => absurd h (by omega), fun _ => ?_⟩
      refine begin_ok IN.1 hR hW c0 c6 (fun M3 b1 b2 b3 => ?_)
      rw [← chI_zero B c] at b1
      refine sumOn_ok b1.hC hR (by omega) (by decide) ho (sumOn_ok b1.hC hR (by omega) (by decide) ho ?_)
      refine under_ok b1 (by omega) (by omega) (by omega) (by omega) (fun M4 u1 u2 u3 => ?_)
      have f4 := (f.trans b2).trans u3
      generalize emo : sWk B c 0 o (nWk B) = mo at u1 u2 k1 k0 h ih rm ⊢
      generalize ele : sWk B c 1 o (nWk B) = le at u1 u2 k1 k0 h ih rl ⊢
      unfold w_S_columnHolds_L1
      intro Y hY
      have key2 : ∀ (e n : Nat) (O : Mem), n + e = nCh B c → FrT M O → TrU O B c q (chI B c n) mo le → TrS O B c q (chI B c n) mo le → (∀ m : Nat, m < n → kept B c (plI B c m) → safe B c (fin B c q (dig B c (plI B c m)) mo le)) → Y n O := by
        intro e
        induction e with
        | zero =>
          intro n O he g t1 t2 hh
          rw [Nat.add_zero] at he
          have IX := I.ag g.ag
          have hlN : O 5 9 / 2 ^ c % 2 = 1 := by rw [g _ (by decide) (by decide) (by decide) (by decide) (by decide) (by decide) (by decide)]; exact hl
          apply hY
          unfold w_S_columnHolds_B1
          refine ⟨by omega, ?_⟩
          (intro b eb _ _; have eb : b = O 36 c := eb)
          rw [(IX.2.2.2.2.2.1.at hc6 hlN).1] at eb
          refine ⟨by omega, fun _ => ?_, fun h => absurd h (by omega)⟩
          refine ih (q + 1) O (by omega) g (fun x hx p p0 p1 hp => ?_)
          by_cases z : x = q
          · subst z
            obtain ⟨m, m1, m2⟩ := plI_all hR hW c0 c6 p0 p1
            rw [← m2]
            exact hh m (by rw [he]; exact m1) (by rw [m2]; exact hp)
          · exact h x (by omega) p p0 p1 hp
        | succ e ih2 =>
          intro n O he g t1 t2 hh
          have IX := I.ag g.ag
          have hlN : O 5 9 / 2 ^ c % 2 = 1 := by rw [g _ (by decide) (by decide) (by decide) (by decide) (by decide) (by decide) (by decide)]; exact hl
          have hpl := plI_rng hR hW c0 c6 (n : Int)
          have hdig : ∀ k, k < nly B c → chI B c n k = dig B c (plI B c n) k := fun k hk => (dig_plc hR hW c0 c6 (chI_ok hR hW c0 c6 n) hk).symm
          have nxt : ∀ P, FrT M P → TrU P B c q (chI B c n) mo le → TrS P B c q (chI B c n) mo le → (kept B c (plI B c n) → safe B c (fin B c q (dig B c (plI B c n)) mo le)) → w_S_columnHolds_j0 Q X Y c o (wd B c (nHo B)) q n P := by
            intro P g t1 t2 hk
            unfold w_S_columnHolds_j0
            refine turn_ok t1 t2 (fun N3 r1 r2 r3 => ih2 (n + 1) N3 (by omega) (g.trans r3) r1 r2 (fun m hm hkm => ?_))
            by_cases z : m = n
            · subst z; exact hk hkm
            · exact hh m (by omega) hkm
          apply hY
          unfold w_S_columnHolds_B1
          refine ⟨by omega, ?_⟩
          (intro b eb _ _; have eb : b = O 36 c := eb)
          rw [(IX.2.2.2.2.2.1.at hc6 hlN).1] at eb
          refine ⟨by omega, fun h => absurd h (by omega), fun _ => ?_⟩
          refine place_ok t1.b ?_
          refine keep_ok (p := plI B c n) IX hc6 hlN hpl.1 hpl.2 (fun hk2 => ?_) (fun hk2 => ?_)
          · (first | refine t1n ?_ | refine t1e ?_)
            refine play_ok t1 t2 (by omega) (by omega) (fun N1 p1 p2 p3 p4 => ?_)
            have hsr := snk_rng (c := c) (P := fin B c q (chI B c n) mo le) hR (wd B c (nHo B)) (nly B c)
            refine sinkOf_ok p1.b p3 hwr ?_
            unfold w_Rules_mark
            (intro mk emk _ _; have emk : mk = N1 30 23 := emk)
            rw [c_rule p1.b.hC] at emk
            rw [emk]
            refine ⟨by omega, by omega, fun hlt => nxt N1 (g.trans p4) p1 p2 (fun _ => (safe_cg hdig).mp hlt), fun hge => k0 (fun st => ?_) N1 (g.trans p4)⟩
            have st' := st q (by omega) (plI B c n) hpl.1 hpl.2 hk2
            rw [emo, ele] at st'
            have := (safe_cg (q := q) (mo := mo) (le := le) hdig).mpr st'
            exact hge this
          · (first | refine t0n ?_ | refine t0e ?_)
            exact nxt O g t1 t2 (fun z => absurd z hk2)
      exact key2 (nCh B c) 0 M4 (by omega) f4 u1 u2 (fun m hm => absurd hm (by omega))
  exact key (nSh B) 0 M (by omega) FrT.rf (fun x hx => absurd hx (by omega))
theorem lkd.fr (h : lkd M B) (e : N 5 = M 5) : lkd N B := fun c hc hh => by rw [e]; exact h c hc hh
theorem columnStands_ok {c o : Nat} {Q : Int → Mem → Prop} (I : Inv M B) (L : lkd M B) (V : vok M B) (hc6 : c < 6) (yh : hasH B c) (ho : o < 64) (k1 : stO B c o → ∀ N, Inv N B → lkd N B → vok N B → Q 1 N) (k0 : ¬ stO B c o → ∀ N, Inv N B → lkd N B → vok N B → Q 0 N) : w_S_columnStands M c o Q := by
  have J1 : ∀ N, Inv N B → lkd N B → vok N B → N 49 (c * 64 + o) ≠ 0 → w_S_columnStands_j1 Q ((c : Int) * 64 + o) N := by
    intro N n1 n2 n3 n4
    unfold w_S_columnStands_j1
    refine ⟨by omega, ?_⟩
    (intro a ea _ _; have ea : a = N 49 (c * 64 + o) := ea)
    rcases n3 c hc6 yh o ho with z | ⟨z, y⟩ | ⟨z, y⟩
    · exact absurd z n4
    · exact ⟨fun w => absurd (ea.trans z) w, fun _ => k1 y N n1 n2 n3⟩
    · exact ⟨fun _ => k0 y N n1 n2 n3, fun w => absurd (w.symm.trans (ea.trans z)) (by decide)⟩
  unfold w_S_columnStands
  refine ⟨by omega, ?_⟩
  (intro a ea _ _; have ea : a = M 49 (c * 64 + o) := ea)
  refine ⟨fun h => J1 M I L V (fun z => h (ea.trans z)), fun h => ?_⟩
  have put : ∀ N, FrT M N → ∀ z : Int, (z = 1 ∧ stO B c o ∨ z = 2 ∧ ¬ stO B c o) → w_S_columnStands_j0 Q ((c : Int) * 64 + o) ((c : Int) * 64 + o) z N := by
    intro N f z hz
    unfold w_S_columnStands_j0
    refine ⟨⟨by omega, by omega⟩, ?_⟩
    (intro N1 eN1; subst eN1)
    have ev : N 49 = M 49 := f _ (by decide) (by decide) (by decide) (by decide) (by decide) (by decide) (by decide)
    refine J1 _ ((I.ag f.ag).ag (Ag.rf.sA (by decide))) (L.fr ?_) (fun c' hc' hh o' ho' => ?_) (by rw [ms_s]; omega)
    · rw [mset_ne (by decide)]; exact f _ (by decide) (by decide) (by decide) (by decide) (by decide) (by decide) (by decide)
    · by_cases e : (c' : Int) * 64 + o' = c * 64 + o
      · have e1 : c' = c := by omega
        have e2 : o' = o := by omega
        subst e1
        subst e2
        rw [ms_s]
        exact Or.inr hz
      · rw [ms_n e, ev]
        exact V c' hc' hh o' ho'
  refine columnHolds_ok I hc6 (L c hc6 yh) ho (fun st N f => ?_) (fun st N f => ?_)
  · (first | refine t1n ?_ | refine t1e ?_)
    exact put N f 1 (Or.inl ⟨rfl, st⟩)
  · (first | refine t0n ?_ | refine t0e ?_)
    exact put N f 2 (Or.inr ⟨rfl, st⟩)
theorem allStand_ok {s : Nat} {Q : Int → Mem → Prop} (I : Inv M B) (L : lkd M B) (V : vok M B) (hs : s < 64) (k1 : alS B s → ∀ N, Inv N B → lkd N B → vok N B → Q 1 N) (k0 : ¬ alS B s → ∀ N, Inv N B → lkd N B → vok N B → Q 0 N) : w_S_allStand M s Q := by
  have hR := I.2.2.1
  have hW := I.2.2.2.1
  unfold w_S_allStand w_S_allStand_L0
  intro X hX
  have key : ∀ (d c : Nat) (N : Mem), c + d = 6 → Inv N B → lkd N B → vok N B → (∀ x : Nat, x < c → hasH B x → stO B x (s &&& so B x (nWk B))) → X c N := by
    intro d
    induction d with
    | zero =>
      intro c N hd n1 n2 n3 n4
      rw [Nat.add_zero] at hd
      subst hd
      apply hX
      unfold w_S_allStand_B0
      exact ⟨by decide, fun _ => k1 n4 N n1 n2 n3, fun h => absurd (by decide) h⟩
    | succ d ih =>
      intro c N hd n1 n2 n3 n4
      have hwr := wd_rng hR c (nHo B)
      have hwp := wd_pos hR hW c
      have h64 := so_64 hR c
      apply hX
      unfold w_S_allStand_B0
      refine ⟨by omega, fun h => absurd h (by omega), fun _ => ?_⟩
      refine widestOn_ok n1.1 hR (by omega) ⟨by omega, fun h => ?_, fun h => ?_⟩
      · have nh : ¬ hasH B c := fun z => by have := hwp.mpr z; omega
        refine ih (c + 1) N (by omega) n1 n2 n3 (fun x hx hh => ?_)
        by_cases e : x = c
        · subst e; exact absurd hh nh
        · exact n4 x (by omega) hh
      · have yh : hasH B c := hwp.mp (by omega)
        refine setOn_ok n1.1 hR (by omega) ?_
        rw [bAnd_nat (by omega) (by omega)]
        refine columnStands_ok n1 n2 n3 (by omega) yh (own_64 hR c s) (fun st P p1 p2 p3 => ?_) (fun st P p1 p2 p3 => ?_)
        · (first | refine t1n ?_ | refine t1e ?_)
          refine ih (c + 1) P (by omega) p1 p2 p3 (fun x hx hh => ?_)
          by_cases e : x = c
          · subst e; exact st
          · exact n4 x (by omega) hh
        · (first | refine t0n ?_ | refine t0e ?_)
          exact k0 (fun al => st (al c (by omega) yh)) P p1 p2 p3
  exact key 6 0 M (by decide) I L V (fun x hx => absurd hx (by omega))
theorem forgetVerdicts_ok {Q : Mem → Prop} (I : Inv M B) (L : lkd M B) (kk : ∀ N, Inv N B → lkd N B → vok N B → Q N) : w_Works_forgetVerdicts M Q := by
  unfold w_Works_forgetVerdicts w_Works_forgetVerdicts_L0
  intro X hX
  have key : ∀ (d i : Nat) (N : Mem), i + d = 384 → Inv N B → lkd N B → (∀ x : Nat, x < i → N 49 x = 0) → X i N := by
    intro d
    induction d with
    | zero =>
      intro i N hd n1 n2 n3
      apply hX
      unfold w_Works_forgetVerdicts_B0
      refine ⟨by omega, fun _ => kk N n1 n2 (fun c hc _ o ho => Or.inl ?_), fun h => absurd h (by omega)⟩
      have := n3 (c * 64 + o) (by omega)
      rw [(show ((c * 64 + o : Nat) : Int) = c * 64 + o by omega)] at this
      exact this
    | succ d ih =>
      intro i N hd n1 n2 n3
      apply hX
      unfold w_Works_forgetVerdicts_B0
      refine ⟨by omega, fun h => absurd h (by omega), fun _ => ⟨by omega, ?_⟩⟩
      (intro N1 eN1; subst eN1)
      refine ih (i + 1) _ (by omega) (n1.ag (Ag.rf.sA (by decide))) (n2.fr (mset_ne (by decide))) (fun x hx => ?_)
      by_cases e : x = i
      · rw [e, ms_s]
      · rw [ms_n (by omega)]; exact n3 x (by omega)
  exact key 384 0 M (by decide) I L (fun x hx => absurd hx (by omega))
end CSTAND

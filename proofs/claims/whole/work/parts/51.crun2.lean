/-! ===== the class's run, whole ===== -/
theorem wet_up {B : Mem} (hR : RB B) {c : Int} {k : Nat} (h : wet B c k) : ∀ d : Nat, wet B c (k + d)
  | 0 => h
  | d + 1 => by
    have ih := wet_up hR h d
    have := b_thick hR (c * 6 + (k + d : Nat))
    show B 1 c ≤ dep B c (k + d) + B 4 (c * 6 + (k + d : Nat))
    have ih : B 1 c ≤ dep B c (k + d) := ih
    omega
theorem wet_le {B : Mem} (hR : RB B) {c : Int} {k j : Nat} (h : wet B c k) (hj : k ≤ j) : wet B c j := by
  have := wet_up hR h (j - k)
  rw [(show k + (j - k) = j by omega)] at this
  exact this
theorem arD_cg {B : Mem} {c a : Int} {P P' : Nat → Int × Int} : ∀ d : Nat, (∀ j : Nat, j < nly B c → nly B c ≤ j + d → P j = P' j) → d ≤ nly B c → arD B c P a d = arD B c P' a d
  | 0, _, _ => rfl
  | d + 1, h, hd => by
    unfold arD
    rw [arD_cg d (fun j h1 h2 => h j h1 (by omega)) (by omega), h (nly B c - 1 - d) (by omega) (by omega)]
section CRUN2
variable {M N O B : Mem} {c q : Int} {ch ch' : Nat → Int} {mo le : Int}
theorem arr_cg {P P' : Nat → Int × Int} {s k : Nat} (hk : k < nly B c) (h : ∀ j, k < j → j < nly B c → P j = P' j) : arr B c q P s k = arr B c q P' s k :=
  arD_cg _ (fun j h1 h2 => h j (by omega) h1) (by omega)
theorem bt1_cg {P P' : Nat → Int × Int} {s k : Nat} (hk : k < nly B c) (h : ∀ j, k ≤ j → j < nly B c → P j = P' j ∧ ch j = ch' j) : bt1 B c q ch le P s k = bt1 B c q ch' le P' s k := by
  unfold bt1 grw
  rw [arr_cg hk (fun j h1 h2 => (h j (by omega) h2).1), (h k (Nat.le_refl _) hk).1, (h k (Nat.le_refl _) hk).2]
theorem FF_cg : ∀ (s k : Nat), k < nly B c → (∀ j, k ≤ j → j < nly B c → ch j = ch' j) → FF B c q ch mo le s k = FF B c q ch' mo le s k
  | 0, _, _, _ => rfl
  | s + 1, k, hk, h => by
    rw [FF_drn, FF_drn]
    have ih : ∀ j, k ≤ j → j < nly B c → FF B c q ch mo le s j = FF B c q ch' mo le s j := fun j h1 h2 => FF_cg s j h2 (fun i h3 h4 => h i (by omega) h4)
    have e0 : bt1 B c q ch le (FF B c q ch mo le s) s k = bt1 B c q ch' le (FF B c q ch' mo le s) s k := bt1_cg hk (fun j h1 h2 => ⟨ih j h1 h2, h j h1 h2⟩)
    unfold drn
    rw [e0]
    by_cases e : k + 1 < nly B c
    · have e1 : bt1 B c q ch le (FF B c q ch mo le s) s (k + 1) = bt1 B c q ch' le (FF B c q ch' mo le s) s (k + 1) := bt1_cg e (fun j h1 h2 => ⟨ih j (by omega) h2, h j (by omega) h2⟩)
      rw [e1]
    · rw [if_neg e, if_neg e]
/-- how far the run is played -/
def TrS (M B : Mem) (c q : Int) (ch : Nat → Int) (mo le : Int) : Prop := (-1 ≤ M 1 16 ∧ M 1 16 < (nly B c : Nat)) ∧ (∀ k : Nat, k < nly B c → M 1 16 ≤ k → wet B c k → RowA M B c q ch mo le k ∧ RowR M B c q ch mo le k) ∧ (∀ k : Nat, k < nly B c → M 1 16 < k → M 14 k = (fin B c q ch mo le k).1 ∧ M 15 k = (fin B c q ch mo le k).2)
/-- the run stands played -/
def PC (M : Mem) (P : Nat → Int × Int) (n : Nat) : Prop := ∀ k : Nat, k < n → M 14 k = (P k).1 ∧ M 15 k = (P k).2
/-- other choices of layers that are yet to be played -/
theorem TrS.cg {M N : Mem} (h : TrS M B c q ch mo le) (s1 : M 1 16 ≤ N 1 16) (s2 : N 1 16 < (nly B c : Nat)) (e : ∀ j : Nat, N 1 16 < j → j < nly B c → ch' j = ch j) (ea : N 17 = M 17) (er : N 18 = M 18) (ep : N 14 = M 14) (eg : N 15 = M 15) : TrS N B c q ch' mo le := by
  have F : ∀ (s k : Nat), k < nly B c → N 1 16 < k → FF B c q ch' mo le s k = FF B c q ch mo le s k := fun s k hk h1 => FF_cg s k hk (fun j h2 h3 => e j (by omega) h3)
  refine ⟨⟨by have := h.1.1; omega, s2⟩, fun k hk h1 hw => ⟨fun s hs => ?_, fun s hs => ?_⟩, fun k hk h1 => ?_⟩
  · rw [ea, (h.2.1 k hk (by omega) hw).1 s hs]
    exact arr_cg hk (fun j h2 h3 => (F s j h3 (by omega)).symm)
  · rw [er, (h.2.1 k hk (by omega) hw).2 s hs]
    by_cases e1 : k + 1 < nly B c
    · rw [if_pos e1, if_pos e1, bt1_cg (ch' := ch') (P' := FF B c q ch' mo le s) e1 (fun j h2 h3 => ⟨(F s j h3 (by omega)).symm, (e j (by omega) h3).symm⟩)]
    · rw [if_neg e1, if_neg e1]
  · rw [ep, eg, fin, F _ k hk h1]
    exact h.2.2 k hk (by omega)
/-- what a trial may change -/
def FrT (M N : Mem) : Prop := ∀ h, h ≠ 1 → h ≠ 13 → h ≠ 14 → h ≠ 15 → h ≠ 16 → h ≠ 17 → h ≠ 18 → N h = M h
theorem FrT.rf : FrT M M := fun _ _ _ _ _ _ _ _ => rfl
theorem FrT.trans (h1 : FrT M N) (h2 : FrT N O) : FrT M O := fun h a b c d e f g => (h2 h a b c d e f g).trans (h1 h a b c d e f g)
theorem FrT.ag (h : FrT M N) : Ag M N := by
  intro q hq
  have e : N q.1 = M q.1 := h q.1 (by revert q; decide) (by revert q; decide) (by revert q; decide) (by revert q; decide) (by revert q; decide) (by revert q; decide) (by revert q; decide)
  obtain ⟨q1, q2⟩ := q
  cases q2 with
  | none => exact e
  | some k => exact congrFun e k
theorem play_ok {Q : Mem → Prop} (H : TrU M B c q ch mo le) (S : TrS M B c q ch mo le) (q0 : 0 ≤ q) (q6 : q < 6)
    (kk : ∀ N, TrU N B c q ch mo le → TrS N B c q ch mo le → PC N (fin B c q ch mo le) (nly B c) → FrT M N → Q N) : w_Trial_play M Q := by
  obtain ⟨hn, hn6⟩ := nly_i H.b.hR c
  have S1 := S.1
  unfold w_Trial_play
  (intro a ea _ _; have ea : a = M 1 16 := ea)
  unfold w_Trial_play_L0
  intro X hX
  have key : ∀ (i : Nat) (N : Mem), i ≤ nly B c → (∀ h, h ≠ 14 → h ≠ 15 → h ≠ 17 → h ≠ 18 → N h = M h) → (∀ k : Nat, k < nly B c → i ≤ k + 1 → wet B c k → RowA N B c q ch mo le k ∧ RowR N B c q ch mo le k) → (∀ k : Nat, k < nly B c → i ≤ k → N 14 k = (fin B c q ch mo le k).1 ∧ N 15 k = (fin B c q ch mo le k).2) → X ((i : Int) - 1) N := by
    intro i
    induction i with
    | zero =>
      intro N hi h1 h2 h3
      apply hX
      unfold w_Trial_play_B0
      refine ⟨by omega, fun _ => ?_, fun h => absurd h (by omega)⟩
      (intro N1 eN1; subst eN1)
      have hC : CB (mset N 1 16 (-1)) B := by
        refine H.b.hC.ag (FrT.ag (M := M) (fun h a1 a2 a3 a4 a5 a6 a7 => ?_))
        rw [mset_ne a1]
        exact h1 h a3 a4 a6 a7
      have f1 : ∀ k : Int, k ≠ 16 → (mset N 1 16 (-1)) 1 k = M 1 k := fun k hk => by rw [ms_n hk, h1 _ (by decide) (by decide) (by decide) (by decide)]
      have e2 : (mset N 1 16 (-1)) 13 = M 13 := by rw [mset_ne (by decide), h1 _ (by decide) (by decide) (by decide) (by decide)]
      have e3 : (mset N 1 16 (-1)) 16 = M 16 := by rw [mset_ne (by decide), h1 _ (by decide) (by decide) (by decide) (by decide)]
      refine kk _ ⟨⟨by rw [f1 _ (by decide)]; exact H.b.col, by rw [f1 _ (by decide)]; exact H.b.lay, by rw [e2]; exact H.b.cho, hC, H.b.2.2.2.2⟩, by rw [f1 _ (by decide)]; exact H.bea, by rw [f1 _ (by decide)]; exact H.ste, by rw [f1 _ (by decide)]; exact H.mor, by rw [f1 _ (by decide)]; exact H.les, by rw [e3]; exact H.hol, by rw [f1 _ (by decide)]; exact H.fwe, H.2.2.2.2.2.2.2⟩ ⟨?_, fun k hk _ hw => ?_, fun k hk _ => ?_⟩ (fun k hk => ?_) (fun h a1 a2 a3 a4 a5 a6 a7 => ?_)
      · rw [ms_s]; omega
      · have := h2 k hk (by omega) hw
        exact ⟨fun s hs => by rw [mset_ne (by decide)]; exact this.1 s hs, fun s hs => by rw [mset_ne (by decide)]; exact this.2 s hs⟩
      · rw [mset_ne (by decide), mset_ne (by decide)]; exact h3 k hk (by omega)
      · rw [mset_ne (by decide), mset_ne (by decide)]; exact h3 k hk (by omega)
      · rw [mset_ne a1]
        exact h1 h a3 a4 a6 a7
    | succ i ih =>
      intro N hi h1 h2 h3
      have hin : i < nly B c := by omega
      rw [(show ((i + 1 : Nat) : Int) - 1 = i by omega)]
      apply hX
      unfold w_Trial_play_B0
      refine ⟨by omega, fun h => absurd h (by omega), fun _ => ⟨by omega, ?_⟩⟩
      (intro N1 eN1; subst eN1)
      refine ⟨by omega, ?_⟩
      (intro N2 eN2; subst eN2)
      have g1 : ∀ h, h ≠ 14 → h ≠ 15 → h ≠ 17 → h ≠ 18 → (mset (mset N 14 i 0) 15 i (-1)) h = M h := fun h a b c d => by rw [mset_ne b, mset_ne a]; exact h1 h a b c d
      have g0 : (mset (mset N 14 i 0) 15 i (-1)) 1 = M 1 := g1 _ (by decide) (by decide) (by decide) (by decide)
      have gp : (mset (mset N 14 i 0) 15 i (-1)) 14 i = 0 := by rw [mset_ne (by decide), ms_s]
      have gg : (mset (mset N 14 i 0) 15 i (-1)) 15 i = -1 := ms_s
      have go : ∀ j : Int, j ≠ i → (mset (mset N 14 i 0) 15 i (-1)) 14 j = N 14 j ∧ (mset (mset N 14 i 0) 15 i (-1)) 15 j = N 15 j := fun j hj => ⟨by rw [mset_ne (by decide), ms_n hj], by rw [ms_n hj, mset_ne (by decide)]⟩
      have ga : (mset (mset N 14 i 0) 15 i (-1)) 17 = N 17 := by rw [mset_ne (by decide), mset_ne (by decide)]
      have gr : (mset (mset N 14 i 0) 15 i (-1)) 18 = N 18 := by rw [mset_ne (by decide), mset_ne (by decide)]
      generalize (mset (mset N 14 i 0) 15 i (-1)) = N2 at g1 g0 gp gg go ga gr ⊢
      have HN : TrU N2 B c q ch mo le := H.fr g0 (g1 _ (by decide) (by decide) (by decide) (by decide)) (g1 _ (by decide) (by decide) (by decide) (by decide)) (H.b.hC.ag (FrT.ag (M := M) (fun h a1 a2 a3 a4 a5 a6 a7 => g1 h a3 a4 a6 a7)))
      (intro b eb _ _; have eb : b = N2 1 11 := eb)
      rw [g0] at eb
      have hfw := H.fwe i hin
      rw [← eb] at hfw
      refine ⟨by omega, fun h => ?_, fun h => ?_⟩
      · have hd : ¬ wet B c i := fun z => by have := hfw.mpr z; omega
        rw [(show (i : Int) + -1 = (i : Int) - 1 by omega)]
        refine ih N2 (by omega) g1 (fun k hk h4 hw => ?_) (fun k hk h4 => ?_)
        · have hki : i < k := by
            by_cases z : i < k
            · exact z
            · exact absurd (wet_le H.b.hR hw (by omega)) hd
          have := h2 k hk (by omega) hw
          exact ⟨fun s hs => by rw [ga]; exact this.1 s hs, fun s hs => by rw [gr]; exact this.2 s hs⟩
        · by_cases e : k = i
          · subst e
            rw [gp, gg]
            unfold fin
            rw [FF_dry c q ch mo le hd]
            exact ⟨rfl, rfl⟩
          · have e2 : ¬ (k : Int) = i := fun z => e (Int.ofNat_inj.mp z)
            rw [(go k e2).1, (go k e2).2]
            exact h3 k hk (by omega)
      · have hw : wet B c i := hfw.mp (by omega)
        have hrow := h2 i hin (by omega) hw
        refine playWet_ok HN q0 q6 hin hw (fun s hs => by rw [ga]; exact hrow.1 s hs) (fun s hs => by rw [gr]; exact hrow.2 s hs) gp gg (fun O o1 o2 o3 o4 => ?_)
        rw [(show (i : Int) + -1 = (i : Int) - 1 by omega)]
        refine ih O (by omega) (fun h a b c d => (o4.1 h a b c d).trans (g1 h a b c d)) (fun k hk h4 hwk => ?_) (fun k hk h4 => ?_)
        · by_cases e : k + 1 = i
          · exact o3 k e
          · have := h2 k hk (by omega) hwk
            refine ⟨fun s hs => ?_, fun s hs => ?_⟩
            · rw [o4.2.2.1 _ (by omega), ga]; exact this.1 s hs
            · rw [o4.2.2.2 _ (by omega), gr]; exact this.2 s hs
        · by_cases e : k = i
          · subst e
            exact ⟨o1, o2⟩
          · have e2 : ¬ (k : Int) = i := fun z => e (Int.ofNat_inj.mp z)
            rw [(o4.2.1 k e2).1, (o4.2.1 k e2).2, (go k e2).1, (go k e2).2]
            exact h3 k hk (by omega)
  have := key (a + 1).toNat M (by omega) (fun _ _ _ _ _ => rfl) (fun k hk h1 hw => S.2.1 k hk (by omega) hw) (fun k hk h1 => S.2.2 k hk (by omega))
  rw [(show (((a + 1).toNat : Nat) : Int) - 1 = a by omega)] at this
  exact this
theorem begin_ok {Q : Mem → Prop} (hC : CB M B) (hR : RB B) (hW : WF B) (c0 : 0 ≤ c) (c6 : c < 6) (kk : ∀ N, TrB N B c (fun _ => 0) → FrT M N → N 1 16 = (nly B c : Int) - 1 → Q N) : w_Trial_begin M c Q := by
  obtain ⟨hn, hn6⟩ := nly_i hR c
  unfold w_Trial_begin
  refine ⟨by omega, ?_⟩
  (intro N1 eN1; subst eN1)
  refine ⟨⟨c0, c6⟩, ?_⟩
  (intro a ea _ _; have ea : a = M 21 c := ea)
  rw [c_layers hC, hn] at ea
  subst ea
  (intro N2 eN2; subst eN2)
  (intro N3 eN3; subst eN3)
  (intro N4 eN4; subst eN4)
  intro b eb _ _
  rw [ms_n (by decide), ms_n (by decide), ms_s] at eb
  subst eb
  (intro N5 eN5; subst eN5)
  have g1 : (mset (mset (mset (mset (mset M 1 9 c) 1 10 (nly B c)) 1 12 0) 1 13 0) 1 16 ((nly B c : Int) - 1)) 1 9 = c := by rw [ms_n (by decide), ms_n (by decide), ms_n (by decide), ms_n (by decide), ms_s]
  have g2 : (mset (mset (mset (mset (mset M 1 9 c) 1 10 (nly B c)) 1 12 0) 1 13 0) 1 16 ((nly B c : Int) - 1)) 1 10 = (nly B c : Nat) := by rw [ms_n (by decide), ms_n (by decide), ms_n (by decide), ms_s]
  have g3 : FrT M (mset (mset (mset (mset (mset M 1 9 c) 1 10 (nly B c)) 1 12 0) 1 13 0) 1 16 ((nly B c : Int) - 1)) := fun h a _ _ _ _ _ _ => by rw [mset_ne a, mset_ne a, mset_ne a, mset_ne a, mset_ne a]
  have g4 : (mset (mset (mset (mset (mset M 1 9 c) 1 10 (nly B c)) 1 12 0) 1 13 0) 1 16 ((nly B c : Int) - 1)) 1 16 = (nly B c : Int) - 1 := ms_s
  generalize (mset (mset (mset (mset (mset M 1 9 c) 1 10 (nly B c)) 1 12 0) 1 13 0) 1 16 ((nly B c : Int) - 1)) = N5 at g1 g2 g3 g4 ⊢
  unfold w_Trial_begin_L0
  intro X hX
  have key : ∀ (d i : Nat) (N : Mem), i + d = nly B c → (∀ h, h ≠ 13 → N h = N5 h) → (∀ k : Nat, k < i → N 13 k = 0) → X i N := by
    intro d
    induction d with
    | zero =>
      intro i N hi h1 h2
      have f : FrT M N := g3.trans (fun h _ b _ _ _ _ _ => h1 h b)
      apply hX
      unfold w_Trial_begin_B0
      (intro x ex _ _; have ex : x = N 1 10 := ex)
      rw [h1 _ (by decide), g2] at ex
      refine ⟨by omega, fun _ => kk N ⟨by rw [h1 _ (by decide)]; exact g1, by rw [h1 _ (by decide)]; exact g2, fun k hk => ⟨h2 k (by omega), Int.le_refl 0, ?_⟩, hC.ag f.ag, hR, hW, c0, c6⟩ f (by rw [h1 _ (by decide)]; exact g4), fun h => absurd h (by omega)⟩
      have := vals_rng hR hW c0 c6 hk
      show (0 : Int) < B 5 (c * 6 + k)
      omega
    | succ d ih =>
      intro i N hi h1 h2
      apply hX
      unfold w_Trial_begin_B0
      (intro x ex _ _; have ex : x = N 1 10 := ex)
      rw [h1 _ (by decide), g2] at ex
      refine ⟨by omega, fun h => absurd h (by omega), fun _ => ⟨by omega, ?_⟩⟩
      (intro N1 eN1; subst eN1)
      refine ih (i + 1) _ (by omega) (fun h hh => by rw [mset_ne hh]; exact h1 h hh) (fun k hk => ?_)
      by_cases e : k = i
      · subst e; rw [ms_s]
      · have e2 : ¬ (k : Int) = i := fun z => e (Int.ofNat_inj.mp z)
        rw [ms_n e2]; exact h2 k (by omega)
  exact key (nly B c) 0 N5 (by omega) (fun _ _ => rfl) (fun k hk => absurd hk (by omega))
end CRUN2

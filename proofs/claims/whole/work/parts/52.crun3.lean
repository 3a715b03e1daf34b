/-! ===== a trial's run begins ===== -/
section CRUN3
variable {M N O B : Mem} {c q : Int} {ch ch' : Nat → Int} {mo le : Int}
theorem mcpy_ne {hs hd h : Nat} {sp dp n : Int} (e : h ≠ hd) : mcpy M hs sp hd dp n h = M h := if_neg e
theorem mcpy_eq {hs hd : Nat} {sp dp n j : Int} (h1 : dp ≤ j) (h2 : j < dp + n) : mcpy M hs sp hd dp n hd j = M hs (sp + (j - dp)) := by
  unfold mcpy
  rw [if_pos rfl, if_pos ⟨h1, h2⟩]
theorem under_ok {Q : Mem → Prop} (H : TrB M B c ch) (q0 : 0 ≤ q) (q6 : q < 6) (mo0 : 0 ≤ mo ∧ mo ≤ 3000) (le0 : 0 ≤ le ∧ le ≤ 3000)
    (kk : ∀ N, TrU N B c q ch mo le → TrS N B c q ch mo le → FrT M N → Q N) : w_Trial_under M q mo le Q := by
  have hR := H.hR
  have hW := H.hW
  have c0 := H.c0
  have c6 := H.c6
  obtain ⟨hn, hn6⟩ := nly_i hR c
  obtain ⟨hb, hb30⟩ := beats_i hR q
  obtain ⟨hst, hst30, hr24⟩ := nst_i hR hW q
  unfold w_Trial_under
  refine ⟨⟨q0, q6⟩, ?_⟩
  (intro a ea _ _; have ea : a = M 28 q := ea)
  rw [c_beats H.hC] at ea
  (intro N1 eN1; subst eN1)
  intro b eb _ _
  rw [ms_s] at eb
  subst eb
  unfold w_Rules_after
  (intro d ed _ _; have ed : d = M 30 24 := ed)
  rw [c_rule H.hC] at ed
  refine ⟨by omega, ?_⟩
  (intro N2 eN2; subst eN2)
  refine ⟨mo0, ?_⟩
  (intro N3 eN3; subst eN3)
  refine ⟨le0, ?_⟩
  (intro N4 eN4; subst eN4)
  intro l el _ _
  rw [ms_n (by decide), ms_n (by decide), ms_n (by decide), ms_n (by decide), H.lay] at el
  subst el
  (intro N5 eN5; subst eN5)
  have g1 : ∀ k : Int, k ≠ 12 → k ≠ 13 → k ≠ 14 → k ≠ 15 → k ≠ 16 → (mset (mset (mset (mset (mset M 1 12 b) 1 13 (b + d)) 1 14 mo) 1 15 le) 1 16 ((nly B c : Int) - 1)) 1 k = M 1 k := fun k e1 e2 e3 e4 e5 => by rw [ms_n e5, ms_n e4, ms_n e3, ms_n e2, ms_n e1]
  have g2 : (mset (mset (mset (mset (mset M 1 12 b) 1 13 (b + d)) 1 14 mo) 1 15 le) 1 16 ((nly B c : Int) - 1)) 1 12 = B 8 q := by rw [ms_n (by decide), ms_n (by decide), ms_n (by decide), ms_n (by decide), ms_s]; exact ea
  have g3 : (mset (mset (mset (mset (mset M 1 12 b) 1 13 (b + d)) 1 14 mo) 1 15 le) 1 16 ((nly B c : Int) - 1)) 1 13 = (nst B q : Nat) := by rw [ms_n (by decide), ms_n (by decide), ms_n (by decide), ms_s]; omega
  have g4 : (mset (mset (mset (mset (mset M 1 12 b) 1 13 (b + d)) 1 14 mo) 1 15 le) 1 16 ((nly B c : Int) - 1)) 1 14 = mo := by rw [ms_n (by decide), ms_n (by decide), ms_s]
  have g5 : (mset (mset (mset (mset (mset M 1 12 b) 1 13 (b + d)) 1 14 mo) 1 15 le) 1 16 ((nly B c : Int) - 1)) 1 15 = le := by rw [ms_n (by decide), ms_s]
  have g6 : (mset (mset (mset (mset (mset M 1 12 b) 1 13 (b + d)) 1 14 mo) 1 15 le) 1 16 ((nly B c : Int) - 1)) 1 16 = (nly B c : Int) - 1 := ms_s
  have g7 : ∀ h, h ≠ 1 → (mset (mset (mset (mset (mset M 1 12 b) 1 13 (b + d)) 1 14 mo) 1 15 le) 1 16 ((nly B c : Int) - 1)) h = M h := fun h a => by rw [mset_ne a, mset_ne a, mset_ne a, mset_ne a, mset_ne a]
  generalize (mset (mset (mset (mset (mset M 1 12 b) 1 13 (b + d)) 1 14 mo) 1 15 le) 1 16 ((nly B c : Int) - 1)) = N5 at g1 g2 g3 g4 g5 g6 g7 ⊢
  -- whatever keeps these behind it
  have mk : ∀ N : Mem, (∀ k : Int, k ≠ 11 → N 1 k = N5 1 k) → (∀ h, h ≠ 1 → h ≠ 16 → h ≠ 17 → h ≠ 18 → N h = M h) → (∀ k : Nat, k < nly B c → N 16 k = hld B c k) → (∀ k : Nat, k < nly B c → (N 1 11 ≤ k ↔ wet B c k)) → (∀ k : Nat, k + 1 = nly B c → (∀ s : Nat, (s : Int) < B 8 q → N 17 (k * 30 + s) = B 9 (q * 30 + s)) ∧ ∀ s : Nat, s < nst B q → N 18 (k * 60 + s) = 0) → Q N := by
    intro N e1 e2 e3 e4 e5
    have f : FrT M N := fun h a1 a2 a3 a4 a5 a6 a7 => e2 h a1 a5 a6 a7
    have est : N 1 16 = (nly B c : Int) - 1 := by rw [e1 _ (by decide)]; exact g6
    refine kk N ⟨⟨?_, ?_, ?_, H.hC.ag f.ag, H.2.2.2.2⟩, ?_, ?_, ?_, ?_, e3, e4, mo0, le0⟩ ⟨by omega, fun k hk h1 hw => ?_, fun k hk h1 => absurd h1 (by omega)⟩ f
    · rw [e1 _ (by decide), g1 _ (by decide) (by decide) (by decide) (by decide) (by decide)]; exact H.col
    · rw [e1 _ (by decide), g1 _ (by decide) (by decide) (by decide) (by decide) (by decide)]; exact H.lay
    · rw [e2 _ (by decide) (by decide) (by decide) (by decide)]; exact H.cho
    · rw [e1 _ (by decide)]; exact g2
    · rw [e1 _ (by decide)]; exact g3
    · rw [e1 _ (by decide)]; exact g4
    · rw [e1 _ (by decide)]; exact g5
    · have hk1 : k + 1 = nly B c := by omega
      refine ⟨fun s hs => ?_, fun s hs => ?_⟩
      · rw [(e5 k hk1).1 s hs]
        unfold arr
        rw [(show nly B c - 1 - k = 0 by omega)]
        rfl
      · rw [(e5 k hk1).2 s hs, if_neg (by omega)]
  intro l2 el2 _ _
  rw [g1 _ (by decide) (by decide) (by decide) (by decide) (by decide), H.lay] at el2
  subst el2
  refine ⟨fun h0 => ?_, fun h0 => mk N5 (fun _ _ => rfl) (fun h a _ _ _ => g7 h a) (fun k hk => absurd hk (by omega)) (fun k hk => absurd hk (by omega)) (fun k hk => absurd hk (by omega))⟩
  (intro N6 eN6; subst eN6)
  unfold w_Trial_under_L0
  intro X hX
  have key : ∀ (e i : Nat) (N : Mem), i + e = nly B c → (∀ k : Int, k ≠ 11 → N 1 k = N5 1 k) → (∀ h, h ≠ 1 → h ≠ 16 → N h = M h) → (∀ k : Nat, k < i → N 16 k = hld B c k) → (0 ≤ N 1 11 ∧ N 1 11 ≤ i) → (∀ k : Nat, k < i → (N 1 11 ≤ k ↔ wet B c k)) → X i N := by
    intro e
    induction e with
    | zero =>
      intro i N hi e1 e2 e3 e4 e5
      apply hX
      unfold w_Trial_under_B0
      (intro x ex _ _; have ex : x = N 1 10 := ex)
      rw [e1 _ (by decide), g1 _ (by decide) (by decide) (by decide) (by decide) (by decide), H.lay] at ex
      refine ⟨by omega, fun _ => ?_, fun h => absurd h (by omega)⟩
      (intro y ey _ _; have ey : y = N 1 10 := ey)
      rw [e1 _ (by decide), g1 _ (by decide) (by decide) (by decide) (by decide) (by decide), H.lay] at ey
      (intro z ez _ _; have ez : z = N 1 12 := ez)
      rw [e1 _ (by decide), g2] at ez
      refine ⟨⟨by omega, by omega, by omega, by omega, by omega⟩, ?_⟩
      (intro N7 eN7; subst eN7)
      have m1 : ∀ h, h ≠ 17 → (mcpy N 29 (q * 30) 17 ((y - 1) * 30) z) h = N h := fun h a => mcpy_ne a
      have m2 : ∀ (k s : Nat), k + 1 = nly B c → (s : Int) < B 8 q → (mcpy N 29 (q * 30) 17 ((y - 1) * 30) z) 17 (k * 30 + s) = B 9 (q * 30 + s) := by
        intro k s hk hs
        rw [mcpy_eq (by omega) (by omega), e2 _ (by decide) (by decide), c_strength H.hC, (show q * 30 + ((k : Int) * 30 + s - (y - 1) * 30) = q * 30 + s by omega)]
      generalize (mcpy N 29 (q * 30) 17 ((y - 1) * 30) z) = N7 at m1 m2 ⊢
      unfold w_Trial_under_L1
      intro Y hY
      have key2 : ∀ (e t : Nat) (O : Mem), t + e = nst B q → (∀ h, h ≠ 18 → O h = N7 h) → (∀ s : Nat, s < t → O 18 (((nly B c : Int) - 1) * 60 + s) = 0) → Y t O := by
        intro e
        induction e with
        | zero =>
          intro t O ht o1 o2
          apply hY
          unfold w_Trial_under_B1
          (intro u eu _ _; have eu : u = O 1 13 := eu)
          rw [o1 _ (by decide), m1 _ (by decide), e1 _ (by decide), g3] at eu
          refine ⟨by omega, fun _ => ?_, fun h => absurd h (by omega)⟩
          refine mk O (fun k hk => by rw [o1 _ (by decide), m1 _ (by decide)]; exact e1 k hk) (fun h a1 a2 a3 a4 => by rw [o1 _ a4, m1 _ a3]; exact e2 h a1 a2) (fun k hk => by rw [o1 _ (by decide), m1 _ (by decide)]; exact e3 k (by omega)) (fun k hk => by rw [o1 _ (by decide), m1 _ (by decide)]; exact e5 k (by omega)) (fun k hk => ⟨fun s hs => by rw [o1 _ (by decide)]; exact m2 k s hk hs, fun s hs => ?_⟩)
          have := o2 s (by omega)
          rw [(show ((nly B c : Int) - 1) * 60 + s = (k : Int) * 60 + s by omega)] at this
          exact this
        | succ e ih =>
          intro t O ht o1 o2
          apply hY
          unfold w_Trial_under_B1
          (intro u eu _ _; have eu : u = O 1 13 := eu)
          rw [o1 _ (by decide), m1 _ (by decide), e1 _ (by decide), g3] at eu
          refine ⟨by omega, fun h => absurd h (by omega), fun _ => ?_⟩
          (intro v ev _ _; have ev : v = O 1 10 := ev)
          rw [o1 _ (by decide), m1 _ (by decide), e1 _ (by decide), g1 _ (by decide) (by decide) (by decide) (by decide) (by decide), H.lay] at ev
          refine ⟨by omega, ?_⟩
          (intro O1 eO1; subst eO1)
          refine ih (t + 1) _ (by omega) (fun h hh => by rw [mset_ne hh]; exact o1 h hh) (fun s hs => ?_)
          by_cases es : s = t
          · rw [es, ev, ms_s]
          · rw [ms_n (by omega)]
            exact o2 s (by omega)
      exact key2 (nst B q) 0 N7 (by omega) (fun _ _ => rfl) (fun s hs => absurd hs (by omega))
    | succ e ih =>
      intro i N hi e1 e2 e3 e4 e5
      have hC : CB N B := H.hC.ag (FrT.ag (M := M) (fun h a1 a2 a3 a4 a5 a6 a7 => e2 h a1 a5))
      have hh := hld_rng hR c i (by omega)
      apply hX
      unfold w_Trial_under_B0
      (intro x ex _ _; have ex : x = N 1 10 := ex)
      rw [e1 _ (by decide), g1 _ (by decide) (by decide) (by decide) (by decide) (by decide), H.lay] at ex
      refine ⟨by omega, fun h => absurd h (by omega), fun _ => ?_⟩
      (intro y ey _ _; have ey : y = N 1 9 := ey)
      rw [e1 _ (by decide), g1 _ (by decide) (by decide) (by decide) (by decide) (by decide), H.col] at ey
      subst ey
      refine holdOf_ok hC hR c0 c6 i (by omega) ⟨by omega, ?_⟩
      (intro N7 eN7; subst eN7)
      have hC7 : CB (mset N 16 i (hld B y i)) B := hC.ag (FrT.ag (fun h a1 a2 a3 a4 a5 a6 a7 => mset_ne a5))
      intro z ez _ _
      rw [mset_ne (by decide), e1 _ (by decide), g1 _ (by decide) (by decide) (by decide) (by decide) (by decide), H.col] at ez
      subst ez
      have hold' : ∀ k : Nat, k < i + 1 → (mset N 16 i (hld B z i)) 16 k = hld B z k := by
        intro k hk
        by_cases e : k = i
        · subst e; rw [ms_s]
        · have e2 : ¬ (k : Int) = i := fun z => e (Int.ofNat_inj.mp z)
          rw [ms_n e2]; exact e3 k (by omega)
      refine isWet_ok hC7 hR c0 c6 i (by omega) (fun hw => ?_) (fun hw => ?_)
      · (first | refine t1n ?_ | refine t1e ?_)
        refine ih (i + 1) _ (by omega) (fun k hk => by rw [mset_ne (by decide)]; exact e1 k hk) (fun h a1 a2 => by rw [mset_ne a2]; exact e2 h a1 a2) hold' (by rw [mset_ne (by decide)]; omega) (fun k hk => ?_)
        rw [mset_ne (by decide)]
        by_cases e : k = i
        · subst e
          exact ⟨fun _ => hw, fun _ => by omega⟩
        · exact e5 k (by omega)
      · (first | refine t0n ?_ | refine t0e ?_)
        refine ⟨by omega, ?_⟩
        (intro N8 eN8; subst eN8)
        refine ih (i + 1) _ (by omega) (fun k hk => by rw [ms_n hk, mset_ne (by decide)]; exact e1 k hk) (fun h a1 a2 => by rw [mset_ne a1, mset_ne a2]; exact e2 h a1 a2) (fun k hk => by rw [mset_ne (by decide)]; exact hold' k hk) (by rw [ms_s]; omega) (fun k hk => ?_)
        rw [ms_s]
        exact ⟨fun h => absurd h (by omega), fun h => absurd (wet_le hR h (show k ≤ i by omega)) hw⟩
  refine key (nly B c) 0 (mset N5 1 11 0) (by omega) (fun k hk => ms_n hk) (fun h a b => by rw [mset_ne a]; exact g7 h a) (fun k hk => absurd hk (by omega)) (by rw [ms_s]; omega) (fun k hk => absurd hk (by omega))
theorem runFirst_ok {Q : Mem → Prop} (hC : CB M B) (hR : RB B) (hW : WF B) (c0 : 0 ≤ c) (c6 : c < 6) (q0 : 0 ≤ q) (q6 : q < 6)
    (kk : ∀ N, TrU N B c q (fun _ => 0) 0 0 → PC N (fin B c q (fun _ => 0) 0 0) (nly B c) → FrT M N → Q N) : w_Trial_runFirst M c q Q := by
  unfold w_Trial_runFirst
  refine begin_ok hC hR hW c0 c6 (fun N h1 h2 _ => ?_)
  refine under_ok h1 q0 q6 (by omega) (by omega) (fun N2 h3 h4 h5 => ?_)
  exact play_ok h3 h4 q0 q6 (fun N3 h6 _ h7 h8 => kk N3 h6 h7 ((h2.trans h5).trans h8))
end CRUN3

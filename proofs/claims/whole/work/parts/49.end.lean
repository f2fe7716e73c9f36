theorem jK.bq {S : Nat} {c m : bp_M} (h : jK S c m) : ∃ k, bQ k c m := by
  obtain ⟨-, -, hT, ⟨k, h4, h1, h2, -, hQ⟩, -⟩ := h
  exact ⟨k, h4, h1, h2, hQ, hT⟩
abbrev ec (c : bp_M) : bp_M := bp_sI (bp_sI (bp_sI (bp_sI (bp_sI (bp_sI (bp_sI (bp_sI c 4 1 0) 2 0 0) 2 3 0) 1 1 0) 1 2 0) 1 3 0) 1 4 0) 1 5 0
abbrev em (m : bp_M) : bp_M := bp_sI (bp_sI (bp_sI (bp_sI (bp_sI (bp_sI m 0 34 0) 0 13 0) 0 16 0) 0 5 0) 0 4 0) 0 6 0
theorem e_tail (N : Nat) (hN : 4000 ≤ N) (x : Int32) {S : Nat} (hS : S ≤ 1000000000) {c m : bp_M} (hf : c.1 0 5 = m.1 0 8) (hK : jK S c m) : ∃ r c1 m1, bc_BP_end_L31 N x c = some (r, c1) ∧ bm_M_end_L25 N x m = some (r, m1) ∧ jA (S + 4) c1 m1 := by
  obtain ⟨k1, k2, k3, k4, k5, k6, k7, k8⟩ := id hK
  by_cases h0 : c.1 0 5 = 0
  · obtain ⟨h, H⟩ := hK.bq
    obtain ⟨c1, m1, q1, q2, q3, q4, ⟨f1, f2, f3⟩, ⟨g1, g2, g3⟩⟩ := b_all N hN hS H k5
    have m0 : m.1 0 8 = 0 := hf.symm.trans h0
    obtain ⟨n, hn, s1, s2, s3, s4⟩ := q4
    have C0 : ∀ y, (ec c1).1 0 y = c.1 0 y := fun y => by simp only [bp_s1o _ _ _ _ (show (0 : Nat) ≠ 1 by decide), bp_s1o _ _ _ _ (show (0 : Nat) ≠ 2 by decide), bp_s1o _ _ _ _ (show (0 : Nat) ≠ 4 by decide)]; exact f3 0 (by decide) (by decide) (by decide) (by omega) y
    have Cx : ∀ z, z ≠ 1 → z ≠ 2 → z ≠ 4 → ∀ y, (ec c1).1 z y = c1.1 z y := fun z a1 a2 a4 y => by simp only [bp_s1o _ _ _ _ a1, bp_s1o _ _ _ _ a2, bp_s1o _ _ _ _ a4]
    have Cy : ∀ z, z ≠ 1 → z ≠ 2 → z ≠ 4 → z ≠ 20 → z ≠ 21 → ¬ (11 ≤ z ∧ z < 15) → ∀ y, (ec c1).1 z y = c.1 z y := fun z a1 a2 a4 a5 a6 a7 y => by rw [Cx z a1 a2 a4]; exact f3 z a4 a5 a6 a7 y
    have C45 : (ec c1).1 4 5 = Int32.ofNat n := by simp only [bp_s1o _ _ _ _ (show (4 : Nat) ≠ 1 by decide), bp_s1o _ _ _ _ (show (4 : Nat) ≠ 2 by decide)]; rw [bp_s1k _ _ _ _ (by decide)]; exact s1
    have C2 : ∀ y, y ≠ 0 → y ≠ 3 → (ec c1).1 2 y = c.1 2 y := fun y a b => by simp only [bp_s1o _ _ _ _ (show (2 : Nat) ≠ 1 by decide)]; rw [bp_s1k _ _ _ _ b, bp_s1k _ _ _ _ a, bp_s1o _ _ _ _ (by decide)]; exact f3 2 (by decide) (by decide) (by decide) (by omega) y
    have C20 : (ec c1).1 2 0 = 0 := by simp [bp_s1]
    have C23 : (ec c1).1 2 3 = 0 := by simp [bp_s1]
    have Mx : ∀ z, z ≠ 0 → ∀ y, (em m1).1 z y = m1.1 z y := fun z a y => by simp only [bp_s1o _ _ _ _ a]
    have M0 : ∀ y, y ≠ 34 → y ≠ 13 → y ≠ 16 → y ≠ 5 → y ≠ 4 → y ≠ 6 → (em m1).1 0 y = m1.1 0 y := fun y a1 a2 a3 a4 a5 a6 => by simp only [bp_s1k _ _ _ _ a1, bp_s1k _ _ _ _ a2, bp_s1k _ _ _ _ a3, bp_s1k _ _ _ _ a4, bp_s1k _ _ _ _ a5, bp_s1k _ _ _ _ a6]
    have Mz : ∀ y, y = 34 ∨ y = 13 ∨ y = 16 ∨ y = 5 ∨ y = 4 ∨ y = 6 → (em m1).1 0 y = 0 := fun y hy => by rcases hy with rfl | rfl | rfl | rfl | rfl | rfl <;> simp [bp_s1]
    have My : ∀ y, y ≠ 34 → y ≠ 13 → y ≠ 16 → y ≠ 5 → y ≠ 4 → y ≠ 6 → y ≠ 39 → (em m1).1 0 y = m.1 0 y := fun y a1 a2 a3 a4 a5 a6 a7 => by rw [M0 y a1 a2 a3 a4 a5 a6]; exact g2 y a7
    refine ⟨Int32.ofNat n - x, ec c1, em m1, ?_, ?_, ?_⟩
    · have e1 : bc_UI_clear N (bp_sI (bp_sI (bp_sI c1 4 1 0) 2 0 0) 2 3 0) = some (ec c1) := by simp only [bc_UI_clear, bp_nM, bp_g, true_or, if_true]
      have e2 : bc_PA_clear N (bp_sI c1 4 1 0) = some (bp_sI (bp_sI (bp_sI c1 4 1 0) 2 0 0) 2 3 0) := by simp only [bc_PA_clear, bp_nM, bp_g, true_or, if_true]
      simp only [bc_BP_end_L31, h0, not_true, if_false, q1, bp_cV, e2, e1, bc_BP_end_L59, C45]
    · have e3 : (em m1).1 0 39 = Int32.ofNat n := by rw [M0 39 (by decide) (by decide) (by decide) (by decide) (by decide) (by decide)]; exact s2
      simp only [bm_M_end_L25, m0, not_true, if_false, q2, bp_cV, bp_g, true_or, if_true, bp_nM, bm_M_end_L61, e3]
    · obtain ⟨p1, p2, p3, p4, p5, p6, p7, p8, p9, p10, p11⟩ := k2
      refine ⟨?_, ?_, ?_, ?_, ?_, ⟨0, by omega, ?_, Mz 34 (by omega), fun h => absurd h (by omega), fun k hk => absurd hk (by omega)⟩, ⟨n, hn, C45, ?_, fun j a b => ?_, fun a i hi => ?_⟩, ?_, ?_, ?_⟩
      · rw [C0, My 8 (by decide) (by decide) (by decide) (by decide) (by decide) (by decide) (by decide)]; exact hf
      · intro _
        have z1 : (ec c1).1 1 1 = 0 := by simp [bp_s1]
        have z3 : (ec c1).1 1 3 = 0 := by simp [bp_s1]
        have z4 : (ec c1).1 1 4 = 0 := by simp [bp_s1]
        have z5 : (ec c1).1 1 5 = 0 := by simp [bp_s1]
        rw [z1, z3, z4, z5, Mz 4 (by omega), Mz 5 (by omega), Mz 6 (by omega)]
        exact ⟨rfl, rfl, Or.inl rfl, rfl, 0, by omega, rfl, rfl, fun _ => rfl, fun h => absurd h (by decide), fun i hi => absurd hi (by omega)⟩
      · rw [C0, My 9 (by decide) (by decide) (by decide) (by decide) (by decide) (by decide) (by decide)]; exact k1
      · refine ⟨?_, ?_, ?_, ?_, ?_, ?_, ?_, ?_, ?_, ?_, ?_⟩
        · rw [C20, Mz 13 (by omega)]
        · rw [C2 1 (by decide) (by decide), My 14 (by decide) (by decide) (by decide) (by decide) (by decide) (by decide) (by decide)]; exact p2
        · rw [C2 2 (by decide) (by decide), My 15 (by decide) (by decide) (by decide) (by decide) (by decide) (by decide) (by decide)]; exact p3
        · rw [C23, Mz 16 (by omega)]
        · rw [C2 4 (by decide) (by decide), My 17 (by decide) (by decide) (by decide) (by decide) (by decide) (by decide) (by decide)]; exact p5
        · rw [C2 5 (by decide) (by decide), My 18 (by decide) (by decide) (by decide) (by decide) (by decide) (by decide) (by decide)]; exact p6
        · rw [C20]; exact Or.inl rfl
        · rw [C23]; exact Or.inl rfl
        · rw [C20]; exact fun h => absurd h (by decide)
        · rw [C23]; exact fun h => absurd h (by decide)
        · rw [C2 5 (by decide) (by decide)]; exact p11
      · exact jT_of k3 (fun _ => by rw [show (ec c1).2 = c1.2 from rfl, f1]) (fun _ => by rw [show (ec c1).2 = c1.2 from rfl, f1])
      · simp only [bp_s1o _ _ _ _ (show (4 : Nat) ≠ 1 by decide), bp_s1o _ _ _ _ (show (4 : Nat) ≠ 2 by decide)]; rw [bp_s1e]; rfl
      · rw [M0 39 (by decide) (by decide) (by decide) (by decide) (by decide) (by decide)]; exact s2
      · rw [Cx 21 (by decide) (by decide) (by decide), Mx 17 (by decide)]; exact s3 j a b
      · rw [Cx 20 (by decide) (by decide) (by decide), Mx 18 (by decide)]; exact s4 a i hi
      · refine jL_of k6 (fun _ => by rw [show (ec c1).2 = c1.2 from rfl, f1]) (fun o ho y => Cy o (by omega) (by omega) (by omega) (by omega) (by omega) (by omega) y) (My 32 (by decide) (by decide) (by decide) (by decide) (by decide) (by decide) (by decide)) (My 33 (by decide) (by decide) (by decide) (by decide) (by decide) (by decide) (by decide)) (fun y => ?_)
        rw [Mx 12 (by decide)]; exact g3 12 (by decide) (by decide) (by decide) (by decide) y
      · refine jW_of k7 ?_ ?_ ?_ ?_ ?_ ?_
        · exact Cy 5 (by decide) (by decide) (by decide) (by decide) (by decide) (by omega) 2
        · exact fun y => Cy 22 (by decide) (by decide) (by decide) (by decide) (by decide) (by omega) y
        · exact fun y => Cy 23 (by decide) (by decide) (by decide) (by decide) (by decide) (by omega) y
        · exact My 44 (by decide) (by decide) (by decide) (by decide) (by decide) (by decide) (by decide)
        · exact fun y => by rw [Mx 19 (by decide)]; exact g3 19 (by decide) (by decide) (by decide) (by decide) y
        · exact fun y => by rw [Mx 20 (by decide)]; exact g3 20 (by decide) (by decide) (by decide) (by decide) y
      · exact jC_of k8 (fun o ho y => by rw [Mx o (by omega)]; exact g3 o (by omega) (by omega) (by omega) (by omega) y)
  · have m0 : ¬ m.1 0 8 = 0 := by rw [← hf]; exact h0
    obtain ⟨n, -, s1, s2, -⟩ := k5
    exact ⟨Int32.ofNat n - x, c, m, by simp only [bc_BP_end_L31, h0, not_false_iff, if_true, bc_BP_end_L59, s1], by simp only [bm_M_end_L25, m0, not_false_iff, if_true, bm_M_end_L61, s2], hf, fun h => absurd h h0, hK.up (by omega)⟩
theorem k_end (N : Nat) (hN : 4000 ≤ N) (hW : lw_Work N) : lk_end N bp_J := by
  intro k c m hk hJ
  obtain ⟨hf, hI, hK⟩ := jA_of hJ
  by_cases h0 : c.1 0 5 = 0
  · have m0 : m.1 0 8 = 0 := hf.symm.trans h0
    obtain ⟨i1, i2, i3, i4, n, n1, n2, n3, n4, n5, n6⟩ := hI h0
    obtain ⟨s, hs, s1, s2, -⟩ := hK.2.2.2.2.1
    rcases i3 with hin | hin
    · have mi : m.1 0 5 = 0 := i2.symm.trans hin
      obtain ⟨r, c1, m1, q1, q2, q3⟩ := e_tail N hN (Int32.ofNat s) (show 4000 * k ≤ 1000000000 by omega) hf hK
      refine ⟨r, c1, m1, ?_, ?_, jA_to q3 (by omega)⟩
      · simp only [bc_BP_end, h0, if_true, bp_nI, bc_UI_close, hin, bc_UI_close_L19, bc_UI_close_L20, bp_g, true_or, bp_cI, s1]
        exact q1
      · simp only [bm_M_end, m0, if_true, bp_nI, mi, s2]
        exact q2
    · have mi : m.1 0 5 = 1 := i2.symm.trans hin
      have ez : Int32.ofNat n - 0 = Int32.ofNat n := Int32.sub_zero _
      have F : iF c (bp_sI (bp_sI c 1 2 (Int32.ofNat n)) 1 1 0) := ((iF.rf c).s _ (by omega)).s _ (by omega)
      have e12 : (bp_sI (bp_sI c 1 2 (Int32.ofNat n)) 1 1 0).1 1 2 = Int32.ofNat n := by simp [bp_s1]
      by_cases hn : n = 0
      · subst hn
        have e13 : (Int32.ofNat 0 ≤ 0) := by decide
        obtain ⟨r, c1, m1, q1, q2, q3⟩ := e_tail N hN (Int32.ofNat s) (show 4000 * k ≤ 1000000000 by omega) (c := bp_sI (bp_sI c 1 2 (Int32.ofNat 0)) 1 1 0) (m := m) (by rw [bp_s1o _ _ _ _ (by decide), bp_s1o _ _ _ _ (by decide)]; exact hf) (jK_in hK F (iG.rf m))
        refine ⟨r, c1, m1, ?_, ?_, jA_to q3 (by omega)⟩
        · have e14 : bc_UI_close N c = some (0, bp_sI (bp_sI c 1 2 (Int32.ofNat 0)) 1 1 0) := by
            simp only [bc_UI_close, hin, if_neg bp_10, bc_UI_endUnit, bp_nM, n2, ez, e12, if_pos e13, bc_UI_endUnit_L27, bp_g, true_or, if_true, bp_cI, bc_UI_close_L19, bc_UI_close_L20]
          simp only [bc_BP_end, h0, if_true, bp_nI, e14, bp_cI, s1]
          exact q1
        · have e15 : bm_M_finish N m = some m := by simp only [bm_M_finish, n3, if_pos e13, bm_M_finish_L21]
          simp only [bm_M_end, m0, if_true, bp_nI, mi, if_neg bp_10, s2, e15, bp_cV]
          exact q2
      · have e13 := bp_nl0 (show n < 2147483648 by omega) hn
        have G : iG m (bp_sI m 0 7 (m.1 0 7 + 1)) := (iG.rf m).s _ (by omega)
        obtain ⟨c1, m1, q1, q2, q3, q4, q5, q6, q7⟩ := hW (4000 * k) n (bp_sI (bp_sI c 1 2 (Int32.ofNat n)) 1 1 0) (bp_sI m 0 7 (m.1 0 7 + 1)) (by omega) (by omega) n1 e12 (by rw [bp_s1k _ _ _ _ (by decide)]; exact n3) (fun i hi => by
          have := n6 i hi
          simpa [bp_s1] using this) (jK_in hK F G)
        obtain ⟨r, c2, m2, p1, p2, p3⟩ := e_tail N hN (Int32.ofNat s) (show 4000 * k + 10 ≤ 1000000000 by omega) q3 q4
        refine ⟨r, c2, m2, ?_, ?_, jA_to p3 (by omega)⟩
        · have e14 : bc_UI_close N c = some (1, bp_sI (bp_sI c 1 2 (Int32.ofNat n)) 1 1 0) := by
            simp only [bc_UI_close, hin, if_neg bp_10, bc_UI_endUnit, bp_nM, n2, ez, e12, if_neg e13, bc_UI_endUnit_L27, bp_g, or_true, if_true, bp_cI, bc_UI_close_L20]
          simp only [bc_BP_end, h0, if_true, bp_nI, e14, bp_cI, if_neg bp_10, q1, bp_cV, s1]
          exact p1
        · have e15 : bm_M_finish N m = some m1 := by simp only [bm_M_finish, n3, if_neg e13, bp_nM, q2, bp_cV, bm_M_finish_L21]
          simp only [bm_M_end, m0, if_true, bp_nI, mi, if_neg bp_10, s2, e15, bp_cV]
          exact p2
  · have m0 : ¬ m.1 0 8 = 0 := by rw [← hf]; exact h0
    exact ⟨0, c, m, by simp only [bc_BP_end, if_neg h0], by simp only [bm_M_end, if_neg m0], bp_up k c m hJ⟩
/-- the start -/
theorem k_zero (N : Nat) (hN : 4000 ≤ N) : ∃ m1, bm_M_clearLatest N im_0 = some m1 ∧ bp_J 0 lw_c0 m1 := by
  obtain ⟨m1, q1, q2, q3, q4, q5, q6, q7, -⟩ := m_clear N N 0 im_0 (by omega) (by omega)
  have z : ∀ y, y ≠ 32 → y ≠ 33 → m1.1 0 y = 0 := fun y a b => by rw [q4 y a b]; rfl
  refine ⟨m1, q1, ?_, ?_, fun _ => ⟨rfl, ?_, Or.inl rfl, ?_, 0, by omega, rfl, ?_, fun _ => rfl, fun h => absurd h (by decide), fun i hi => absurd hi (by omega)⟩, ⟨?_, ?_, ?_, ?_, ?_, ?_, Or.inl rfl, Or.inl rfl, fun h => absurd h (by decide), fun h => absurd h (by decide), ⟨0, by omega, by omega, rfl⟩⟩, ⟨?_, ?_, ?_⟩, ⟨0, by omega, rfl, ?_, fun h => absurd h (by omega), fun k hk => absurd hk (by omega)⟩, ⟨0, by omega, rfl, ?_, fun j _ h => absurd h (by omega), fun h => absurd h (by omega)⟩, ⟨⟨by decide, by decide⟩, ⟨by decide, by decide⟩, by decide, ?_, fun n hn => ?_⟩, ⟨fun i hi => ⟨?_, 0, by omega, by omega, rfl⟩, 0, by omega, rfl, ?_, fun i hi => absurd hi (by omega)⟩, fun j hj => ⟨?_, ?_, ?_⟩⟩
  all_goals first
    | exact (z _ (by decide) (by decide)).symm
    | exact z _ (by decide) (by decide)
    | skip
  · intro k hk
    show 11 ≤ k + 11 ∧ k + 11 < 15
    omega
  · intro i hi j hj h
    have h2 : i + 11 = j + 11 := h
    omega
  · intro k hk
    show isPI 10
    exact ⟨by decide, by decide⟩
  · rw [if_pos q6]; rfl
  · rw [q7 n (by omega) hn]; rfl
  · rw [q3 19 (by decide) (by decide)]; rfl
  · rw [q3 1 (by decide) (by decide)]
  · rw [q3 2 (by decide) (by decide)]
  · rw [q3 3 (by decide) (by decide)]

theorem bp_div {a b : Nat} (ha : a < 2147483648) (hb : b < 2147483648) : Int32.ofNat a / Int32.ofNat b = Int32.ofNat (a / b) := by
  have h2 : a / b ≤ a := Nat.div_le_self a b
  apply Int32.toInt_inj.mp
  rw [Int32.toInt_div, bp_toInt ha, bp_toInt hb, bp_toInt (by omega), ← Int.ofNat_tdiv]
  generalize a / b = q at h2
  apply Int.bmod_eq_of_le <;> omega
theorem bp_rem {a b : Nat} (ha : a < 2147483648) (hb : b < 2147483648) : Int32.ofNat a - Int32.ofNat a / Int32.ofNat b * Int32.ofNat b = Int32.ofNat (a % b) := by
  have h1 : a / b * b ≤ a := Nat.div_mul_le_self a b
  rw [bp_div ha hb, bp_mul, bp_sub h1]
  congr 1
  have h2 := Nat.div_add_mod a b
  rw [Nat.mul_comm] at h2
  omega
theorem k_order (N : Nat) : lk_order N bp_J := by
  intro k c m a hk hJ
  obtain ⟨-, -, -, -, -, -, ⟨n, hn, h1, h2, h3, -⟩, -⟩ := id hJ
  have hn2 : n < 2147483648 := by omega
  have hu := bp_up k c m hJ
  have hw := fun (x : Int32) => m_win N x 8 (by omega) 7 rfl m
  rcases bp_tri a 8 (by omega) with ha | ⟨ha, hb, i, hi, he, hin, ht⟩ | ⟨ha, hb, -⟩
  · exact ⟨-1, c, m, by simp only [bc_BP_order, bc_PB_shownOrder, bc_PB_shownOrder_L18, if_pos ha, bp_cI], by simp only [bm_M_order, bm_M_order_L27, bm_M_order_L28, hw, if_pos ha, bp_cI, if_true], hu⟩
  · have hb' : ¬ (8 : Int32) ≤ a := fun e => by
      rw [Int32.le_iff_toInt_le] at e
      rw [Int32.lt_iff_toInt_lt] at hb
      exact absurd hb (Int.not_lt.mpr e)
    by_cases hin2 : i < n
    · have e1 : a < Int32.ofNat n := by rw [he]; exact (bp_lt (by omega) hn2).mpr hin2
      have e2 : ¬ Int32.ofNat n ≤ a := by rw [he]; exact fun e => by have := (bp_le hn2 (by omega)).mp e; omega
      have e3 : ((Int32.ofNat n - 1 - a) - (Int32.ofNat n - 1 - a) / 8 * 8) = Int32.ofNat ((n - 1 - i) % 8) := by
        rw [he, show (1 : Int32) = Int32.ofNat 1 from rfl, bp_sub (by omega), bp_sub (by omega)]
        exact bp_rem (b := 8) (by omega) (by omega)
      have h8 : (n - 1 - i) % 8 < 8 := Nat.mod_lt _ (by omega)
      have e4 : vp_in (Int32.ofNat ((n - 1 - i) % 8)) 8 := bp_in (by omega) h8
      exact ⟨m.1 17 i, c, m, by simp only [bc_BP_order, bc_PB_shownOrder, if_neg ha, if_neg hb', h1, if_pos e1, e3, bp_git e4, bp_tn (show (n - 1 - i) % 8 < 2147483648 by omega), bp_cI, h3 i hi hin2], by simp only [bm_M_order, bm_M_order_L28, hw, if_neg ha, if_pos hb, bp_cI, if_neg bp_10, h2, if_neg e2, bp_git hin, ht], hu⟩
    · have e1 : ¬ a < Int32.ofNat n := by rw [he]; exact fun e => hin2 ((bp_lt (by omega) hn2).mp e)
      have e2 : Int32.ofNat n ≤ a := by rw [he]; exact (bp_le hn2 (by omega)).mpr (by omega)
      exact ⟨-1, c, m, by simp only [bc_BP_order, bc_PB_shownOrder, bc_PB_shownOrder_L18, if_neg ha, if_neg hb', h1, if_neg e1, bp_cI], by simp only [bm_M_order, bm_M_order_L27, bm_M_order_L28, hw, if_neg ha, if_pos hb, bp_cI, if_neg bp_10, h2, if_pos e2], hu⟩
  · have hb' : (8 : Int32) ≤ a := bp_nlt hb
    exact ⟨-1, c, m, by simp only [bc_BP_order, bc_PB_shownOrder, bc_PB_shownOrder_L18, if_neg ha, if_pos hb', bp_cI], by simp only [bm_M_order, bm_M_order_L27, bm_M_order_L28, hw, if_neg ha, if_neg hb, bp_cI, if_true], hu⟩
theorem k_heldState (N : Nat) : lk_heldState N bp_J := by
  intro k c m a _ hJ
  obtain ⟨-, -, -, -, ⟨hT, -⟩, ⟨h, h4, h1, h2, -, h3⟩, -⟩ := id hJ
  have hu := bp_up k c m hJ
  have hw := fun (x : Int32) => m_win N x h (by omega) (m.1 0 34 - 1) (by rw [h2]) m
  rcases bp_tri a h (by omega) with ha | ⟨ha, hb, i, hi, he, hin, ht⟩ | ⟨ha, hb, -⟩
  · exact ⟨-1, c, m, by simp only [bc_BP_heldState, bc_BP_heldState_L15, if_pos ha], by simp only [bm_M_heldState, bm_M_heldState_L56, hw, if_pos ha, bp_cI, if_true], hu⟩
  · have hin4 : vp_in a 4 := by rw [he]; exact bp_in (by omega) (by omega)
    have hp : isPI (c.2 40 i) := by have := hT i (by omega); exact ⟨by omega, by omega⟩
    obtain ⟨g1, -, g2, -, g3, -⟩ := h3 i hi
    refine ⟨4 * m.1 14 i + (if m.1 15 i = 0 then 0 else 1) + (if m.1 16 i = 0 then 0 else 2), c, m, ?_, ?_, hu⟩
    · simp only [bc_BP_heldState, if_neg ha, h1, if_pos hb, bp_git hin4, ht, bp_nN, bp_gt hp, g1, g2]
      rw [Int32.mul_comm (m.1 14 i) 4]
      by_cases e1 : m.1 15 i = 0 <;> by_cases e2 : m.1 16 i = 0 <;> simp only [bc_BP_heldState_L45, bc_BP_heldState_L58, e1, e2, g3, if_true, if_false]
    · simp only [bm_M_heldState, hw, if_neg ha, if_pos hb, bp_cI, if_neg bp_10, bp_git hin4, ht]
      by_cases e1 : m.1 15 i = 0 <;> by_cases e2 : m.1 16 i = 0 <;> simp only [bm_M_heldState_L36, bm_M_heldState_L51, bm_M_heldState_L56, bp_git hin4, ht, e1, e2, if_true, if_false]
  · exact ⟨-1, c, m, by simp only [bc_BP_heldState, bc_BP_heldState_L15, if_neg ha, h1, if_neg hb], by simp only [bm_M_heldState, bm_M_heldState_L56, hw, if_neg ha, if_neg hb, bp_cI, if_true], hu⟩
theorem k_heldSample (N : Nat) : lk_heldSample N bp_J := by
  intro k c m a b _ hJ
  obtain ⟨-, -, -, -, ⟨hT, -⟩, ⟨h, h4, h1, h2, -, h3⟩, -⟩ := id hJ
  have hu := bp_up k c m hJ
  have hw := fun (x : Int32) => m_win N x h (by omega) (m.1 0 34 - 1) (by rw [h2]) m
  have hw2 := fun (x : Int32) => m_win N x 256 (by omega) 255 rfl m
  rcases bp_tri a h (by omega) with ha | ⟨ha, hb, i, hi, he, hin, ht⟩ | ⟨ha, hb, -⟩
  · exact ⟨-1, c, m, by simp only [bc_BP_heldSample, bc_BP_heldSample_L26, if_pos ha], by simp only [bm_M_heldSample, bm_M_heldSample_L40, bm_M_heldSample_L41, hw, if_pos ha, bp_cI, if_true], hu⟩
  · have hin4 : vp_in a 4 := by rw [he]; exact bp_in (by omega) (by omega)
    have hb' : ¬ Int32.ofNat h ≤ a := by rw [he]; exact fun e => by have := (bp_le (by omega) (by omega)).mp e; omega
    have hp : isPI (c.2 40 i) := by have := hT i (by omega); exact ⟨by omega, by omega⟩
    obtain ⟨-, -, -, -, -, -, g⟩ := h3 i hi
    rcases bp_tri b 256 (by omega) with ga | ⟨ga, gb, j, hj, hf, gin, gt⟩ | ⟨ga, gb, -⟩
    · exact ⟨-1, c, m, by simp only [bc_BP_heldSample, bc_BP_heldSample_L26, if_neg ha, h1, if_neg hb', if_pos ga], by simp only [bm_M_heldSample, bm_M_heldSample_L40, bm_M_heldSample_L41, hw, hw2, if_neg ha, if_pos hb, if_pos ga, if_neg bp_10, bp_cI, if_true], hu⟩
    · have gb' : b < 256 := gb
      have e1 : 256 * a + b = Int32.ofNat (256 * i + j) := by
        rw [he, hf, show (256 : Int32) = Int32.ofNat 256 from rfl, bp_mul, bp_add]
      have e2 : vp_in (Int32.ofNat (256 * i + j)) 1024 := bp_in (by omega) (by omega)
      exact ⟨m.1 13 (256 * i + j), c, m, by simp only [bc_BP_heldSample, if_neg ha, h1, if_neg hb', if_neg ga, if_pos gb', bp_git hin4, ht, bp_nN, bp_gt hp, bp_git gin, gt, (g j hj).1], by simp only [bm_M_heldSample, bm_M_heldSample_L41, hw, hw2, if_neg ha, if_pos hb, if_neg ga, if_pos gb, if_neg bp_10, bp_cI, e1, bp_git e2, bp_tn (show 256 * i + j < 2147483648 by omega)], hu⟩
    · have gb' : ¬ b < 256 := gb
      exact ⟨-1, c, m, by simp only [bc_BP_heldSample, bc_BP_heldSample_L26, if_neg ha, h1, if_neg hb', if_neg ga, if_neg gb'], by simp only [bm_M_heldSample, bm_M_heldSample_L40, bm_M_heldSample_L41, hw, hw2, if_neg ha, if_pos hb, if_neg ga, if_neg gb, if_neg bp_10, bp_cI, if_true], hu⟩
  · have hb' : Int32.ofNat h ≤ a := bp_nlt hb
    exact ⟨-1, c, m, by simp only [bc_BP_heldSample, bc_BP_heldSample_L26, if_neg ha, h1, if_pos hb'], by simp only [bm_M_heldSample, bm_M_heldSample_L40, bm_M_heldSample_L41, hw, if_neg ha, if_neg hb, bp_cI, if_true], hu⟩
/-- what a change of some cells leaves of the relation -/
theorem jI_of {c m c1 m1 : bp_M} (h : jI c m) (a1 : c1.1 0 5 = c.1 0 5) (a2 : ∀ k, c1.1 1 k = c.1 1 k) (a3 : ∀ k, c1.1 15 k = c.1 15 k) (b1 : ∀ k, k = 4 ∨ k = 5 ∨ k = 6 → m1.1 0 k = m.1 0 k) (b2 : ∀ k, m1.1 4 k = m.1 4 k) : jI c1 m1 := by
  unfold jI at h ⊢
  simp only [a1, a2, a3, b1 4 (by omega), b1 5 (by omega), b1 6 (by omega), b2]
  exact h
theorem jP_of {c m c1 m1 : bp_M} (h : jP c m) (a1 : ∀ k, c1.1 2 k = c.1 2 k) (b1 : ∀ k, 13 ≤ k ∧ k ≤ 18 → m1.1 0 k = m.1 0 k) : jP c1 m1 := by
  unfold jP at h ⊢
  simp only [a1, b1 13 (by omega), b1 14 (by omega), b1 15 (by omega), b1 16 (by omega), b1 17 (by omega), b1 18 (by omega)]
  exact h
theorem jT_of {c c1 : bp_M} (h : jT c) (a : ∀ k, c1.2 40 k = c.2 40 k) (b : ∀ k, c1.2 39 k = c.2 39 k) : jT c1 := by
  unfold jT at h ⊢
  simp only [a, b]
  exact h
theorem jB_of {c m c1 m1 : bp_M} (h : jB c m) (hT : jT c) (a0 : ∀ k, c1.2 40 k = c.2 40 k) (a1 : c1.1 4 1 = c.1 4 1) (a2 : c1.1 4 2 = c.1 4 2) (a3 : c1.1 2 3 = c.1 2 3) (a4 : ∀ o, (11 ≤ o ∧ o < 15) ∨ (35 ≤ o ∧ o < 39) → ∀ k, c1.1 o k = c.1 o k) (b1 : m1.1 0 34 = m.1 0 34) (b2 : m1.1 0 17 = m.1 0 17) (b3 : ∀ o, 13 ≤ o ∧ o ≤ 16 → ∀ k, m1.1 o k = m.1 o k) : jB c1 m1 := by
  obtain ⟨h, h4, h1, h2, h3, hQ⟩ := h
  refine ⟨h, h4, a1.trans h1, b1.trans h2, by rw [a2, a3, b2]; exact h3, fun k hk => ?_⟩
  have hs := hT.1 k (by omega)
  have hq := hQ k hk
  simp only [a0, b3 14 (by omega), b3 15 (by omega), b3 16 (by omega), b3 13 (by omega), a4 (c.2 40 k) (Or.inl hs), a4 (c.2 40 k + 24) (Or.inr ⟨by omega, by omega⟩)]
  exact hq
theorem jS_of {k : Nat} {c m c1 m1 : bp_M} (h : jS k c m) (a1 : c1.1 4 5 = c.1 4 5) (a2 : ∀ k, c1.1 21 k = c.1 21 k) (a3 : ∀ k, c1.1 20 k = c.1 20 k) (b1 : m1.1 0 39 = m.1 0 39) (b2 : ∀ k, m1.1 17 k = m.1 17 k) (b3 : ∀ k, m1.1 18 k = m.1 18 k) : jS k c1 m1 := by
  unfold jS at h ⊢
  simp only [a1, a2, a3, b1, b2, b3]
  exact h
theorem jL_of {c m c1 m1 : bp_M} (h : jL c m) (a0 : ∀ k, c1.2 3 k = c.2 3 k) (a1 : ∀ o, (8 ≤ o ∧ o < 10) ∨ (24 ≤ o ∧ o < 34) → ∀ k, c1.1 o k = c.1 o k) (b1 : m1.1 0 32 = m.1 0 32) (b2 : m1.1 0 33 = m.1 0 33) (b3 : ∀ k, m1.1 12 k = m.1 12 k) : jL c1 m1 := by
  unfold jL at h ⊢
  obtain ⟨h1, h2, h3, h4, h5⟩ := h
  simp only [a0, b1, b2, b3, a1 (c.2 3 2) (Or.inl h1), a1 (5 * c.2 3 2 - 16) (Or.inr ⟨by omega, by omega⟩), a1 (5 * c.2 3 2 - 13) (Or.inr ⟨by omega, by omega⟩), a1 (5 * c.2 3 2 - 12) (Or.inr ⟨by omega, by omega⟩)]
  exact ⟨h1, h2, h3, h4, h5⟩
theorem jW_of {c m c1 m1 : bp_M} (h : jW c m) (a1 : c1.1 5 2 = c.1 5 2) (a2 : ∀ k, c1.1 22 k = c.1 22 k) (a3 : ∀ k, c1.1 23 k = c.1 23 k) (b1 : m1.1 0 44 = m.1 0 44) (b2 : ∀ k, m1.1 19 k = m.1 19 k) (b3 : ∀ k, m1.1 20 k = m.1 20 k) : jW c1 m1 := by
  unfold jW at h ⊢
  simp only [a1, a2, a3, b1, b2, b3]
  exact h
theorem jC_of {m m1 : bp_M} (h : jC m) (b : ∀ o, 1 ≤ o ∧ o ≤ 3 → ∀ k, m1.1 o k = m.1 o k) : jC m1 := by
  unfold jC at h ⊢
  simp only [b 1 (by omega), b 2 (by omega), b 3 (by omega)]
  exact h
theorem bp_s1o (m : bp_M) (o k : Nat) (v : Int32) {x : Nat} (h : x ≠ o) (y : Nat) : (bp_sI m o k v).1 x y = m.1 x y := by
  rw [bp_s1, if_neg (fun e => h e.1)]
theorem bp_s1e (m : bp_M) (o k : Nat) (v : Int32) : (bp_sI m o k v).1 o k = v := by
  rw [bp_s1, if_pos ⟨rfl, rfl⟩]
theorem bp_s1k (m : bp_M) (o k : Nat) (v : Int32) {y : Nat} (h : y ≠ k) : (bp_sI m o k v).1 o y = m.1 o y := by
  rw [bp_s1, if_neg (fun e => h e.2)]
theorem k_draw (N : Nat) : lk_draw N bp_J := by
  intro k c m a b _ hJ
  have hu := bp_up k c m hJ
  have hw := fun (x : Int32) => m_win N x 256 (by omega) 255 rfl m
  rcases bp_tri a 256 (by omega) with ha | ⟨ha, hb, i, hi, he, hin, ht⟩ | ⟨ha, hb, -⟩
  · exact ⟨0, c, m, by simp only [bc_BP_draw, bc_BP_draw_L22, if_pos ha, bp_g, true_or, if_true], by simp only [bm_M_draw, bm_M_draw_L22, hw, if_pos ha, bp_cI, if_true, bp_g, true_or], hu⟩
  · have hb' : ¬ (256 : Int32) ≤ a := fun e => by
      rw [Int32.le_iff_toInt_le] at e
      rw [Int32.lt_iff_toInt_lt] at hb
      exact absurd hb (Int.not_lt.mpr e)
    rcases bp_tri b 256 (by omega) with ga | ⟨ga, gb, j, hj, hf, gin, gt⟩ | ⟨ga, gb, j, hj, hj2, hf⟩
    · exact ⟨0, c, m, by simp only [bc_BP_draw, bc_BP_draw_L22, if_neg ha, if_neg hb', if_pos ga, bp_g, true_or, if_true], by simp only [bm_M_draw, bm_M_draw_L22, hw, if_neg ha, if_pos hb, if_neg bp_10, if_pos ga, bp_cI, not_true, if_false, bp_g, true_or, if_true], hu⟩
    · have gb' : b ≤ 255 := by rw [hf]; exact (bp_le (b := 255) (by omega) (by omega)).mpr (by omega)
      refine ⟨1, bp_sI c 22 i b, bp_sI m 19 i b, by simp only [bc_BP_draw, if_neg ha, if_neg hb', if_neg ga, if_pos gb', bp_git hin, ht, bp_nM, bp_g, or_true, if_true], by simp only [bm_M_draw, hw, if_neg ha, if_pos hb, if_neg bp_10, if_neg ga, if_pos gb, bp_cI, bp_10, not_false_iff, if_true, bp_git hin, ht, bp_nM, bp_g, or_true, if_false], ?_⟩
      obtain ⟨h1, h2, h3, h4, h5, h6, h7, h8, ⟨h9, w, hw1, hw2, hw3, hw4⟩, h10⟩ := hu
      have fc : ∀ o, o ≠ 22 → ∀ y, (bp_sI c 22 i b).1 o y = c.1 o y := fun o ho y => bp_s1o c 22 i b ho y
      have fm : ∀ o, o ≠ 19 → ∀ y, (bp_sI m 19 i b).1 o y = m.1 o y := fun o ho y => bp_s1o m 19 i b ho y
      refine ⟨?_, ?_, jI_of h3 ?_ ?_ ?_ ?_ ?_, jP_of h4 ?_ ?_, jT_of h5 (fun _ => rfl) (fun _ => rfl), jB_of h6 h5 (fun _ => rfl) ?_ ?_ ?_ ?_ ?_ ?_ ?_, jS_of h7 ?_ ?_ ?_ ?_ ?_ ?_, jL_of h8 (fun _ => rfl) ?_ ?_ ?_ ?_, ⟨?_, w, hw1, ?_, ?_, ?_⟩, jC_of h10 ?_⟩
      all_goals first
        | (rw [fc _ (by decide), fm _ (by decide)]; assumption)
        | exact fc _ (by decide) _
        | exact fm _ (by decide) _
        | exact fun y => fc _ (by decide) y
        | exact fun y => fm _ (by decide) y
        | exact fun y _ => fm 0 (by decide) y
        | exact fun o ho y => fc o (by omega) y
        | exact fun o ho y => fm o (by omega) y
        | skip
      · intro x hx
        by_cases hxi : x = i
        · subst hxi
          rw [bp_s1e, bp_s1e]
          exact ⟨rfl, j, by omega, by omega, hf⟩
        · rw [bp_s1k _ _ _ _ hxi, bp_s1k _ _ _ _ hxi]
          exact h9 x hx
      · rw [fc _ (by decide)]; exact hw2
      · rw [fm _ (by decide)]; exact hw3
      · intro x hx
        rw [fc _ (by decide), fm _ (by decide)]
        exact hw4 x hx
    · have gb' : ¬ b ≤ 255 := by rw [hf]; exact fun e => by have := (bp_le (b := 255) hj2 (by omega)).mp e; omega
      exact ⟨0, c, m, by simp only [bc_BP_draw, bc_BP_draw_L22, if_neg ha, if_neg hb', if_neg ga, if_neg gb', bp_g, true_or, if_true], by simp only [bm_M_draw, bm_M_draw_L22, hw, if_neg ha, if_pos hb, if_neg bp_10, if_neg ga, if_neg gb, bp_cI, not_true, if_false, bp_g, true_or, if_true], hu⟩
  · have hb' : (256 : Int32) ≤ a := bp_nlt hb
    exact ⟨0, c, m, by simp only [bc_BP_draw, bc_BP_draw_L22, if_neg ha, if_pos hb', bp_g, true_or, if_true], by simp only [bm_M_draw, bm_M_draw_L22, hw, if_neg ha, if_neg hb, bp_cI, if_true, bp_g, true_or], hu⟩

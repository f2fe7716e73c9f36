theorem bp_inc (i : Nat) : Int32.ofNat i + 1 = Int32.ofNat (i + 1) := bp_add i 1
theorem c_clearBlock (N : Nat) {o i : Nat} (ho : isRO o) (hi : i < 16) (m : bp_M) : ∃ m1, bc_RO_clearBlock N o (Int32.ofNat i) m = some m1 ∧ m1.2 = m.2 ∧ (∀ x, ¬ (5 * o - 16 ≤ x ∧ x ≤ 5 * o - 12) → ∀ y, m1.1 x y = m.1 x y) ∧ (∀ x y, y ≠ i → m1.1 x y = m.1 x y) ∧ (∀ x, 5 * o - 16 ≤ x ∧ x ≤ 5 * o - 12 → m1.1 x i = 0) := by
  obtain ⟨h1, h2⟩ := ho
  have hin : vp_in (Int32.ofNat i) 16 := bp_in (by omega) hi
  refine ⟨bp_sI (bp_sI (bp_sI (bp_sI (bp_sI m (5 * o - 16) i 0) (5 * o - 15) i 0) (5 * o - 14) i 0) (5 * o - 13) i 0) (5 * o - 12) i 0, ?_, rfl, ?_, ?_, ?_⟩
  · simp only [bc_RO_clearBlock, bp_git hin, bp_tn (show i < 2147483648 by omega), bp_nM, bp_g, true_or, if_true]
  · intro x hx y
    rw [bp_s1o _ _ _ _ (by omega), bp_s1o _ _ _ _ (by omega), bp_s1o _ _ _ _ (by omega), bp_s1o _ _ _ _ (by omega), bp_s1o _ _ _ _ (by omega)]
  · intro x y hy
    simp only [bp_s1, hy, and_false, if_false]
  · intro x hx
    simp only [bp_s1, and_true]
    rcases (show x = 5 * o - 16 ∨ x = 5 * o - 15 ∨ x = 5 * o - 14 ∨ x = 5 * o - 13 ∨ x = 5 * o - 12 by omega) with h | h | h | h | h <;> simp only [h, if_true] <;> simp
theorem c_clear (N o : Nat) (ho : isRO o) : ∀ (n i : Nat) (m : bp_M), i ≤ 16 → 16 < i + n → ∃ m1, bc_RO_clear_L2 N o n (Int32.ofNat i) m = some m1 ∧ m1.2 = m.2 ∧ (∀ x, x ≠ o → ¬ (5 * o - 16 ≤ x ∧ x ≤ 5 * o - 12) → ∀ y, m1.1 x y = m.1 x y) ∧ (∀ j, i ≤ j → j < 16 → m1.1 (5 * o - 16) j = 0) ∧ (∀ j, j < i → m1.1 (5 * o - 16) j = m.1 (5 * o - 16) j) ∧ m1.1 o 5 = 0 := by
  obtain ⟨h1, h2⟩ := id ho
  intro n
  induction n with
  | zero => intro i m h3 h4; omega
  | succ n ih =>
    intro i m h3 h4
    rw [bc_RO_clear_L2]
    by_cases h5 : i = 16
    · subst h5
      have e : (16 : Int32) ≤ Int32.ofNat 16 := by decide
      rw [if_pos e]
      refine ⟨bp_sI m o 5 0, rfl, rfl, fun x hx _ y => bp_s1o m o 5 0 hx y, fun j h6 h7 => by omega, fun j _ => bp_s1o m o 5 0 (by omega) j, bp_s1e m o 5 0⟩
    · have e : ¬ (16 : Int32) ≤ Int32.ofNat i := fun e => by have := (bp_le (a := 16) (by omega) (by omega)).mp e; omega
      obtain ⟨m1, g1, g2, g3, g4, g5⟩ := c_clearBlock N ho (show i < 16 by omega) m
      rw [if_neg e, g1]
      simp only [bp_cV, bp_nI, bp_inc]
      obtain ⟨m2, k1, k2, k3, k4, k5, k6⟩ := ih (i + 1) m1 (by omega) (by omega)
      refine ⟨m2, k1, k2.trans g2, fun x hx hy y => by rw [k3 x hx hy, g3 x hy], fun j h6 h7 => ?_, fun j h6 => by rw [k5 j (by omega), g4 _ j (by omega)], k6⟩
      by_cases h8 : j = i
      · subst h8
        rw [k5 j (by omega), g5 _ ⟨by omega, by omega⟩]
      · exact k4 j (by omega) h7
theorem m_clear (N : Nat) : ∀ (n i : Nat) (m : bp_M), i ≤ 16 → 16 < i + n → ∃ m1, bm_M_clearLatest_L2 N n (Int32.ofNat i) m = some m1 ∧ m1.2 = m.2 ∧ (∀ x, x ≠ 0 → x ≠ 12 → ∀ y, m1.1 x y = m.1 x y) ∧ (∀ y, y ≠ 32 → y ≠ 33 → m1.1 0 y = m.1 0 y) ∧ m1.1 0 32 = 0 ∧ m1.1 0 33 = 0 ∧ (∀ j, i ≤ j → j < 16 → m1.1 12 j = -1) ∧ (∀ j, j < i → m1.1 12 j = m.1 12 j) := by
  intro n
  induction n with
  | zero => intro i m h3 h4; omega
  | succ n ih =>
    intro i m h3 h4
    rw [bm_M_clearLatest_L2]
    by_cases h5 : i = 16
    · subst h5
      have e : (16 : Int32) ≤ Int32.ofNat 16 := by decide
      rw [if_pos e]
      refine ⟨bp_sI (bp_sI m 0 32 0) 0 33 0, by simp only [bm_M_clearLatest_L21, bp_nM, bp_g, true_or, if_true], rfl, fun x hx _ y => by rw [bp_s1o _ _ _ _ hx, bp_s1o _ _ _ _ hx], fun y h6 h7 => by rw [bp_s1k _ _ _ _ h7, bp_s1k _ _ _ _ h6], by rw [bp_s1k _ _ _ _ (by decide), bp_s1e], bp_s1e _ _ _ _, fun j h6 h7 => by omega, fun j _ => by rw [bp_s1o _ _ _ _ (by decide), bp_s1o _ _ _ _ (by decide)]⟩
    · have e : ¬ (16 : Int32) ≤ Int32.ofNat i := fun e => by have := (bp_le (a := 16) (by omega) (by omega)).mp e; omega
      have hin : vp_in (Int32.ofNat i) 16 := bp_in (by omega) (by omega)
      rw [if_neg e, bp_git hin]
      simp only [bp_nM, bp_nI, bp_inc, bp_tn (show i < 2147483648 by omega)]
      obtain ⟨m2, k1, k2, k3, k4, k5, k6, k7, k8⟩ := ih (i + 1) (bp_sI m 12 i (-1)) (by omega) (by omega)
      refine ⟨m2, k1, k2, fun x hx hy y => by rw [k3 x hx hy, bp_s1o _ _ _ _ hy], fun y h6 h7 => by rw [k4 y h6 h7, bp_s1o _ _ _ _ (by decide)], k5, k6, fun j h6 h7 => ?_, fun j h6 => by rw [k8 j (by omega), bp_s1k _ _ _ _ (by omega)]⟩
      by_cases h8 : j = i
      · subst h8
        rw [k8 j (by omega), bp_s1e]
      · exact k7 j (by omega) h7
theorem k_reset (N : Nat) (hN : 4000 ≤ N) : lk_reset N bp_J := by
  intro k c m _ hJ
  obtain ⟨h1, h2, h3, h4, h5, h6, h7, ⟨l1, l2, l3, l4, l5⟩, h9, h10⟩ := hJ
  -- the class
  have eU : ∃ c1, bc_UI_clear N c = some c1 ∧ c1.2 = c.2 ∧ (∀ x, x ≠ 1 → ∀ y, c1.1 x y = c.1 x y) ∧ c1.1 1 1 = 0 ∧ c1.1 1 3 = 0 ∧ c1.1 1 4 = 0 ∧ c1.1 1 5 = 0 := by
    refine ⟨bp_sI (bp_sI (bp_sI (bp_sI (bp_sI c 1 1 0) 1 2 0) 1 3 0) 1 4 0) 1 5 0, by simp only [bc_UI_clear, bp_nM, bp_g, true_or, if_true], rfl, fun x hx y => ?_, ?_, ?_, ?_, ?_⟩
    · rw [bp_s1o _ _ _ _ hx, bp_s1o _ _ _ _ hx, bp_s1o _ _ _ _ hx, bp_s1o _ _ _ _ hx, bp_s1o _ _ _ _ hx]
    all_goals simp [bp_s1]
  obtain ⟨c1, u1, u2, u3, u4, u5, u6, u7⟩ := eU
  have eP : ∃ c2, bc_PA_clear N c1 = some c2 ∧ c2.2 = c1.2 ∧ (∀ x, x ≠ 2 → ∀ y, c2.1 x y = c1.1 x y) ∧ (∀ y, y ≠ 0 → y ≠ 3 → c2.1 2 y = c1.1 2 y) ∧ c2.1 2 0 = 0 ∧ c2.1 2 3 = 0 := by
    refine ⟨bp_sI (bp_sI c1 2 0 0) 2 3 0, by simp only [bc_PA_clear, bp_nM, bp_g, true_or, if_true], rfl, fun x hx y => ?_, fun y hy hz => ?_, ?_, ?_⟩
    · rw [bp_s1o _ _ _ _ hx, bp_s1o _ _ _ _ hx]
    · rw [bp_s1k _ _ _ _ hz, bp_s1k _ _ _ _ hy]
    all_goals simp [bp_s1]
  obtain ⟨c2, p1, p2, p3, p4, p5, p6⟩ := eP
  have hc2 : c2.2 = c.2 := p2.trans u2
  obtain ⟨c3, f1, f2, f3, f4, -, f6⟩ := c_clear N (c2.2 3 2) (by rw [hc2]; exact l1) N 0 c2 (by omega) (by omega)
  rw [hc2] at f3 f4 f6
  have hc3 : c3.2 = c.2 := f2.trans hc2
  obtain ⟨m3, g1, g2, g3, g4, g5, g6, g7, -⟩ := m_clear N N 0 (bp_sI (bp_sI (bp_sI (bp_sI (bp_sI (bp_sI (bp_sI (bp_sI (bp_sI m 0 4 0) 0 5 0) 0 6 0) 0 8 0) 0 9 0) 0 13 0) 0 16 0) 0 34 0) 0 39 0) (by omega) (by omega)
  refine ⟨bp_sI (bp_sI (bp_sI (bp_sI (bp_sI c3 4 1 0) 4 2 0) 4 5 0) 0 5 0) 0 6 0, m3, ?_, ?_, ?_⟩
  · have f1' : bc_RO_clear N (c2.2 3 2) c2 = some c3 := f1
    have l1' : isRO (c2.2 3 2) := by rw [hc2]; exact l1
    simp only [bc_BP_reset, u1, p1, bc_PD_forgetLatest, bp_nN, bp_gt l1', f1', bc_PB_clear, bp_nM, bp_cV]
  · have g1' : bm_M_clearLatest N (bp_sI (bp_sI (bp_sI (bp_sI (bp_sI (bp_sI (bp_sI (bp_sI (bp_sI m 0 4 0) 0 5 0) 0 6 0) 0 8 0) 0 9 0) 0 13 0) 0 16 0) 0 34 0) 0 39 0) = some m3 := g1
    simp only [bm_M_reset, bp_nM, bp_g, true_or, if_true, bp_cV, g1']
  · have fm : ∀ x, x ≠ 0 → x ≠ 12 → ∀ y, m3.1 x y = m.1 x y := fun x hx hy y => by
      rw [g3 x hx hy]
      simp only [bp_s1o _ _ _ _ hx]
    have fm0 : ∀ y, y ≠ 4 → y ≠ 5 → y ≠ 6 → y ≠ 8 → y ≠ 9 → y ≠ 13 → y ≠ 16 → y ≠ 34 → y ≠ 39 → y ≠ 32 → y ≠ 33 → m3.1 0 y = m.1 0 y := fun y a1 a2 a3 a4 a5 a6 a7 a8 a9 a10 a11 => by
      rw [g4 y a10 a11]
      simp only [bp_s1k _ _ _ _ a1, bp_s1k _ _ _ _ a2, bp_s1k _ _ _ _ a3, bp_s1k _ _ _ _ a4, bp_s1k _ _ _ _ a5, bp_s1k _ _ _ _ a6, bp_s1k _ _ _ _ a7, bp_s1k _ _ _ _ a8, bp_s1k _ _ _ _ a9]
    have z : ∀ y, y = 4 ∨ y = 5 ∨ y = 6 ∨ y = 8 ∨ y = 9 ∨ y = 13 ∨ y = 16 ∨ y = 34 ∨ y = 39 → m3.1 0 y = 0 := fun y hy => by
      rw [g4 y (by omega) (by omega)]
      rcases hy with rfl | rfl | rfl | rfl | rfl | rfl | rfl | rfl | rfl <;> simp [bp_s1]
    have fc : ∀ x, x ≠ 0 → x ≠ 1 → x ≠ 2 → x ≠ 4 → x ≠ c.2 3 2 → ¬ (5 * c.2 3 2 - 16 ≤ x ∧ x ≤ 5 * c.2 3 2 - 12) → ∀ y, (bp_sI (bp_sI (bp_sI (bp_sI (bp_sI c3 4 1 0) 4 2 0) 4 5 0) 0 5 0) 0 6 0).1 x y = c.1 x y := fun x a0 a1 a2 a4 a5 a6 y => by
      rw [bp_s1o _ _ _ _ a0, bp_s1o _ _ _ _ a0, bp_s1o _ _ _ _ a4, bp_s1o _ _ _ _ a4, bp_s1o _ _ _ _ a4, f3 x a5 a6, p3 x a2, u3 x a1]
    have k0 : ∀ x, x = 1 ∨ x = 2 → ∀ y, (bp_sI (bp_sI (bp_sI (bp_sI (bp_sI c3 4 1 0) 4 2 0) 4 5 0) 0 5 0) 0 6 0).1 x y = c2.1 x y := fun x hx y => by
      obtain ⟨r1, r2⟩ := l1
      rw [bp_s1o _ _ _ _ (by omega), bp_s1o _ _ _ _ (by omega), bp_s1o _ _ _ _ (by omega), bp_s1o _ _ _ _ (by omega), bp_s1o _ _ _ _ (by omega), f3 x (by omega) (by omega)]
    have q0 : ∀ x y, x = 0 ∨ x = 4 → (bp_sI (bp_sI (bp_sI (bp_sI (bp_sI c3 4 1 0) 4 2 0) 4 5 0) 0 5 0) 0 6 0).1 x y = (if (x = 0 ∧ (y = 5 ∨ y = 6)) ∨ (x = 4 ∧ (y = 1 ∨ y = 2 ∨ y = 5)) then 0 else c3.1 x y) := fun x y hx => by
      simp only [bp_s1]
      rcases hx with rfl | rfl
      · by_cases a : y = 6 <;> by_cases b : y = 5 <;> simp [a, b]
      · by_cases a : y = 5 <;> by_cases b : y = 2 <;> by_cases d : y = 1 <;> simp [a, b, d]
    have hr := l1
    obtain ⟨r1, r2⟩ := hr
    obtain ⟨w1, w2⟩ := h9
    obtain ⟨w, w3, w4, w5, w6⟩ := w2
    refine ⟨?_, ?_, ?_, ?_, jT_of h5 (fun _ => by rw [show (bp_sI (bp_sI (bp_sI (bp_sI (bp_sI c3 4 1 0) 4 2 0) 4 5 0) 0 5 0) 0 6 0).2 = c3.2 from rfl, hc3]) (fun _ => by rw [show (bp_sI (bp_sI (bp_sI (bp_sI (bp_sI c3 4 1 0) 4 2 0) 4 5 0) 0 5 0) 0 6 0).2 = c3.2 from rfl, hc3]), ⟨0, by omega, ?_, ?_, fun h => absurd h (by omega), fun k hk => absurd hk (by omega)⟩, ⟨0, by omega, ?_, ?_, fun j _ h => absurd h (by omega), fun h => absurd h (by omega)⟩, ?_, ⟨fun i hi => ?_, w, w3, ?_, ?_, fun i hi => ?_⟩, jC_of h10 (fun o ho y => fm o (by omega) (by omega) y)⟩
    · rw [q0 0 5 (by omega), z 8 (by omega)]; rfl
    · rw [q0 0 6 (by omega), z 9 (by omega)]; rfl
    · intro _
      rw [k0 1 (by omega), k0 1 (by omega), k0 1 (by omega), k0 1 (by omega), p3 1 (by omega), p3 1 (by omega), p3 1 (by omega), p3 1 (by omega), u4, u5, u6, u7, z 4 (by omega), z 5 (by omega), z 6 (by omega)]
      exact ⟨rfl, rfl, Or.inl rfl, rfl, 0, by omega, rfl, rfl, fun _ => rfl, fun h => absurd h (by decide), fun i hi => absurd hi (by omega)⟩
    · obtain ⟨e1, e2, e3, e4, e5, e6, e7, e8, e9, e10, e11⟩ := h4
      have t : ∀ y, y ≠ 0 → y ≠ 3 → (bp_sI (bp_sI (bp_sI (bp_sI (bp_sI c3 4 1 0) 4 2 0) 4 5 0) 0 5 0) 0 6 0).1 2 y = c.1 2 y := fun y a b => by rw [k0 2 (by omega), p4 y a b, u3 2 (by omega)]
      refine ⟨?_, ?_, ?_, ?_, ?_, ?_, ?_, ?_, ?_, ?_, ?_⟩
      · rw [k0 2 (by omega), p5, z 13 (by omega)]
      · rw [t 1 (by omega) (by omega), fm0 14 (by omega) (by omega) (by omega) (by omega) (by omega) (by omega) (by omega) (by omega) (by omega) (by omega) (by omega)]; exact e2
      · rw [t 2 (by omega) (by omega), fm0 15 (by omega) (by omega) (by omega) (by omega) (by omega) (by omega) (by omega) (by omega) (by omega) (by omega) (by omega)]; exact e3
      · rw [k0 2 (by omega), p6, z 16 (by omega)]
      · rw [t 4 (by omega) (by omega), fm0 17 (by omega) (by omega) (by omega) (by omega) (by omega) (by omega) (by omega) (by omega) (by omega) (by omega) (by omega)]; exact e5
      · rw [t 5 (by omega) (by omega), fm0 18 (by omega) (by omega) (by omega) (by omega) (by omega) (by omega) (by omega) (by omega) (by omega) (by omega) (by omega)]; exact e6
      · rw [k0 2 (by omega), p5]; exact Or.inl rfl
      · rw [k0 2 (by omega), p6]; exact Or.inl rfl
      · rw [k0 2 (by omega), p5]; exact fun h => absurd h (by decide)
      · rw [k0 2 (by omega), p6]; exact fun h => absurd h (by decide)
      · rw [t 5 (by omega) (by omega)]; exact e11
    · rw [q0 4 1 (by omega)]; rfl
    · rw [z 34 (by omega)]; rfl
    · rw [q0 4 5 (by omega)]; rfl
    · rw [z 39 (by omega)]; rfl
    · have s2 : (bp_sI (bp_sI (bp_sI (bp_sI (bp_sI c3 4 1 0) 4 2 0) 4 5 0) 0 5 0) 0 6 0).2 = c.2 := hc3
      have s1 : ∀ x, 8 ≤ x → ∀ y, (bp_sI (bp_sI (bp_sI (bp_sI (bp_sI c3 4 1 0) 4 2 0) 4 5 0) 0 5 0) 0 6 0).1 x y = c3.1 x y := fun x hx y => by
        rw [bp_s1o _ _ _ _ (by omega), bp_s1o _ _ _ _ (by omega), bp_s1o _ _ _ _ (by omega), bp_s1o _ _ _ _ (by omega), bp_s1o _ _ _ _ (by omega)]
      unfold jL
      rw [s2]
      refine ⟨l1, l2, l3, ?_, fun n hn => ?_⟩
      · rw [s1 _ (by omega), f6, g6, if_pos rfl]
      · rw [s1 _ (by omega), f4 n (by omega) hn, if_pos rfl, g7 n (by omega) hn]
    · rw [fc 22 (by omega) (by omega) (by omega) (by omega) (by omega) (by omega), fm 19 (by omega) (by omega)]; exact w1 i hi
    · rw [fc 5 (by omega) (by omega) (by omega) (by omega) (by omega) (by omega)]; exact w4
    · rw [fm0 44 (by omega) (by omega) (by omega) (by omega) (by omega) (by omega) (by omega) (by omega) (by omega) (by omega) (by omega)]; exact w5
    · rw [fc 23 (by omega) (by omega) (by omega) (by omega) (by omega) (by omega), fm 20 (by omega) (by omega)]; exact w6 i hi

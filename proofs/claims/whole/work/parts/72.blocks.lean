/-! The blocks of a picture: readBlocks against block. -/
def zJ (q j : Nat) (c m : bp_M) : Prop := ((c.1 (5 * q - 16) j = 0 ∧ m.1 6 j = 1) ∨ (c.1 (5 * q - 16) j = 1 ∧ m.1 6 j = 0)) ∧ c.1 (5 * q - 15) j = m.1 7 j ∧ jb (m.1 7 j) ∧ c.1 (5 * q - 14) j = m.1 10 j ∧ c.1 (5 * q - 13) j = m.1 8 j ∧ jv (m.1 8 j) ∧ c.1 (5 * q - 12) j = m.1 9 j ∧ jv (m.1 9 j)
/-- the blocks before n are done -/
def zR (N q n : Nat) (key : Int32) (c m : bp_M) : Prop := c.2 3 6 = q ∧ c.1 3 10 = m.1 0 19 ∧ jr 0 11 (m.1 0 19) ∧ jC m ∧ zS n c m ∧ (∀ j, j < n → zJ q j c m) ∧ (key = 0 → ∃ K, zL N K c m)
theorem m_88 (N : Nat) (k1 k2 k3 k4 : Int32) : ∀ (j k w : Nat) (m : bp_M), k + j = 16 → j < w → ∃ m1, bm_M_block_L88 N k1 k2 w k3 k4 (Int32.ofNat k) m = bm_M_block_L109 N k1 k2 k3 k4 m1 ∧ cF [11] m m1 ∧ (∀ i, i < k → m1.1 11 i = m.1 11 i) ∧ ∀ i, k ≤ i → i < 16 → m1.1 11 i = 0 := by
  intro j
  induction j with
  | zero =>
    intro k w m hk hw
    obtain ⟨w, rfl⟩ := Nat.exists_eq_succ_of_ne_zero (by omega : w ≠ 0)
    obtain rfl : k = 16 := by omega
    refine ⟨m, ?_, cF.rf _ _, fun _ _ => rfl, fun i h1 h2 => by omega⟩
    rw [bm_M_block_L88, if_pos (by decide)]
  | succ j ih =>
    intro k w m hk hw
    obtain ⟨w, rfl⟩ := Nat.exists_eq_succ_of_ne_zero (by omega : w ≠ 0)
    obtain ⟨m1, q1, q2, q3, q4⟩ := ih (k + 1) w (bp_sI m 11 k 0) (by omega) (by omega)
    refine ⟨m1, ?_, ((cF.rf [11] m).s _ (by decide)).tr q2, fun i hi => ?_, fun i h1 h2 => ?_⟩
    · rw [bm_M_block_L88, if_neg (ge16 (by omega))]
      simp only [bp_git (in_16 (show k < 16 by omega)), bp_tn (show k < 2147483648 by omega), bp_nM, bp_nI, bp_inc]
      exact q1
    · rw [q3 i (by omega), bp_s1k _ _ _ _ (by omega)]
    · by_cases he : i = k
      · subst he; rw [q3 i (by omega), bp_s1e]
      · exact q4 i (by omega) h2
/-- the flags at the head of a block -/
theorem z_flags (N : Nat) (hN : 4000 ≤ N) {d q n : Nat} (hq : isRO q) (r2 : Int32 → bp_M → Option bp_M) {key : Int32} (hkey : key = 0 ∨ key = 1) {c m : bp_M} (h : rD d c m) (hcq : c.2 3 6 = q) : ∃ cp it c2 m2, (cp = 0 ∨ cp = 1) ∧ (it = 0 ∨ it = 1) ∧ (key = 1 → it = 0) ∧ (it = 0 → cp = 0) ∧ rT d c m c2 m2 ∧ (if ¬ key = 0 then bc_PD_readBlocks_L44 r2 N key (Int32.ofNat n) c else bp_cI (bc_BR_flag N c) fun z4 m3 => if ¬ z4 = 0 then bc_PD_readBlocks_L44 r2 N key (Int32.ofNat n) m3 else bc_PD_readBlocks_L45 r2 N key (Int32.ofNat n) 1 m3) = bc_PD_readBlocks_L77 r2 N key (Int32.ofNat n) cp it (Int32.ofNat n) q c2 ∧ bm_M_block N key (Int32.ofNat n) m = bm_M_block_L39 N key (Int32.ofNat n) cp it m2 := by
  rcases hkey with rfl | rfl
  · obtain ⟨v, c1, m1, q1, q2, q3, -, q5⟩ := z_flag N hN h
    have hcq1 : c1.2 3 6 = q := by rw [q3.2.1.1]; exact hcq
    rcases q5 with rfl | rfl
    · refine ⟨1, 1, c1, m1, Or.inr rfl, Or.inr rfl, fun e => absurd e (by decide), fun e => absurd e bp_10, q3, ?_, ?_⟩
      · simp only [not_true, if_false, q1, bp_cI, bc_PD_readBlocks_L45, bp_nN, hcq1, bp_gt hq, bp_10, not_false_iff, if_true, bc_PD_readBlocks_L72]
      · simp only [bm_M_block, not_true, if_false, q2, bp_cI, bm_M_block_L17, bp_10, not_false_iff, if_true, bm_M_block_L34]
    · obtain ⟨v2, c2, m2, p1, p2', p3, -, p5⟩ := z_flag N hN q3.1
      rcases p5 with rfl | rfl
      · refine ⟨0, 1, c2, m2, Or.inl rfl, Or.inr rfl, fun e => absurd e (by decide), fun e => absurd e bp_10, q3.tr p3, ?_, ?_⟩
        · simp only [not_true, if_false, q1, bp_cI, bp_10, not_false_iff, if_true, bc_PD_readBlocks_L44, bc_PD_readBlocks_L45, bp_nN, hcq1, bp_gt hq, p1, bc_PD_readBlocks_L72]
        · simp only [bm_M_block, not_true, if_false, q2, bp_cI, bp_10, not_false_iff, if_true, bm_M_block_L16, bm_M_block_L17, p2', bm_M_block_L34]
      · refine ⟨0, 0, c2, m2, Or.inl rfl, Or.inl rfl, fun _ => rfl, fun _ => rfl, q3.tr p3, ?_, ?_⟩
        · simp only [not_true, if_false, q1, bp_cI, bp_10, not_false_iff, if_true, bc_PD_readBlocks_L44, bc_PD_readBlocks_L45, bp_nN, hcq1, bp_gt hq, p1, bc_PD_readBlocks_L76]
        · simp only [bm_M_block, not_true, if_false, q2, bp_cI, bp_10, not_false_iff, if_true, bm_M_block_L16, bm_M_block_L17, p2', bm_M_block_L38]
  · refine ⟨0, 0, c, m, Or.inl rfl, Or.inl rfl, fun _ => rfl, fun _ => rfl, rT.rf h, ?_, ?_⟩
    · simp only [bp_10, not_false_iff, if_true, bc_PD_readBlocks_L44, bc_PD_readBlocks_L45, bp_nN, hcq, bp_gt hq, not_true, if_false, bc_PD_readBlocks_L76]
    · simp only [bm_M_block, bp_10, not_false_iff, if_true, bm_M_block_L16, bm_M_block_L17, not_true, if_false, bm_M_block_L38]
/-- one block -/
theorem z_block (N : Nat) (hN : 4000 ≤ N) {d q n : Nat} (hq : isRO q) (hn : n < 16) (r2 : Int32 → bp_M → Option bp_M) {key : Int32} (hkey : key = 0 ∨ key = 1) {c m : bp_M} (h : rD d c m) (hR : zR N q n key c m) : ∃ c1 m1, (bp_nN (c.2 3 6) fun q1 => bp_g (isRO q1) <| bp_cV (bc_RO_clearBlock N q1 (Int32.ofNat n) c) fun m2 => if ¬ key = 0 then bc_PD_readBlocks_L44 r2 N key (Int32.ofNat n) m2 else bp_cI (bc_BR_flag N m2) fun z4 m3 => if ¬ z4 = 0 then bc_PD_readBlocks_L44 r2 N key (Int32.ofNat n) m3 else bc_PD_readBlocks_L45 r2 N key (Int32.ofNat n) 1 m3) = r2 (Int32.ofNat (n + 1)) c1 ∧ bm_M_block N key (Int32.ofNat n) m = some m1 ∧ rD d c1 m1 ∧ cF [6, 17, 18, 19, 34, 5 * q - 16, 5 * q - 15, 5 * q - 14, 5 * q - 13, 5 * q - 12] c c1 ∧ mF [5, 6, 7, 8, 9, 10, 11] m m1 ∧ (c1.1 6 3 = 0 → zR N q (n + 1) key c1 m1) := by
  obtain ⟨hq1, hq2⟩ := id hq
  obtain ⟨R1, R2, R3, R4, R5, R6, R7⟩ := hR
  have tn : (Int32.ofNat n).toNatClampNeg = n := bp_tn (by omega)
  obtain ⟨c1, k1, k2, k3, k4, k5⟩ := c_clearBlock N hq hn c
  have D1 : rD d c1 m := h.of (fun y => k3 6 (by omega) y) (fun y => k3 16 (by omega) y) rfl rfl rfl (fun _ => rfl)
  obtain ⟨cp, it, c2, m2, f1, f2, f3, f4, f5, f6, f7⟩ := z_flags N hN hq (n := n) r2 hkey D1 (by rw [k2]; exact R1)
  have hc2 : c2.2 = c.2 := f5.2.1.1.trans k2
  -- the class's memory
  obtain ⟨c3, hc3⟩ : ∃ c3, c3 = bp_sI c2 (5 * q - 16) n it := ⟨_, rfl⟩
  have cq3 : c3.2 3 6 = q := by rw [hc3, bp_s2, hc2]; exact R1
  have C3 : ∀ o, ¬ (5 * q - 16 ≤ o ∧ o ≤ 5 * q - 12) → o ≠ 6 → ∀ y, c3.1 o y = c.1 o y := fun o a b y => by rw [hc3, bp_s1o _ _ _ _ (by omega), f5.2.1.2 o (by simpa using b), k3 o a]
  have C3y : ∀ o, o ≠ 6 → ∀ y, y ≠ n → c3.1 o y = c.1 o y := fun o b y hy => by
    rw [hc3, bp_s1, if_neg (fun e => hy e.2), f5.2.1.2 o (by simpa using b), k4 o y hy]
  have C3n : ∀ o, 5 * q - 15 ≤ o ∧ o ≤ 5 * q - 12 → c3.1 o n = 0 := fun o ho => by rw [hc3, bp_s1o _ _ _ _ (by omega), f5.2.1.2 o (by simp; omega), k5 o (by omega)]
  have C3i : c3.1 (5 * q - 16) n = it := by rw [hc3, bp_s1e]
  have e6 : ∀ y, c3.1 6 y = c2.1 6 y := fun y => by rw [hc3, bp_s1o _ _ _ _ (by omega)]
  have E77 : bc_PD_readBlocks_L77 r2 N key (Int32.ofNat n) cp it (Int32.ofNat n) q c2 = bc_PD_readBlocks_L87 r2 N key (Int32.ofNat n) cp (if cp = 0 then 1 else 0) c3 := by
    have hz : it = 0 ∨ it = 1 := f2
    simp only [bc_PD_readBlocks_L77, bp_git (in_16 hn), bp_gt hz, tn, bp_nM]
    rw [← hc3]
    by_cases hz2 : cp = 0
    · rw [if_neg (fun hn => hn hz2), if_pos hz2]
    · rw [if_pos hz2, if_neg hz2]
  -- the reference's memory
  obtain ⟨ia, hia⟩ : ∃ ia : Int32, ia = if ¬ it = 0 then 0 else 1 := ⟨_, rfl⟩
  have ia01 : ia = 0 ∨ ia = 1 := by rw [hia]; split; exact Or.inl rfl; exact Or.inr rfl
  obtain ⟨m3, hm3⟩ : ∃ m3, m3 = bp_sI (bp_sI (bp_sI (bp_sI (bp_sI m2 6 n ia) 7 n 0) 8 n 0) 9 n 0) 10 n 0 := ⟨_, rfl⟩
  obtain ⟨m4, l1, l2, -, l4⟩ := m_88 N key (Int32.ofNat n) cp it 16 0 N m3 (by omega) (by omega)
  have E39 : bm_M_block_L39 N key (Int32.ofNat n) cp it m2 = bm_M_block_L109 N key (Int32.ofNat n) cp it m4 := by
    have e56 : bm_M_block_L56 N key (Int32.ofNat n) cp it ia (Int32.ofNat n) m2 = bm_M_block_L109 N key (Int32.ofNat n) cp it m4 := by
      simp only [bm_M_block_L56, bp_git (in_16 hn), tn, bp_nM, bp_g, if_pos ia01, true_or, if_true]
      rw [← hm3]
      exact l1
    rw [← e56, hia]
    unfold bm_M_block_L39
    by_cases hz2 : it = 0
    · rw [if_neg (fun hn => hn hz2), if_neg (fun hn => hn hz2)]
    · rw [if_pos hz2, if_pos hz2]
  have M3 : ∀ o, ¬ (6 ≤ o ∧ o ≤ 10) → ∀ y, m3.1 o y = m2.1 o y := fun o a y => by rw [hm3, bp_s1o _ _ _ _ (by omega), bp_s1o _ _ _ _ (by omega), bp_s1o _ _ _ _ (by omega), bp_s1o _ _ _ _ (by omega), bp_s1o _ _ _ _ (by omega)]
  have M3y : ∀ o y, y ≠ n → m3.1 o y = m2.1 o y := fun o y hy => by
    rw [hm3]
    simp only [bp_s1]
    rw [if_neg (fun e => hy e.2), if_neg (fun e => hy e.2), if_neg (fun e => hy e.2), if_neg (fun e => hy e.2), if_neg (fun e => hy e.2)]
  have M3n : ∀ o, 7 ≤ o ∧ o ≤ 10 → m3.1 o n = 0 := fun o ho => by
    rcases (show o = 7 ∨ o = 8 ∨ o = 9 ∨ o = 10 by omega) with rfl | rfl | rfl | rfl <;> rw [hm3] <;> simp [bp_s1]
  have M3i : m3.1 6 n = ia := by rw [hm3]; simp [bp_s1]
  have M4 : ∀ o, o ≠ 11 → ∀ y, m4.1 o y = m3.1 o y := fun o ho y => l2.2 o (by simpa using ho) y
  have M4m : ∀ o, o ≠ 0 → ¬ (6 ≤ o ∧ o ≤ 11) → ∀ y, m4.1 o y = m.1 o y := fun o o0 a y => by rw [M4 o (by omega), M3 o (by omega), f5.2.2.1.1 o o0 (by simp)]
  have M4y : ∀ o, o ≠ 0 → o ≠ 11 → ∀ y, y ≠ n → m4.1 o y = m.1 o y := fun o o0 a y hy => by rw [M4 o a, M3y o y hy, f5.2.2.1.1 o o0 (by simp)]
  have M40 : ∀ y, m4.1 0 y = m2.1 0 y := fun y => by rw [M4 0 (by decide), M3 0 (by omega)]
  have M40m : ∀ y, y ≠ 11 → y ≠ 12 → m4.1 0 y = m.1 0 y := fun y a b => by rw [M40, f5.2.2.1.2 y a b]
  have D3 : rD d c3 m4 := f5.1.of e6 (fun y => by rw [hc3, bp_s1o _ _ _ _ (by omega)]) (M40 _) (M40 _) (M40 _) (fun y => by rw [M4 4 (by decide), M3 4 (by omega)])
  have Q1 : c3.1 3 10 = m4.1 0 19 := by rw [C3 3 (by omega) (by decide), M40m 19 (by decide) (by decide)]; exact R2
  have Q2 : jr 0 11 (m4.1 0 19) := by rw [M40m 19 (by decide) (by decide)]; exact R3
  have Q3 : jC m4 := jC_of R4 (fun o ho y => M4m o (by omega) (by omega) y)
  have Q7 : m4.1 7 n = 0 := by rw [M4 7 (by decide)]; exact M3n 7 (by omega)
  have Q11 : ∀ i, i < 16 → m4.1 11 i = 0 := fun i hi => l4 i (by omega) hi
  have S3 : zS n c3 m4 := fun i hi hb => by rw [C3 34 (by omega) (by decide), M4m 5 (by decide) (by omega)]; exact R5 i hi hb
  have J3 : ∀ j, j < n → zJ q j c3 m4 := fun j hj => by
    unfold zJ
    rw [C3y _ (by omega) j (by omega), C3y _ (by omega) j (by omega), C3y _ (by omega) j (by omega), C3y _ (by omega) j (by omega), C3y _ (by omega) j (by omega), M4y 6 (by decide) (by decide) j (by omega), M4y 7 (by decide) (by decide) j (by omega), M4y 8 (by decide) (by decide) j (by omega), M4y 9 (by decide) (by decide) j (by omega), M4y 10 (by decide) (by decide) j (by omega)]
    exact R6 j hj
  have L3 : ∀ K, zL N K c m → zL N K c3 m4 := fun K hK => hK.of (fun y => by rw [hc3, bp_s2, hc2]) (C3 3 (by omega) (by decide) 9) (fun o ho y => C3 o (by omega) (by omega) y) (M40m 20 (by decide) (by decide)) (M40m 21 (by decide) (by decide)) (M40m 34 (by decide) (by decide)) (fun y => M4m 13 (by decide) (by omega) y) (fun y => M4m 15 (by decide) (by omega) y)
  have FC3 : cF [6, 17, 18, 19, 34, 5 * q - 16, 5 * q - 15, 5 * q - 14, 5 * q - 13, 5 * q - 12] c c3 := ⟨by rw [hc3, bp_s2, hc2], fun o ho y => by
    simp only [List.mem_cons, not_or] at ho
    exact C3 o (by omega) (by omega) y⟩
  have FM4 : mF [5, 6, 7, 8, 9, 10, 11] m m4 := ⟨fun o o0 ho y => by
    simp only [List.mem_cons, not_or] at ho
    exact M4m o o0 (by omega) y, M40m⟩
  have EC : (bp_nN (c.2 3 6) fun q1 => bp_g (isRO q1) <| bp_cV (bc_RO_clearBlock N q1 (Int32.ofNat n) c) fun m2 => if ¬ key = 0 then bc_PD_readBlocks_L44 r2 N key (Int32.ofNat n) m2 else bp_cI (bc_BR_flag N m2) fun z4 m3 => if ¬ z4 = 0 then bc_PD_readBlocks_L44 r2 N key (Int32.ofNat n) m3 else bc_PD_readBlocks_L45 r2 N key (Int32.ofNat n) 1 m3) = bc_PD_readBlocks_L87 r2 N key (Int32.ofNat n) cp (if cp = 0 then 1 else 0) c3 := by
    rw [← E77, ← f6]
    simp only [bp_nN, R1, bp_gt hq, k1, bp_cV]
  rw [EC, f7, E39]
  rcases f2 with h0 | h1
  · -- from its neighbours
    have hcp := f4 h0
    obtain ⟨c5, m5, g1, g2, g3, g4, g5, g6⟩ := z_intra N hN hq hn r2 key D3 cq3 Q1 Q2 Q3 Q7 Q11 S3
    have g4' : cF [6, 17, 18, 19, 34, 5 * q - 16, 5 * q - 15, 5 * q - 14, 5 * q - 13, 5 * q - 12] c3 c5 := g4.up (by simp)
    refine ⟨c5, m5, ?_, ?_, g3, FC3.tr g4', FM4.tr (g5.up (by simp)), fun hf => ?_⟩
    · rw [← g1]
      simp only [bc_PD_readBlocks_L87, bp_nN, cq3, bp_gt hq, bp_git (in_16 hn), tn, C3i, h0, if_true]
    · unfold bm_M_block_L109
      rw [if_pos h0, g2]
      rfl
    · obtain ⟨-, G1, G2, G3, G4, G5⟩ := g6 hf
      have a19 : m5.1 0 19 = m4.1 0 19 := g5.2 19 (by decide) (by decide)
      refine ⟨by rw [g4.1]; exact cq3, by rw [g4.2 3 (by simp; omega), a19]; exact Q1, by rw [a19]; exact Q2, jC_of Q3 (fun o ho y => g5.1 o (by omega) (by simp; omega) y), fun i hi hb => ?_, fun j hj => ?_, fun hk => ?_⟩
      · by_cases hbn : bo i = n
        · have := sn_bo hi
          rw [hbn] at this
          rw [this]
          exact G2 _ (by omega)
        · rw [(G1 i hbn).1, (G1 i hbn).2]
          exact S3 i hi (by omega)
      · have x16 : ∀ y, c5.1 (5 * q - 16) y = c3.1 (5 * q - 16) y := fun y => g4.2 _ (by simp; omega) y
        have x14 : ∀ y, c5.1 (5 * q - 14) y = c3.1 (5 * q - 14) y := fun y => g4.2 _ (by simp; omega) y
        have x13 : ∀ y, c5.1 (5 * q - 13) y = c3.1 (5 * q - 13) y := fun y => g4.2 _ (by simp; omega) y
        have x12 : ∀ y, c5.1 (5 * q - 12) y = c3.1 (5 * q - 12) y := fun y => g4.2 _ (by simp; omega) y
        have y6 : ∀ y, m5.1 6 y = m4.1 6 y := fun y => g5.1 6 (by decide) (by decide) y
        have y8 : ∀ y, m5.1 8 y = m4.1 8 y := fun y => g5.1 8 (by decide) (by decide) y
        have y9 : ∀ y, m5.1 9 y = m4.1 9 y := fun y => g5.1 9 (by decide) (by decide) y
        have y10 : ∀ y, m5.1 10 y = m4.1 10 y := fun y => g5.1 10 (by decide) (by decide) y
        unfold zJ
        rw [x16, x14, x13, x12, y6, y8, y9, y10]
        by_cases hjn : j = n
        · subst hjn
          have z8 : m4.1 8 j = 0 := by rw [M4 8 (by decide)]; exact M3n 8 (by omega)
          have z9 : m4.1 9 j = 0 := by rw [M4 9 (by decide)]; exact M3n 9 (by omega)
          have z10 : m4.1 10 j = 0 := by rw [M4 10 (by decide)]; exact M3n 10 (by omega)
          refine ⟨Or.inl ⟨by rw [C3i, h0], by rw [M4 6 (by decide), M3i, hia, if_neg (fun hn => hn h0)]⟩, G4, G5, by rw [C3n _ (by omega), z10], by rw [C3n _ (by omega), z8], by rw [z8]; exact jv_0, by rw [C3n _ (by omega), z9], by rw [z9]; exact jv_0⟩
        · rw [(G3 j hjn).1, (G3 j hjn).2]
          exact J3 j (by omega)
      · obtain ⟨K, hK⟩ := R7 hk
        exact ⟨K, (L3 K hK).of (fun y => by rw [g4.1]) (g4.2 3 (by simp; omega) 9) (fun o ho y => g4.2 o (by simp; omega) y) (g5.2 20 (by decide) (by decide)) (g5.2 21 (by decide) (by decide)) (g5.2 34 (by decide) (by decide)) (fun y => g5.1 13 (by decide) (by decide) y) (fun y => g5.1 15 (by decide) (by decide) y)⟩
  · -- from a reference
    have hk0 : key = 0 := by
      rcases hkey with hk | hk
      · exact hk
      · exact absurd ((f3 hk).symm.trans h1) (by decide)
    obtain ⟨K, hK⟩ := R7 hk0
    obtain ⟨c5, m5, g1, g2, g3, g4, g5, g6⟩ := z_inter N hN hq hn r2 key f1 D3 cq3 Q1 Q2 Q3 Q7 Q11 (by rw [C3i, h1]) (C3n _ (by omega)) (fun j hj => ⟨(J3 j hj).2.2.2.2.1, (J3 j hj).2.2.2.2.2.1, (J3 j hj).2.2.2.2.2.2.1, (J3 j hj).2.2.2.2.2.2.2⟩) (L3 K hK)
    have g4' : cF [6, 17, 18, 19, 34, 5 * q - 16, 5 * q - 15, 5 * q - 14, 5 * q - 13, 5 * q - 12] c3 c5 := g4.up (by simp)
    have ne1 : ¬ it = 0 := by rw [h1]; exact bp_10
    refine ⟨c5, m5, g1, ?_, g3, FC3.tr g4', FM4.tr (g5.up (by simp)), fun hf => ?_⟩
    · unfold bm_M_block_L109
      rw [if_neg ne1, g2]
      rfl
    · obtain ⟨-, G1, G2, G3, G4, G5, G6, G7, G8, G9, G10⟩ := g6 hf
      have a19 : m5.1 0 19 = m4.1 0 19 := g5.2 19 (by decide) (by decide)
      refine ⟨by rw [g4.1]; exact cq3, by rw [g4.2 3 (by simp; omega), a19]; exact Q1, by rw [a19]; exact Q2, jC_of Q3 (fun o ho y => g5.1 o (by omega) (by simp; omega) y), fun i hi hb => ?_, fun j hj => ?_, fun _ => ?_⟩
      · by_cases hbn : bo i = n
        · have := sn_bo hi
          rw [hbn] at this
          rw [this]
          exact G2 _ (by omega)
        · rw [(G1 i hbn).1, (G1 i hbn).2]
          exact S3 i hi (by omega)
      · have x16 : ∀ y, c5.1 (5 * q - 16) y = c3.1 (5 * q - 16) y := fun y => g4.2 _ (by simp; omega) y
        have y6 : ∀ y, m5.1 6 y = m4.1 6 y := fun y => g5.1 6 (by decide) (by decide) y
        unfold zJ
        rw [x16, y6]
        by_cases hjn : j = n
        · subst hjn
          exact ⟨Or.inr ⟨by rw [C3i, h1], by rw [M4 6 (by decide), M3i, hia, if_pos ne1]⟩, G4, G5, G6, G7, G8, G9, G10⟩
        · obtain ⟨a, b⟩ := G3 j hjn
          rw [a _ (by omega), a _ (by omega), a _ (by omega), a _ (by omega), b 7 (by omega), b 8 (by omega), b 9 (by omega), b 10 (by omega)]
          exact J3 j (by omega)
      · exact ⟨K, (L3 K hK).of (fun y => by rw [g4.1]) (g4.2 3 (by simp; omega) 9) (fun o ho y => g4.2 o (by simp; omega) y) (g5.2 20 (by decide) (by decide)) (g5.2 21 (by decide) (by decide)) (g5.2 34 (by decide) (by decide)) (fun y => g5.1 13 (by decide) (by decide) y) (fun y => g5.1 15 (by decide) (by decide) y)⟩
theorem z_blocks (N : Nat) (hN : 4000 ≤ N) {d q : Nat} (hq : isRO q) {key : Int32} (hkey : key = 0 ∨ key = 1) (rank ord : Int32) : ∀ (j n w w2 : Nat) (c m : bp_M), n + j = 16 → j < w → j < w2 → rD d c m → (c.1 6 3 = 0 → zR N q n key c m) → ∃ c1 m1, bc_PD_readBlocks_L2 N key w (Int32.ofNat n) c = some c1 ∧ bm_M_picture_L211 N key rank w2 ord (Int32.ofNat n) m = bm_M_picture_L238 N key rank ord m1 ∧ rD d c1 m1 ∧ cF [6, 17, 18, 19, 34, 5 * q - 16, 5 * q - 15, 5 * q - 14, 5 * q - 13, 5 * q - 12] c c1 ∧ mF [5, 6, 7, 8, 9, 10, 11] m m1 ∧ (c1.1 6 3 = 0 → c.1 6 3 = 0) ∧ (c1.1 6 3 = 0 → zR N q 16 key c1 m1) := by
  intro j
  induction j with
  | zero =>
    intro n w w2 c m hn hw hw2 h hR
    obtain ⟨w, rfl⟩ := Nat.exists_eq_succ_of_ne_zero (by omega : w ≠ 0)
    obtain ⟨w2, rfl⟩ := Nat.exists_eq_succ_of_ne_zero (by omega : w2 ≠ 0)
    obtain rfl : n = 16 := by omega
    refine ⟨c, m, ?_, ?_, h, cF.rf _ _, mF.rf _ _, fun h0 => h0, hR⟩
    · rw [bc_PD_readBlocks_L2, if_pos (by decide)]; rfl
    · rw [bm_M_picture_L211, if_pos (by decide)]
  | succ j ih =>
    intro n w w2 c m hn hw hw2 h hR
    obtain ⟨w, rfl⟩ := Nat.exists_eq_succ_of_ne_zero (by omega : w ≠ 0)
    obtain ⟨w2, rfl⟩ := Nat.exists_eq_succ_of_ne_zero (by omega : w2 ≠ 0)
    by_cases hf : c.1 6 3 = 0
    · have hb : m.1 0 12 = 0 := by rw [← h.2.1]; exact hf
      obtain ⟨c1, m1, q1, q2, q3, q4, q5, q6⟩ := z_block N hN hq (show n < 16 by omega) (bc_PD_readBlocks_L2 N key w) hkey h (hR hf)
      obtain ⟨c2, m2, p1, p2', p3, p4, p5, -, p6⟩ := ih (n + 1) w w2 c1 m1 (by omega) (by omega) (by omega) q3 q6
      refine ⟨c2, m2, ?_, ?_, p3, q4.tr p4, q5.tr p5, fun _ => hf, p6⟩
      · rw [bc_PD_readBlocks_L2, if_neg (ge16 (by omega)), if_neg (fun hn => hn hf)]
        exact q1.trans p1
      · rw [bm_M_picture_L211, if_neg (ge16 (by omega)), if_neg (fun hn => hn hb), q2]
        simp only [bp_cV, bp_nI, bp_inc]
        exact p2'
    · have hb : ¬ m.1 0 12 = 0 := by rw [← h.2.1]; exact hf
      refine ⟨c, m, ?_, ?_, h, cF.rf _ _, mF.rf _ _, fun h0 => h0, fun h0 => absurd h0 hf⟩
      · rw [bc_PD_readBlocks_L2, if_neg (ge16 (by omega)), if_pos hf]; rfl
      · rw [bm_M_picture_L211, if_neg (ge16 (by omega)), if_pos hb]

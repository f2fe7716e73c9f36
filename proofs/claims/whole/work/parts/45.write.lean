def sn (i j : Nat) : Nat := 16 * (4 * (i / 4) + j / 4) + 4 * (i % 4) + j % 4
theorem sn_lt {i j : Nat} (hi : i < 16) (hj : j < 16) : sn i j < 256 := by unfold sn; omega
theorem sn_c : ∀ i, i < 16 → ∀ j, j < 16 → ((((16 * ((4 * (Int32.ofNat i / 4 : Int32) : Int32) + (Int32.ofNat j / 4 : Int32) : Int32) : Int32) + (4 * (Int32.ofNat i - Int32.ofNat i / 4 * 4 : Int32) : Int32) : Int32) + (Int32.ofNat j - Int32.ofNat j / 4 * 4 : Int32) : Int32)) = Int32.ofNat (sn i j) := by decide +kernel
theorem sn_m : ∀ i, i < 16 → ∀ j, j < 16 → (((((64 * (Int32.ofNat i / 4 : Int32) : Int32) + (4 * (Int32.ofNat i - Int32.ofNat i / 4 * 4 : Int32) : Int32) : Int32) + (16 * (Int32.ofNat j / 4 : Int32) : Int32) : Int32) + (Int32.ofNat j - Int32.ofNat j / 4 * 4 : Int32) : Int32)) = Int32.ofNat (sn i j) := by decide +kernel
def wS (c m : bp_M) : Prop := ∀ s, s < 256 → c.1 22 s = m.1 19 s
theorem wS.fr {c m c1 m1 : bp_M} (h : wS c m) (f : wF c c1) (g : wG m m1) : wS c1 m1 := fun s hs => by
  rw [f.2 22 (by decide) (by decide), g.2.1 19 (by decide) (by decide)]
  exact h s hs
theorem w_inner (N : Nat) (hN : 4000 ≤ N) (b1 a1 a2 a3 : Int32) (rc : Int32 → bp_M → Option bp_M) (rm : Int32 → bp_M → Option (Int32 × bp_M)) {i : Nat} (hi : i < 16) : ∀ (k j n n2 t : Nat) (c m : bp_M), j + k = 16 → k < n → k < n2 → t + 8 * k ≤ 2112 → wR t c m → wS c m → ∃ c1 m1, bc_UW_putKeyPicture_L32 rc N b1 n (Int32.ofNat i) (Int32.ofNat j) c = rc (Int32.ofNat (i + 1)) c1 ∧ bm_M_write_L157 rm N a1 a2 a3 n2 (Int32.ofNat i) (Int32.ofNat j) m = rm (Int32.ofNat (i + 1)) m1 ∧ wR (t + 8 * k) c1 m1 ∧ wF c c1 ∧ wG m m1 := by
  intro k
  induction k with
  | zero =>
    intro j n n2 t c m hj hn hn2 ht h hs
    obtain ⟨n, rfl⟩ := Nat.exists_eq_succ_of_ne_zero (by omega : n ≠ 0)
    obtain ⟨n2, rfl⟩ := Nat.exists_eq_succ_of_ne_zero (by omega : n2 ≠ 0)
    obtain rfl : j = 16 := by omega
    have e : (16 : Int32) ≤ Int32.ofNat 16 := by decide
    refine ⟨c, m, ?_, ?_, h, wF.rf c, wG.rf m⟩
    · rw [bc_UW_putKeyPicture_L32, if_pos e]
      simp only [bc_UW_putKeyPicture_L60, bp_nI, bp_inc]
    · rw [bm_M_write_L157, if_pos e]
      simp only [bm_M_write_L199, bp_nI, bp_inc]
  | succ k ih =>
    intro j n n2 t c m hj hn hn2 ht h hs
    obtain ⟨n, rfl⟩ := Nat.exists_eq_succ_of_ne_zero (by omega : n ≠ 0)
    obtain ⟨n2, rfl⟩ := Nat.exists_eq_succ_of_ne_zero (by omega : n2 ≠ 0)
    have e : ¬ (16 : Int32) ≤ Int32.ofNat j := fun e => by have := (bp_le (a := 16) (by omega) (by omega)).mp e; omega
    have hlt := sn_lt hi (show j < 16 by omega)
    have hin : vp_in (Int32.ofNat (sn i j)) 256 := bp_in (by omega) hlt
    obtain ⟨c1, m1, q1, q2, q3, q4, q5⟩ := w_put N hN (c.1 22 (sn i j)) (k := 8) (by omega) (by omega) h
    have q1' : bc_UW_putBits N (c.1 22 (sn i j)) 8 c = some c1 := q1
    have q2' : bm_M_bitsOut N (c.1 22 (sn i j)) 8 m = some m1 := q2
    rw [hs _ hlt] at q2'
    obtain ⟨c2, m2, p1, p2, p3, p4, p5⟩ := ih (j + 1) n n2 (t + 8) c1 m1 (by omega) (by omega) (by omega) (by omega) q3 (hs.fr q4 q5)
    refine ⟨c2, m2, ?_, ?_, by rw [show t + 8 * (k + 1) = t + 8 + 8 * k by omega]; exact p3, q4.tr p4, q5.tr p5⟩
    · rw [bc_UW_putKeyPicture_L32, if_neg e]
      simp only [bc_BP_sampleNumber, bp_cI, sn_c i hi j (by omega), bp_git hin, bp_tn (show sn i j < 2147483648 by omega), q1', bp_cV, bp_nI, bp_inc, p1]
    · rw [bm_M_write_L157, if_neg e]
      simp only [bm_M_corner, bp_cI, sn_m i hi j (by omega), bp_git hin, bp_tn (show sn i j < 2147483648 by omega), q2', bp_cV, bp_nI, bp_inc, p2]
theorem w_outer (N : Nat) (hN : 4000 ≤ N) (b1 a2 a3 : Int32) : ∀ (k i n n2 t : Nat) (c m : bp_M), i + k = 16 → k < n → k < n2 → t + 130 * k + 1 ≤ 2112 → wR t c m → wS c m → ∃ c1 m1 t1, bc_UW_putKeyPicture_L18 N b1 n (Int32.ofNat i) c = some c1 ∧ bm_M_write_L136 N 5 a2 a3 n2 (Int32.ofNat i) m = some (m1.1 0 44, m1) ∧ t1 ≤ 2112 ∧ wR t1 c1 m1 ∧ wF c c1 ∧ wG m m1 := by
  intro k
  induction k with
  | zero =>
    intro i n n2 t c m hj hn hn2 ht h hs
    obtain ⟨n, rfl⟩ := Nat.exists_eq_succ_of_ne_zero (by omega : n ≠ 0)
    obtain ⟨n2, rfl⟩ := Nat.exists_eq_succ_of_ne_zero (by omega : n2 ≠ 0)
    obtain rfl : i = 16 := by omega
    have e : (16 : Int32) ≤ Int32.ofNat 16 := by decide
    obtain ⟨c1, m1, t1, q1, q2, q3⟩ := w_close N hN 5 a2 a3 (by omega) h
    refine ⟨c1, m1, t1, ?_, ?_, q3⟩
    · rw [bc_UW_putKeyPicture_L18, if_pos e]
      simp only [bc_UW_putKeyPicture_L66, q1, bp_cV]
    · rw [bm_M_write_L136, if_pos e, q2]
  | succ k ih =>
    intro i n n2 t c m hj hn hn2 ht h hs
    obtain ⟨n, rfl⟩ := Nat.exists_eq_succ_of_ne_zero (by omega : n ≠ 0)
    obtain ⟨n2, rfl⟩ := Nat.exists_eq_succ_of_ne_zero (by omega : n2 ≠ 0)
    have e : ¬ (16 : Int32) ≤ Int32.ofNat i := fun e => by have := (bp_le (a := 16) (by omega) (by omega)).mp e; omega
    obtain ⟨c1, m1, q1, q2, q3, q4, q5⟩ := w_put N hN 0 (k := 2) (by omega) (by omega) h
    have q1' : bc_UW_putBits N 0 2 c = some c1 := q1
    have q2' : bm_M_bitsOut N 0 2 m = some m1 := q2
    obtain ⟨c2, m2, p1, p2, p3, p4, p5⟩ := w_inner N hN b1 5 a2 a3 (bc_UW_putKeyPicture_L18 N b1 n) (bm_M_write_L136 N 5 a2 a3 n2) (show i < 16 by omega) 16 0 N N (t + 2) c1 m1 (by omega) (by omega) (by omega) (by omega) q3 (hs.fr q4 q5)
    obtain ⟨c3, m3, t3, o1, o2, o3, o4, o5, o6⟩ := ih (i + 1) n n2 (t + 2 + 8 * 16) c2 m2 (by omega) (by omega) (by omega) (by omega) p3 ((hs.fr q4 q5).fr p4 p5)
    refine ⟨c3, m3, t3, ?_, ?_, o3, o4, (q4.tr p4).tr o5, (q5.tr p5).tr o6⟩
    · rw [bc_UW_putKeyPicture_L18, if_neg e, q1']
      show bc_UW_putKeyPicture_L32 _ N b1 N (Int32.ofNat i) (Int32.ofNat 0) c1 = _
      rw [p1, o1]
    · rw [bm_M_write_L136, if_neg e, if_neg (fun hn => hn rfl), q2']
      show bm_M_write_L157 _ N 5 a2 a3 N (Int32.ofNat i) (Int32.ofNat 0) m1 = _
      rw [p2, o2]
theorem w_num0 (N : Nat) (hN : 4000 ≤ N) {t : Nat} {c m : bp_M} (ht : t + 1 ≤ 2112) (h : wR t c m) : ∃ c1 m1, bc_UW_putNumber N 0 c = some c1 ∧ bm_M_numberOut N 0 m = some m1 ∧ wR (t + 1) c1 m1 ∧ wF c c1 ∧ wG m m1 := by
  obtain ⟨c1, m1, q1, q2, q3⟩ := w_put N hN 1 (k := 1) (by omega) ht h
  have q1' : bc_UW_putBits N 1 1 c = some c1 := q1
  have q2' : bm_M_bitsOut N 1 1 m = some m1 := q2
  refine ⟨c1, m1, ?_, ?_, q3⟩
  · have : ∀ k : Nat, k ≠ 0 → bc_UW_putNumber_L2 N 0 k 0 c = some c1 := by
      intro k hk
      obtain ⟨j, rfl⟩ := Nat.exists_eq_succ_of_ne_zero hk
      rw [bc_UW_putNumber_L2, if_neg (by decide), if_pos (by decide)]
      simp only [bc_UW_putNumber_L23]
      rw [show (0 + 1 : Int32) = 1 from rfl, show (2 * 0 + 1 : Int32) = 1 from rfl, q1']
      rfl
    exact this N (by omega)
  · have : ∀ k : Nat, k ≠ 0 → bm_M_numberOut_L2 N 0 k 0 m = some m1 := by
      intro k hk
      obtain ⟨j, rfl⟩ := Nat.exists_eq_succ_of_ne_zero hk
      rw [bm_M_numberOut_L2, if_pos (by decide)]
      simp only [bm_M_numberOut_L17]
      rw [show (0 + 1 : Int32) = 1 from rfl, show (2 * 0 + 1 : Int32) = 1 from rfl, q2']
      rfl
    exact this N (by omega)
theorem m_46 (N : Nat) (a1 a2 a3 : Int32) (m : bp_M) : bm_M_write_L41 N a1 a2 a3 m = if ¬ a1 = 7 then bm_M_write_L110 N a1 a2 a3 101 (wm7 m) else bm_M_write_L110 N a1 a2 a3 39 (wm7 m) := by
  have i0 : vp_in 0 420 := by unfold vp_in; decide
  have i1 : vp_in 1 420 := by unfold vp_in; decide
  have i2 : vp_in 2 420 := by unfold vp_in; decide
  simp only [bm_M_write_L41, bm_M_write_L46, bp_10, not_false_iff, if_true, bp_git i0, bp_git i1, bp_git i2, bp_nM]
theorem w_par (N : Nat) (hN : 4000 ≤ N) {a b : Nat} (ha : a < 256) (hb : b < 256) (c m : bp_M) : ∃ c1 m1 t1, bc_UW_putParameters N (Int32.ofNat a) (Int32.ofNat b) c = some c1 ∧ bm_M_write_L41 N 7 (Int32.ofNat a) (Int32.ofNat b) m = some (m1.1 0 44, m1) ∧ t1 ≤ 2112 ∧ wR t1 c1 m1 ∧ wF c c1 ∧ wG m m1 := by
  obtain ⟨c1, m1, q1, q2, q3, q4, q5⟩ := w_begin N hN (v := 39) (by omega) c m
  obtain ⟨c2, m2, t2, p1, p2, p3, p4, p5, p6, p7⟩ := w_num N hN ha (by omega) q3
  obtain ⟨c3, m3, t3, o1, o2, o3, o4, o5, o6, o7⟩ := w_num N hN hb (by omega) p5
  obtain ⟨c4, m4, t4, l1, l2, l3, l4, l5, l6⟩ := w_close N hN 7 (Int32.ofNat a) (Int32.ofNat b) (by omega) o5
  have q1' : bc_UW_begin N 39 c = some c1 := q1
  have q2' : bm_M_byteOut N 39 (wm7 m) = some m1 := q2
  refine ⟨c4, m4, t4, ?_, ?_, l3, l4, ((q4.tr p6).tr o6).tr l5, ((q5.tr p7).tr o7).tr l6⟩
  · simp only [bc_UW_putParameters, q1', p1, o1, l1, bp_cV]
  · rw [m_46, if_neg (fun hn => hn rfl)]
    simp only [bm_M_write_L110, q2', p2, bp_cV, bm_M_write_L130, o2, not_true, if_false]
    have : ∀ k : Nat, k ≠ 0 → bm_M_write_L136 N 7 (Int32.ofNat a) (Int32.ofNat b) k 0 m3 = some (m4.1 0 44, m4) := by
      intro k hk
      obtain ⟨j, rfl⟩ := Nat.exists_eq_succ_of_ne_zero hk
      rw [bm_M_write_L136, if_neg (by decide), if_pos (by decide), l2]
    exact this N (by omega)
theorem w_key (N : Nat) (hN : 4000 ≤ N) {a : Nat} (ha : a < 256) (a3 : Int32) (c m : bp_M) (hs : wS c m) : ∃ c1 m1 t1, bc_UW_putKeyPicture N (Int32.ofNat a) c = some c1 ∧ bm_M_write_L41 N 5 (Int32.ofNat a) a3 m = some (m1.1 0 44, m1) ∧ t1 ≤ 2112 ∧ wR t1 c1 m1 ∧ wF c c1 ∧ wG m m1 := by
  obtain ⟨c1, m1, q1, q2, q3, q4, q5⟩ := w_begin N hN (v := 101) (by omega) c m
  obtain ⟨c2, m2, t2, p1, p2, p3, p4, p5, p6, p7⟩ := w_num N hN ha (by omega) q3
  obtain ⟨c3, m3, o1, o2, o5, o6, o7⟩ := w_num0 N hN (by omega) p5
  obtain ⟨c4, m4, t4, l1, l2, l3, l4, l5, l6⟩ := w_outer N hN (Int32.ofNat a) (Int32.ofNat a) a3 16 0 N N (t2 + 1) c3 m3 (by omega) (by omega) (by omega) (by omega) o5 (((hs.fr q4 q5).fr p6 p7).fr o6 o7)
  have q1' : bc_UW_begin N 101 c = some c1 := q1
  have q2' : bm_M_byteOut N 101 (wm7 m) = some m1 := q2
  refine ⟨c4, m4, t4, ?_, ?_, l3, l4, ((q4.tr p6).tr o6).tr l5, ((q5.tr p7).tr o7).tr l6⟩
  · simp only [bc_UW_putKeyPicture, q1', p1, o1, bp_cV]
    exact l1
  · rw [m_46, if_pos (by decide)]
    simp only [bm_M_write_L110, q2', p2, bp_cV, bm_M_write_L130]
    rw [if_pos (by decide), o2]
    exact l2
theorem J_w {k t : Nat} {c m c1 m1 : bp_M} (hJ : bp_J k c m) (f : wF c c1) (g : wG m m1) (ht : t ≤ 2112) (hw : wR t c1 m1) : bp_J (k + 1) c1 m1 := by
  obtain ⟨h1, h2, h3, h4, h5, h6, h7, h8, ⟨h9, -⟩, h10⟩ := bp_up k c m hJ
  obtain ⟨f1, f2⟩ := f
  obtain ⟨g1, g2, g3⟩ := g
  obtain ⟨r, b, w, z, gg, w1, w2, w3, w4, w5, ⟨w6, w7, w8, w9, w10, w11⟩, -⟩ := hw
  refine ⟨?_, ?_, jI_of h3 ?_ ?_ ?_ ?_ ?_, jP_of h4 ?_ ?_, jT_of h5 (fun _ => by rw [f1]) (fun _ => by rw [f1]), jB_of h6 h5 (fun _ => by rw [f1]) ?_ ?_ ?_ ?_ ?_ ?_ ?_, jS_of h7 ?_ ?_ ?_ ?_ ?_ ?_, jL_of h8 (fun _ => by rw [f1]) ?_ ?_ ?_ ?_, ⟨fun i hi => ?_, w, by omega, w7, w8, w11⟩, jC_of h10 (fun o ho y => g2 o (by omega) (by omega) y)⟩
  · rw [f2 0 (by decide) (by decide), g3 8 (by omega)]; exact h1
  · rw [f2 0 (by decide) (by decide), g3 9 (by omega)]; exact h2
  · exact f2 0 (by decide) (by decide) 5
  · exact fun y => f2 1 (by decide) (by decide) y
  · exact fun y => f2 15 (by decide) (by decide) y
  · exact fun y hy => g3 y (by omega)
  · exact fun y => g2 4 (by decide) (by decide) y
  · exact fun y => f2 2 (by decide) (by decide) y
  · exact fun y hy => g3 y (by omega)
  · exact f2 4 (by decide) (by decide) 1
  · exact f2 4 (by decide) (by decide) 2
  · exact f2 2 (by decide) (by decide) 3
  · exact fun o ho y => f2 o (by omega) (by omega) y
  · exact g3 34 (by omega)
  · exact g3 17 (by omega)
  · exact fun o ho y => g2 o (by omega) (by omega) y
  · exact f2 4 (by decide) (by decide) 5
  · exact fun y => f2 21 (by decide) (by decide) y
  · exact fun y => f2 20 (by decide) (by decide) y
  · exact g3 39 (by omega)
  · exact fun y => g2 17 (by decide) (by decide) y
  · exact fun y => g2 18 (by decide) (by decide) y
  · exact fun o ho y => f2 o (by omega) (by omega) y
  · exact g3 32 (by omega)
  · exact g3 33 (by omega)
  · exact fun y => g2 12 (by decide) (by decide) y
  · rw [f2 22 (by decide) (by decide), g2 19 (by decide) (by decide)]; exact h9 i hi
theorem k_write (N : Nat) (hN : 4000 ≤ N) : lk_write N bp_J := by
  intro k c m a1 a2 a3 _ hJ
  have hu := bp_up k c m hJ
  have hs : wS c m := fun s hs => (hJ.2.2.2.2.2.2.2.2.1.1 s hs).1
  have key : ∀ x : bp_M, x = x → (a1 = 5 ∨ ¬ a1 = 5) → ∃ r c1 m1, bc_BP_write_L42 N a1 a2 a3 c = some (r, c1) ∧ bm_M_write_L25 N a1 a2 a3 m = some (r, m1) ∧ bp_J (k + 1) c1 m1 := by
    intro _ _ h5
    have hw := fun (x : Int32) => m_win N x 256 (by omega) 255 rfl m
    rcases h5 with rfl | h5
    · rcases bp_tri a2 256 (by omega) with ha | ⟨ha, hb, i, hi, rfl, -, -⟩ | ⟨ha, hb, j, hj, hj2, he⟩
      · exact ⟨-1, c, m, by simp only [bc_BP_write_L42, bc_BP_write_L74, not_true, if_false, if_pos ha], by simp only [bm_M_write_L25, bm_M_write_L45, bm_M_write_L46, not_true, if_false, hw, if_pos ha, bp_cI, if_true], hu⟩
      · obtain ⟨c1, m1, t1, q1, q2, q3, q4, q5, q6⟩ := w_key N hN hi a3 c m hs
        have e : ¬ (255 : Int32) < Int32.ofNat i := fun e => by have := (bp_lt (a := 255) (by omega) (by omega)).mp e; omega
        obtain ⟨r, b, w, z, g, w1, w2, w3, w4, w5, ⟨w6, w7, w8, -⟩, -⟩ := id q4
        exact ⟨Int32.ofNat w, c1, m1, by simp only [bc_BP_write_L42, not_true, if_false, if_neg ha, if_neg e, q1, bp_cV, w7], by simp only [bm_M_write_L25, not_true, if_false, hw, if_neg ha, if_pos hb, bp_cI, if_neg bp_10, q2, w8], J_w hJ q5 q6 q3 q4⟩
      · have e : (255 : Int32) < a2 := by rw [he]; exact (bp_lt (a := 255) (by omega) hj2).mpr (by omega)
        exact ⟨-1, c, m, by simp only [bc_BP_write_L42, bc_BP_write_L74, not_true, if_false, if_neg ha, if_pos e], by simp only [bm_M_write_L25, bm_M_write_L45, bm_M_write_L46, not_true, if_false, hw, if_neg ha, if_neg hb, bp_cI, if_true], hu⟩
    · exact ⟨-1, c, m, by simp only [bc_BP_write_L42, bc_BP_write_L74, h5, not_false_iff, if_true], by simp only [bm_M_write_L25, bm_M_write_L45, bm_M_write_L46, h5, not_false_iff, if_true, not_true, if_false], hu⟩
  have key := key c rfl (Classical.em _)
  by_cases h7 : a1 = 7
  · have hw := fun (x : Int32) => m_win N x 4 (by omega) 3 rfl m
    have hw2 := fun (x : Int32) => m_win N x 12 (by omega) 11 rfl m
    obtain ⟨r0, c0, m0, z1, z2, z3⟩ := key
    rcases bp_tri a2 4 (by omega) with ha | ⟨ha, hb, i, hi, he, -, -⟩ | ⟨ha, hb, -⟩
    · exact ⟨r0, c0, m0, by simp only [bc_BP_write, h7, not_true, if_false, if_pos ha]; rw [← h7]; exact z1, by simp only [bm_M_write, h7, not_true, if_false, hw, if_pos ha, bp_cI, if_true]; rw [← h7]; exact z2, z3⟩
    · have hb' : ¬ (4 : Int32) ≤ a2 := by rw [he]; exact fun e => by have := (bp_le (a := 4) (by omega) (by omega)).mp e; omega
      rcases bp_tri a3 12 (by omega) with ga | ⟨ga, gb, j, hj, hf, -, -⟩ | ⟨ga, gb, j, hj, hj2, hf⟩
      · exact ⟨r0, c0, m0, by simp only [bc_BP_write, h7, not_true, if_false, if_neg ha, if_neg hb', if_pos ga]; rw [← h7]; exact z1, by simp only [bm_M_write, h7, not_true, if_false, hw, hw2, if_neg ha, if_pos hb, if_neg bp_10, if_pos ga, bp_cI]; rw [← h7]; exact z2, z3⟩
      · have gb' : ¬ (11 : Int32) < a3 := by rw [hf]; exact fun e => by have := (bp_lt (a := 11) (by omega) (by omega)).mp e; omega
        obtain ⟨c1, m1, t1, q1, q2, q3, q4, q5, q6⟩ := w_par N hN (a := i) (b := j) (by omega) (by omega) c m
        obtain ⟨r, b, w, z, g, w1, w2, w3, w4, w5, ⟨w6, w7, w8, -⟩, -⟩ := id q4
        rw [← he, ← hf] at q1 q2
        exact ⟨Int32.ofNat w, c1, m1, by simp only [bc_BP_write, h7, not_true, if_false, if_neg ha, if_neg hb', if_neg ga, if_neg gb', q1, bp_cV, w7], by simp only [bm_M_write, h7, not_true, if_false, hw, hw2, if_neg ha, if_pos hb, if_neg bp_10, if_neg ga, if_pos gb, bp_cI, bp_10, not_false_iff, if_true, q2, w8], J_w hJ q5 q6 q3 q4⟩
      · have gb' : (11 : Int32) < a3 := by rw [hf]; exact (bp_lt (a := 11) (by omega) hj2).mpr (by omega)
        exact ⟨r0, c0, m0, by simp only [bc_BP_write, h7, not_true, if_false, if_neg ha, if_neg hb', if_neg ga, if_pos gb']; rw [← h7]; exact z1, by simp only [bm_M_write, h7, not_true, if_false, hw, hw2, if_neg ha, if_pos hb, if_neg bp_10, if_neg ga, if_neg gb, bp_cI]; rw [← h7]; exact z2, z3⟩
    · have hb' : (4 : Int32) ≤ a2 := bp_nlt hb
      exact ⟨r0, c0, m0, by simp only [bc_BP_write, h7, not_true, if_false, if_neg ha, if_pos hb']; rw [← h7]; exact z1, by simp only [bm_M_write, h7, not_true, if_false, hw, if_neg ha, if_neg hb, bp_cI, if_true]; rw [← h7]; exact z2, z3⟩
  · obtain ⟨r0, c0, m0, z1, z2, z3⟩ := key
    exact ⟨r0, c0, m0, by simp only [bc_BP_write, h7, not_false_iff, if_true]; exact z1, by simp only [bm_M_write, h7, not_false_iff, if_true]; exact z2, z3⟩

theorem bp_sub1 (x : Int32) : x - 1 = x + (-1) := by rw [Int32.sub_eq_add_neg]
theorem w_put (N : Nat) (hN : 4000 ≤ N) (v : Int32) {k t : Nat} {c m : bp_M} (hk : k ≤ 40) (ht : t + k ≤ 2112) (h : wR t c m) : ∃ c1 m1, bc_UW_putBits N v (Int32.ofNat k) c = some c1 ∧ bm_M_bitsOut N v (Int32.ofNat k) m = some m1 ∧ wR (t + k) c1 m1 ∧ wF c c1 ∧ wG m m1 := by
  simp only [bc_UW_putBits, bm_M_bitsOut, bp_nI, bp_sub1]
  exact w_bits N v _ _ k N N t c m (by omega) (by omega) hk ht h
theorem w_log : ∀ v, v < 256 → ∀ i, i < 9 → (decide (Int32.ofNat v + 1 < (2 : Int32) <<< (Int32.ofNat i &&& 31)) = decide ((Int32.ofNat v + 1) >>> (Int32.ofNat i &&& 31) ≤ (1 : Int32))) := by decide +kernel
theorem w_log8 : ∀ v, v < 256 → Int32.ofNat v + 1 < (2 : Int32) <<< (Int32.ofNat 8 &&& 31) := by decide +kernel
theorem w_numl (N : Nat) (hN : 4000 ≤ N) {v : Nat} (hv : v < 256) : ∀ (j i n n2 t : Nat) (c m : bp_M), i + j = 8 → j < n → j < n2 → t + 17 ≤ 2112 → wR t c m → ∃ c1 m1 t1, bc_UW_putNumber_L2 N (Int32.ofNat v) n (Int32.ofNat i) c = some c1 ∧ bm_M_numberOut_L2 N (Int32.ofNat v) n2 (Int32.ofNat i) m = some m1 ∧ t ≤ t1 ∧ t1 ≤ t + 17 ∧ wR t1 c1 m1 ∧ wF c c1 ∧ wG m m1 := by
  intro j
  induction j with
  | zero =>
    intro i n n2 t c m hi hn hn2 ht h
    obtain ⟨n, rfl⟩ := Nat.exists_eq_succ_of_ne_zero (by omega : n ≠ 0)
    obtain ⟨n2, rfl⟩ := Nat.exists_eq_succ_of_ne_zero (by omega : n2 ≠ 0)
    obtain rfl : i = 8 := by omega
    have e1 : ¬ (10 : Int32) ≤ Int32.ofNat 8 := by decide
    have e2 := w_log8 v hv
    have e3 : (Int32.ofNat v + 1) >>> (Int32.ofNat 8 &&& 31) ≤ (1 : Int32) := of_decide_eq_true ((w_log v hv 8 (by omega)).symm.trans (decide_eq_true e2))
    obtain ⟨c1, m1, q1, q2, q3, q4, q5⟩ := w_put N hN (Int32.ofNat v + 1) (k := 17) (by omega) ht h
    refine ⟨c1, m1, t + 17, ?_, ?_, by omega, by omega, q3, q4, q5⟩
    · rw [bc_UW_putNumber_L2, if_neg e1, if_pos e2]
      simp only [bc_UW_putNumber_L23]
      rw [show (2 * Int32.ofNat 8 + 1 : Int32) = Int32.ofNat 17 from rfl, q1]
      rfl
    · rw [bm_M_numberOut_L2, if_pos e3]
      simp only [bm_M_numberOut_L17]
      rw [show (2 * Int32.ofNat 8 + 1 : Int32) = Int32.ofNat 17 from rfl, q2]
      rfl
  | succ j ih =>
    intro i n n2 t c m hi hn hn2 ht h
    obtain ⟨n, rfl⟩ := Nat.exists_eq_succ_of_ne_zero (by omega : n ≠ 0)
    obtain ⟨n2, rfl⟩ := Nat.exists_eq_succ_of_ne_zero (by omega : n2 ≠ 0)
    have e1 : ¬ (10 : Int32) ≤ Int32.ofNat i := fun e => by have := (bp_le (a := 10) (by omega) (by omega)).mp e; omega
    have es : (2 * Int32.ofNat i + 1 : Int32) = Int32.ofNat (2 * i + 1) := by
      rw [show (2 : Int32) = Int32.ofNat 2 from rfl, bp_mul, bp_inc]
    by_cases e2 : Int32.ofNat v + 1 < (2 : Int32) <<< (Int32.ofNat i &&& 31)
    · have e3 : (Int32.ofNat v + 1) >>> (Int32.ofNat i &&& 31) ≤ (1 : Int32) := of_decide_eq_true ((w_log v hv i (by omega)).symm.trans (decide_eq_true e2))
      obtain ⟨c1, m1, q1, q2, q3, q4, q5⟩ := w_put N hN (Int32.ofNat v + 1) (k := 2 * i + 1) (by omega) (by omega) h
      refine ⟨c1, m1, t + (2 * i + 1), ?_, ?_, by omega, by omega, q3, q4, q5⟩
      · rw [bc_UW_putNumber_L2, if_neg e1, if_pos e2]
        simp only [bc_UW_putNumber_L23, es, q1, bp_cV]
      · rw [bm_M_numberOut_L2, if_pos e3]
        simp only [bm_M_numberOut_L17, es, q2, bp_cV]
    · have e3 : ¬ (Int32.ofNat v + 1) >>> (Int32.ofNat i &&& 31) ≤ (1 : Int32) := of_decide_eq_false ((w_log v hv i (by omega)).symm.trans (decide_eq_false e2))
      obtain ⟨c1, m1, t1, q1, q2, q3⟩ := ih (i + 1) n n2 t c m (by omega) (by omega) (by omega) ht h
      refine ⟨c1, m1, t1, ?_, ?_, q3⟩
      · rw [bc_UW_putNumber_L2, if_neg e1, if_neg e2]
        simp only [bp_nI, bp_inc, q1]
      · rw [bm_M_numberOut_L2, if_neg e3]
        simp only [bp_nI, bp_inc, q2]
theorem w_num (N : Nat) (hN : 4000 ≤ N) {v t : Nat} (hv : v < 256) {c m : bp_M} (ht : t + 17 ≤ 2112) (h : wR t c m) : ∃ c1 m1 t1, bc_UW_putNumber N (Int32.ofNat v) c = some c1 ∧ bm_M_numberOut N (Int32.ofNat v) m = some m1 ∧ t ≤ t1 ∧ t1 ≤ t + 17 ∧ wR t1 c1 m1 ∧ wF c c1 ∧ wG m m1 :=
  w_numl N hN hv 8 0 N N t c m (by omega) (by omega) (by omega) ht h
theorem w_bit8 : ∀ v, v < 256 → ∀ j, j < 8 → (Int32.ofNat v >>> (Int32.ofNat j &&& 31)) &&& 1 = Int32.ofNat (v / 2 ^ j % 2) := by decide +kernel
theorem w_half (v j : Nat) : 2 * (v / 2 ^ (j + 1)) + v / 2 ^ j % 2 = v / 2 ^ j := by
  rw [Nat.pow_succ, ← Nat.div_div_eq_div_mul]
  omega
/-- the class's eight bits of a byte, at a byte's border -/
theorem c_eight (N : Nat) (a2 : Int32) {v : Nat} (hv : v < 256) : ∀ (k n : Nat) (c : bp_M), k < 8 → k + 1 < n → c.1 5 4 = Int32.ofNat (v / 2 ^ (k + 1)) → c.1 5 5 = Int32.ofNat (7 - k) → ∃ c1, bc_UW_putBits_L4 N (Int32.ofNat v) a2 n (Int32.ofNat (k + 1) + (-1)) c = bp_cV (bc_UW_putByte N (Int32.ofNat v) c1) (fun m3 => some (bp_sI (bp_sI m3 5 4 0) 5 5 0)) ∧ wF c c1 ∧ c1.1 5 2 = c.1 5 2 ∧ c1.1 5 3 = c.1 5 3 ∧ ∀ y, c1.1 23 y = c.1 23 y := by
  intro k
  induction k with
  | zero =>
    intro n c hk hn h4 h5
    obtain ⟨n, rfl⟩ := Nat.exists_eq_succ_of_ne_zero (by omega : n ≠ 0)
    obtain ⟨n, rfl⟩ := Nat.exists_eq_succ_of_ne_zero (by omega : n ≠ 0)
    have eg : 2 * Int32.ofNat (v / 2 ^ 1) + Int32.ofNat (v / 2 ^ 0 % 2) = Int32.ofNat v := by
      rw [show (2 : Int32) = Int32.ofNat 2 from rfl, bp_mul, bp_add]
      congr 1
      have := w_half v 0
      simpa using this
    have e5 : ∀ x, (bp_sI c 5 4 x).1 5 5 = Int32.ofNat 7 := fun x => by rw [bp_s1k _ _ _ _ (by decide)]; exact h5
    have e4 : ∀ x, (bp_sI (bp_sI c 5 4 x) 5 5 (Int32.ofNat (7 + 1))).1 5 4 = x := fun x => by rw [bp_s1k _ _ _ _ (by decide), bp_s1e]
    have en : (Int32.ofNat 0 + (-1) : Int32) < 0 := by decide
    have e8 : (Int32.ofNat (7 + 1) = 8) := rfl
    refine ⟨bp_sI (bp_sI c 5 4 (Int32.ofNat v)) 5 5 (Int32.ofNat (7 + 1)), ?_, (wF.s c 4 _ (by omega)).tr (wF.s _ 5 _ (by omega)), ?_, ?_, ?_⟩
    · rw [bc_UW_putBits_L4, bp_dec, if_neg (bp_nneg (by omega))]
      simp only [bp_nM, w_bit8 v hv 0 (by omega), h4, eg, e5, bp_inc, bp_s1e, e8, not_true, if_false]
      rw [← e8]
      simp only [e4, bc_UW_putBits_L61, bp_nI]
      congr 1
    · rw [bp_s1k _ _ _ _ (by decide), bp_s1k _ _ _ _ (by decide)]
    · rw [bp_s1k _ _ _ _ (by decide), bp_s1k _ _ _ _ (by decide)]
    · intro y; rw [bp_s1o _ _ _ _ (by decide), bp_s1o _ _ _ _ (by decide)]
  | succ k ih =>
    intro n c hk hn h4 h5
    obtain ⟨n, rfl⟩ := Nat.exists_eq_succ_of_ne_zero (by omega : n ≠ 0)
    have eg : 2 * Int32.ofNat (v / 2 ^ (k + 1 + 1)) + Int32.ofNat (v / 2 ^ (k + 1) % 2) = Int32.ofNat (v / 2 ^ (k + 1)) := by
      rw [show (2 : Int32) = Int32.ofNat 2 from rfl, bp_mul, bp_add, w_half]
    have e5 : ∀ x, (bp_sI c 5 4 x).1 5 5 = Int32.ofNat (7 - (k + 1)) := fun x => by rw [bp_s1k _ _ _ _ (by decide)]; exact h5
    have e8 : ¬ Int32.ofNat (7 - (k + 1) + 1) = 8 := fun e => by have := (bp_eq (b := 8) (by omega) (by omega)).mp e; omega
    obtain ⟨c1, q1, q2, q3, q4, q5⟩ := ih n (bp_sI (bp_sI c 5 4 (Int32.ofNat (v / 2 ^ (k + 1)))) 5 5 (Int32.ofNat (7 - (k + 1) + 1))) (by omega) (by omega) (by rw [bp_s1k _ _ _ _ (by decide), bp_s1e]) (by rw [bp_s1e]; congr 1; omega)
    refine ⟨c1, ?_, ((wF.s c 4 _ (by omega)).tr (wF.s _ 5 _ (by omega))).tr q2, ?_, ?_, ?_⟩
    · rw [bc_UW_putBits_L4, bp_dec, if_neg (bp_nneg (by omega))]
      simp only [bp_nM, w_bit8 v hv (k + 1) (by omega), h4, eg, e5, bp_inc, bp_s1e, e8, not_false_iff, if_true, bc_UW_putBits_L61, bp_nI]
      exact q1
    · rw [q3, bp_s1k _ _ _ _ (by decide), bp_s1k _ _ _ _ (by decide)]
    · rw [q4, bp_s1k _ _ _ _ (by decide), bp_s1k _ _ _ _ (by decide)]
    · intro y; rw [q5, bp_s1o _ _ _ _ (by decide), bp_s1o _ _ _ _ (by decide)]
abbrev wm7 (m : bp_M) : bp_M := bp_sI (bp_sI (bp_sI (bp_sI (bp_sI (bp_sI (bp_sI m 20 (0 : Int32).toNatClampNeg 0) 20 (1 : Int32).toNatClampNeg 0) 20 (2 : Int32).toNatClampNeg 1) 0 44 3) 0 45 0) 0 46 0) 0 47 0
abbrev wc7 (c : bp_M) : bp_M := bp_sI (bp_sI (bp_sI (bp_sI (bp_sI (bp_sI (bp_sI c 23 (0 : Int32).toNatClampNeg 0) 23 (1 : Int32).toNatClampNeg 0) 23 (2 : Int32).toNatClampNeg 1) 5 2 3) 5 3 0) 5 4 0) 5 5 0
theorem w_begin (N : Nat) (hN : 4000 ≤ N) {v : Nat} (hv : v < 256) (c m : bp_M) : ∃ c1 m1, bc_UW_begin N (Int32.ofNat v) c = some c1 ∧ bm_M_byteOut N (Int32.ofNat v) (wm7 m) = some m1 ∧ wR 8 c1 m1 ∧ wF c c1 ∧ wG m m1 := by
  have F7 : wF c (wc7 c) := ((((((wF.s c _ _ (by omega)).tr (wF.s _ _ _ (by omega))).tr (wF.s _ _ _ (by omega))).tr (wF.s _ 2 _ (by omega))).tr (wF.s _ 3 _ (by omega))).tr (wF.s _ 4 _ (by omega))).tr (wF.s _ 5 _ (by omega))
  have G7 : wG m (wm7 m) := ((((((wG.s20 m _ _).tr (wG.s20 _ _ _)).tr (wG.s20 _ _ _)).tr (wG.s0 _ _ (by omega))).tr (wG.s0 _ _ (by omega))).tr (wG.s0 _ _ (by omega))).tr (wG.s0 _ _ (by omega))
  have t0 : (0 : Int32).toNatClampNeg = 0 := rfl
  have t1 : (1 : Int32).toNatClampNeg = 1 := rfl
  have t2 : (2 : Int32).toNatClampNeg = 2 := rfl
  have hB : wB 3 0 (wc7 c) (wm7 m) := by
    refine ⟨by omega, ?_, ?_, ?_, ?_, fun i hi => ?_⟩
    · simp [bp_s1]
    · simp [bp_s1]
    · simp [bp_s1]
    · simp [bp_s1]
    · simp only [wc7, wm7, t0, t1, t2]
      rcases (show i = 0 ∨ i = 1 ∨ i = 2 by omega) with rfl | rfl | rfl
      · simp [bp_s1]; exact ⟨0, by omega, by omega, rfl⟩
      · simp [bp_s1]; exact ⟨0, by omega, by omega, rfl⟩
      · simp [bp_s1]; exact ⟨1, by omega, by omega, rfl⟩
  obtain ⟨c1, q1, q2, q3, q4, q5⟩ := c_eight N 8 hv 7 N (wc7 c) (by omega) (by omega) (by rw [bp_s1k _ _ _ _ (by decide), bp_s1e, Nat.div_eq_of_lt (by omega)]; rfl) (by rw [bp_s1e]; rfl)
  have hB1 : wB 3 0 c1 (wm7 m) := hB.ot q3 q4 q5 rfl rfl (fun _ => rfl)
  obtain ⟨c2, m2, w1, z1, p1, p2, p3, p4, p5, p6, p7, p8, p9, p10, p11⟩ := w_byte N hB1 (by omega) (v := Int32.ofNat v) ⟨v, by omega, by omega, rfl⟩
  refine ⟨bp_sI (bp_sI c2 5 4 0) 5 5 0, m2, ?_, p2, ?_, ((F7.tr q2).tr p4).tr ((wF.s c2 4 0 (by omega)).tr (wF.s _ 5 0 (by omega))), G7.tr p5⟩
  · have i0 : vp_in 0 400 := by unfold vp_in; decide
    have i1 : vp_in 1 400 := by unfold vp_in; decide
    have i2 : vp_in 2 400 := by unfold vp_in; decide
    have hq : bc_UW_putBits N (Int32.ofNat v) 8 (wc7 c) = some (bp_sI (bp_sI c2 5 4 0) 5 5 0) := by
      simp only [bc_UW_putBits, bp_nI, bp_sub1]
      rw [show (8 : Int32) + (-1) = Int32.ofNat (7 + 1) + (-1) from rfl, q1, p1]
      rfl
    simp only [bc_UW_begin, bp_git i0, bp_git i1, bp_git i2, bp_nM, hq, bp_cV]
  · refine ⟨1, 0, w1, z1, 0, by omega, by omega, by omega, by omega, by decide, ?_, ?_, ?_, ?_, ?_⟩
    · apply p3.ot
      · rw [bp_s1k _ _ _ _ (by decide), bp_s1k _ _ _ _ (by decide)]
      · rw [bp_s1k _ _ _ _ (by decide), bp_s1k _ _ _ _ (by decide)]
      · intro y; rw [bp_s1o _ _ _ _ (by decide), bp_s1o _ _ _ _ (by decide)]
      · rfl
      · rfl
      · exact fun _ => rfl
    · rw [bp_s1k _ _ _ _ (by decide), bp_s1e]; rfl
    · rw [p10]; simp [bp_s1]
    · rw [bp_s1e]; rfl
    · rw [p11]; simp [bp_s1]
theorem w_close (N : Nat) (hN : 4000 ≤ N) (a1 a2 a3 : Int32) {t : Nat} {c m : bp_M} (ht : t + 1 ≤ 2112) (h : wR t c m) : ∃ c1 m1 t1, bc_UW_close N c = some c1 ∧ bm_M_write_L205 N a1 a2 a3 m = some (m1.1 0 44, m1) ∧ t1 ≤ 2112 ∧ wR t1 c1 m1 ∧ wF c c1 ∧ wG m m1 := by
  obtain ⟨c1, m1, q1, q2, q3, q4, q5⟩ := w_put N hN 1 (k := 1) (by omega) (by omega) h
  have q1' : bc_UW_putBits N 1 1 c = some c1 := q1
  have q2' : bm_M_bitsOut N 1 1 m = some m1 := q2
  obtain ⟨r, b, w, z, g, h1, h2, h3, h4, h5, h6, h7, h8, h9, h10⟩ := id q3
  have e8 : (8 : Int32) - Int32.ofNat b = Int32.ofNat (8 - b) := bp_sub (a := 8) (by omega)
  have er : Int32.ofNat (8 - b) - Int32.ofNat (8 - b) / 8 * 8 = Int32.ofNat ((8 - b) % 8) := bp_rem (b := 8) (by omega) (by omega)
  obtain ⟨c2, m2, p1, p2, p3, p4, p5⟩ := w_put N hN 0 (k := (8 - b) % 8) (by omega) (by omega) q3
  by_cases hb : b = 0
  · subst hb
    have e0 : (Int32.ofNat 0 ≤ 0) := by decide
    have pc : c2 = c1 := by
      have : bc_UW_putBits N 0 (Int32.ofNat 0) c1 = some c1 := by
        simp only [bc_UW_putBits, bp_nI]
        obtain ⟨n, hn⟩ := Nat.exists_eq_succ_of_ne_zero (by omega : N ≠ 0)
        have en : (Int32.ofNat 0 - 1 : Int32) < 0 := by decide
        have : ∀ k : Nat, k ≠ 0 → bc_UW_putBits_L4 N 0 (Int32.ofNat 0) k (Int32.ofNat 0 - 1) c1 = some c1 := by
          intro k hk
          obtain ⟨j, rfl⟩ := Nat.exists_eq_succ_of_ne_zero hk
          rw [bc_UW_putBits_L4, if_pos en]
          rfl
        exact this N (by omega)
      exact (Option.some.inj (this.symm.trans p1)).symm
    subst pc
    refine ⟨c2, m2, t + 1 + (8 - 0) % 8, ?_, ?_, by omega, p3, q4, q5.tr p5⟩
    · simp only [bc_UW_close, q1', bp_cV, h9, if_pos e0, bc_UW_close_L25]
    · simp only [bm_M_write_L205, q2', bp_cV, h10, e8, er, p2]
  · have e0 : ¬ Int32.ofNat b ≤ 0 := bp_nl0 (by omega) hb
    have e9 : (8 - b) % 8 = 8 - b := Nat.mod_eq_of_lt (by omega)
    refine ⟨c2, m2, t + 1 + (8 - b) % 8, ?_, ?_, by omega, p3, q4.tr p4, q5.tr p5⟩
    · rw [e9] at p1
      simp only [bc_UW_close, q1', bp_cV, h9, if_neg e0, e8, p1, bc_UW_close_L25]
    · simp only [bm_M_write_L205, q2', bp_cV, h10, e8, er, p2]

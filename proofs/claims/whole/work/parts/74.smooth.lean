/-! The edges in their order; finish against edges and remember. -/
theorem z_edgel (N : Nat) {n s g t Q q : Nat} (hn : n < 16) (hs : 1 ≤ s) (hg : ∀ k, k < 4 → 2 * s ≤ sn n 0 + k * g ∧ sn n 0 + k * g + s < 256) (ht : t ≤ 2) (hQ : Q ≤ 11) (p x4 : Int32) (r5 : Int32 → Int32 → bp_M → Option (Int32 × bp_M)) : ∀ (j k w w2 : Nat) (c m : bp_M), k + j = 4 → j < w → j < w2 → zE c m → m.1 0 19 = Int32.ofNat Q → ∃ c1 m1, bc_EF_smooth_L127 r5 N 34 q (Int32.ofNat Q) w (m.1 0 30) x4 (Int32.ofNat n) (Int32.ofNat t) (Int32.ofNat s) (Int32.ofNat g) (Int32.ofNat k) c = r5 (m1.1 0 30) (x4 + 1) c1 ∧ bm_M_edge_L11 N p (Int32.ofNat n) (Int32.ofNat s) (Int32.ofNat g) w2 (Int32.ofNat t) (Int32.ofNat k) m = some m1 ∧ cF [34] c c1 ∧ eF m m1 ∧ zE c1 m1 := by
  intro j
  induction j with
  | zero =>
    intro k w w2 c m hk hw hw2 hE hq
    obtain ⟨w, rfl⟩ := Nat.exists_eq_succ_of_ne_zero (by omega : w ≠ 0)
    obtain ⟨w2, rfl⟩ := Nat.exists_eq_succ_of_ne_zero (by omega : w2 ≠ 0)
    obtain rfl : k = 4 := by omega
    refine ⟨c, m, ?_, ?_, cF.rf _ _, eF.rf _, hE⟩
    · rw [bc_EF_smooth_L127, if_pos (by decide)]; rfl
    · rw [bm_M_edge_L11, if_pos (by decide)]; rfl
  | succ j ih =>
    intro k w w2 c m hk hw hw2 hE hq
    obtain ⟨w, rfl⟩ := Nat.exists_eq_succ_of_ne_zero (by omega : w ≠ 0)
    obtain ⟨w2, rfl⟩ := Nat.exists_eq_succ_of_ne_zero (by omega : w2 ≠ 0)
    by_cases h0 : t = 0
    · have e0 : Int32.ofNat t ≤ 0 := by rw [h0]; decide
      refine ⟨c, m, ?_, ?_, cF.rf _ _, eF.rf _, hE⟩
      · rw [bc_EF_smooth_L127, if_neg (ge4 (by omega)), if_pos e0]; rfl
      · rw [bm_M_edge_L11, if_neg (ge4 (by omega)), if_pos e0]; rfl
    · have e0 : ¬ Int32.ofNat t ≤ 0 := bp_nl0 (by omega) h0
      obtain ⟨b1, b2⟩ := hg k (by omega)
      obtain ⟨v, c1, m1, q1, q2, q3, q4, q5, q6, q7⟩ := z_line N hs b1 b2 ht hQ hE hq
      have q19 : m1.1 0 19 = Int32.ofNat Q := by rw [q6.2 19 (by decide)]; exact hq
      obtain ⟨c2, m2, p1, p2', p3, p4, p5⟩ := ih (k + 1) w w2 c1 m1 (by omega) (by omega) (by omega) q7 q19
      have ek : (Int32.ofNat (sn n 0) + (Int32.ofNat k * Int32.ofNat g : Int32) : Int32) = Int32.ofNat (sn n 0 + k * g) := by rw [bp_mul, bp_add]
      refine ⟨c2, m2, ?_, ?_, q5.tr p3, q6.tr p4, p5⟩
      · rw [bc_EF_smooth_L127, if_neg (ge4 (by omega)), if_neg e0, show bc_BP_sampleNumber N (Int32.ofNat n) 0 c = some (Int32.ofNat (sn n 0), c) from c_sn N hn (k := 0) (by omega) c]
        simp only [bp_cI, ek, q1]
        rw [← p1, q4]
        rcases q3 with rfl | rfl
        · simp only [if_true, bc_EF_smooth_L165, bp_nI, bp_inc, Int32.add_zero]
        · simp only [if_neg bp_10, bc_EF_smooth_L165, bp_nI, bp_inc]
      · rw [bm_M_edge_L11, if_neg (ge4 (by omega)), if_neg e0, m_corner N hn]
        simp only [bp_cI, ek, hq, q2, bp_cV, bp_nI, bp_inc]
        exact p2'
theorem z_left {n : Nat} (hn : n < 16) (h : 0 < n % 4) : ∀ k, k < 4 → 2 * 1 ≤ sn n 0 + k * 16 ∧ sn n 0 + k * 16 + 1 < 256 := fun k hk => by
  rw [sn_0]; omega
theorem z_top {n : Nat} (hn : n < 16) (h : 4 ≤ n) : ∀ k, k < 4 → 2 * 16 ≤ sn n 0 + k * 1 ∧ sn n 0 + k * 1 + 16 < 256 := fun k hk => by
  rw [sn_0]; omega
/-- an edge that is none -/
theorem c_noedge (N q : Nat) (r5 : Int32 → Int32 → bp_M → Option (Int32 × bp_M)) (a2 : Int32) {w : Nat} (hw : w ≠ 0) (x3 x4 x5 x9 x10 : Int32) (c : bp_M) : bc_EF_smooth_L127 r5 N 34 q a2 w x3 x4 x5 0 x9 x10 0 c = r5 x3 (x4 + 1) c := by
  obtain ⟨w, rfl⟩ := Nat.exists_eq_succ_of_ne_zero hw
  rw [bc_EF_smooth_L127, if_neg (by decide), if_pos (by decide)]
  rfl
theorem z_smooth (N : Nat) (hN : 4000 ≤ N) {q Q : Nat} (hq : isRO q) (hQ : Q ≤ 11) : ∀ (j n w w2 : Nat) (c m : bp_M), n + j = 16 → 2 * j < w → j < w2 → zE c m → m.1 0 19 = Int32.ofNat Q → (∀ i, i < 16 → zJ q i c m) → ∃ c1 m1, bc_EF_smooth_L5 N 34 q (Int32.ofNat Q) w (m.1 0 30) (Int32.ofNat (2 * n)) c = some (m1.1 0 30, c1) ∧ bm_M_edges_L7 N w2 (Int32.ofNat n) m = some m1 ∧ cF [34] c c1 ∧ eF m m1 ∧ zE c1 m1 := by
  obtain ⟨hq1, hq2⟩ := id hq
  intro j
  induction j with
  | zero =>
    intro n w w2 c m hn hw hw2 hE hq hJ
    obtain ⟨w, rfl⟩ := Nat.exists_eq_succ_of_ne_zero (by omega : w ≠ 0)
    obtain ⟨w2, rfl⟩ := Nat.exists_eq_succ_of_ne_zero (by omega : w2 ≠ 0)
    obtain rfl : n = 16 := by omega
    refine ⟨c, m, ?_, ?_, cF.rf _ _, eF.rf _, hE⟩
    · rw [bc_EF_smooth_L5, if_pos (by decide)]; rfl
    · rw [bm_M_edges_L7, if_pos (by decide)]; rfl
  | succ j ih =>
    intro n w w2 c m hn hw hw2 hE h19 hJ
    obtain ⟨w, rfl⟩ : ∃ k, w = k + 1 + 1 := ⟨w - 2, by omega⟩
    obtain ⟨w2, rfl⟩ := Nat.exists_eq_succ_of_ne_zero (by omega : w2 ≠ 0)
    have hn16 : n < 16 := by omega
    have f1 : ¬ (32 : Int32) ≤ Int32.ofNat (2 * n) := fun e => by have := (bp_le (a := 32) (by omega) (by omega)).mp e; omega
    have f2 : ¬ (32 : Int32) ≤ Int32.ofNat (2 * n + 1) := fun e => by have := (bp_le (a := 32) (by omega) (by omega)).mp e; omega
    have d1 : Int32.ofNat (2 * n) / 2 = Int32.ofNat n := by
      have := bp_div (a := 2 * n) (b := 2) (by omega) (by omega)
      rw [show 2 * n / 2 = n by omega] at this
      exact this
    have d2 : Int32.ofNat (2 * n + 1) / 2 = Int32.ofNat n := by
      have := bp_div (a := 2 * n + 1) (b := 2) (by omega) (by omega)
      rw [show (2 * n + 1) / 2 = n by omega] at this
      exact this
    have g1 : (Int32.ofNat (2 * n) - Int32.ofNat n * 2 : Int32) = 0 := by
      rw [Int32.mul_comm, x2, bp_sub (by omega), show 2 * n - 2 * n = 0 by omega]; rfl
    have g2 : ¬ (Int32.ofNat (2 * n + 1) - Int32.ofNat n * 2 : Int32) = 0 := by
      rw [Int32.mul_comm, x2, bp_sub (by omega), show 2 * n + 1 - 2 * n = 1 by omega]; decide
    -- the left edge
    have HL : ∃ c1 m1, bc_EF_smooth_L5 N 34 q (Int32.ofNat Q) (w + 1 + 1) (m.1 0 30) (Int32.ofNat (2 * n)) c = bc_EF_smooth_L5 N 34 q (Int32.ofNat Q) (w + 1) (m1.1 0 30) (Int32.ofNat (2 * n + 1)) c1 ∧ bm_M_edges_L7 N (w2 + 1) (Int32.ofNat n) m = bm_M_edges_L30 (bm_M_edges_L7 N w2) N (Int32.ofNat n) m1 ∧ cF [34] c c1 ∧ eF m m1 ∧ zE c1 m1 := by
      by_cases h4 : n % 4 = 0
      · have e4 := (m4_0 hn16).mpr h4
        refine ⟨c, m, ?_, ?_, cF.rf _ _, eF.rf _, hE⟩
        · rw [bc_EF_smooth_L5, if_neg f1]
          simp only [d1, g1, bp_nI, not_true, if_false, bc_EF_smooth_L30, if_neg bp_10, if_pos e4, bc_EF_smooth_L63, if_true, bc_EF_smooth_L96, bc_EF_smooth_L109, bc_EF_smooth_L122]
          rw [c_noedge N q _ _ (by omega), bp_inc]
        · rw [bm_M_edges_L7, if_neg (ge16 hn16), if_pos e4]
      · have e4 : ¬ (Int32.ofNat n - Int32.ofNat n / 4 * 4 : Int32) ≤ 0 := fun e => h4 ((m4_0 hn16).mp e)
        have es : Int32.ofNat n - 1 = Int32.ofNat (n - 1) := bp_sub (b := 1) (by omega)
        obtain ⟨t, t1, t2, t3⟩ := z_str N (q := q) (p := n - 1) (r := n) (by omega) hn16 (hJ _ (by omega)) (hJ _ hn16)
        obtain ⟨c1, m1, q1, q2, q3, q4, q5⟩ := z_edgel N (n := n) (s := 1) (g := 16) (t := t) (Q := Q) (q := q) hn16 (by omega) (z_left hn16 (by omega)) t1 hQ (Int32.ofNat (n - 1)) (Int32.ofNat (2 * n)) (bc_EF_smooth_L5 N 34 q (Int32.ofNat Q) (w + 1)) 4 0 N N c m (by omega) (by omega) (by omega) hE h19
        refine ⟨c1, m1, ?_, ?_, q3, q4, q5⟩
        · rw [bc_EF_smooth_L5, if_neg f1]
          simp only [d1, g1, bp_nI, not_true, if_false, bc_EF_smooth_L30, if_neg bp_10, if_neg e4, bc_EF_smooth_L63, bc_EF_smooth_L87, es, t2, bp_cI, bc_EF_smooth_L96, bc_EF_smooth_L109, bc_EF_smooth_L122]
          rw [bp_inc] at q1
          exact q1
        · rw [bm_M_edges_L7, if_neg (ge16 hn16), if_neg e4, es]
          have : bm_M_edge N (Int32.ofNat (n - 1)) (Int32.ofNat n) 1 16 m = some m1 := by
            unfold bm_M_edge
            rw [t3]
            exact q2
          rw [this]
          rfl
    obtain ⟨c1, m1, L1, L2, L3, L4, L5⟩ := HL
    have h19' : m1.1 0 19 = Int32.ofNat Q := by rw [L4.2 19 (by decide)]; exact h19
    have hJ1 : ∀ i, i < 16 → zJ q i c1 m1 := fun i hi => by
      unfold zJ
      rw [L3.2 _ (by simp; omega), L3.2 _ (by simp; omega), L3.2 _ (by simp; omega), L3.2 _ (by simp; omega), L3.2 _ (by simp; omega), L4.1 6 (by decide) (by decide), L4.1 7 (by decide) (by decide), L4.1 8 (by decide) (by decide), L4.1 9 (by decide) (by decide), L4.1 10 (by decide) (by decide)]
      exact hJ i hi
    -- the edge above
    have HT : ∃ c2 m2, bc_EF_smooth_L5 N 34 q (Int32.ofNat Q) (w + 1) (m1.1 0 30) (Int32.ofNat (2 * n + 1)) c1 = bc_EF_smooth_L5 N 34 q (Int32.ofNat Q) w (m2.1 0 30) (Int32.ofNat (2 * (n + 1))) c2 ∧ bm_M_edges_L30 (bm_M_edges_L7 N w2) N (Int32.ofNat n) m1 = bm_M_edges_L7 N w2 (Int32.ofNat (n + 1)) m2 ∧ cF [34] c1 c2 ∧ eF m1 m2 ∧ zE c2 m2 := by
      rw [show 2 * (n + 1) = 2 * n + 1 + 1 by omega]
      by_cases h4 : n < 4
      · have e4 := (lt_4 hn16).mpr h4
        refine ⟨c1, m1, ?_, ?_, cF.rf _ _, eF.rf _, L5⟩
        · rw [bc_EF_smooth_L5, if_neg f2]
          simp only [d2, bp_nI, g2, not_false_iff, if_true, bc_EF_smooth_L30, if_pos e4, bc_EF_smooth_L63, bc_EF_smooth_L96, bc_EF_smooth_L109, bc_EF_smooth_L122]
          rw [c_noedge N q _ _ (by omega), bp_inc]
        · unfold bm_M_edges_L30 bm_M_edges_L46
          rw [if_pos e4]
          simp only [bp_nI, bp_inc]
      · have e4 : ¬ Int32.ofNat n < 4 := fun e => h4 ((lt_4 hn16).mp e)
        have es : Int32.ofNat n - 4 = Int32.ofNat (n - 4) := bp_sub (b := 4) (by omega)
        obtain ⟨t, t1, t2, t3⟩ := z_str N (q := q) (p := n - 4) (r := n) (by omega) hn16 (hJ1 _ (by omega)) (hJ1 _ hn16)
        obtain ⟨c2, m2, q1, q2, q3, q4, q5⟩ := z_edgel N (n := n) (s := 16) (g := 1) (t := t) (Q := Q) (q := q) hn16 (by omega) (z_top hn16 (by omega)) t1 hQ (Int32.ofNat (n - 4)) (Int32.ofNat (2 * n + 1)) (bc_EF_smooth_L5 N 34 q (Int32.ofNat Q) w) 4 0 N N c1 m1 (by omega) (by omega) (by omega) L5 h19'
        refine ⟨c2, m2, ?_, ?_, q3, q4, q5⟩
        · rw [bc_EF_smooth_L5, if_neg f2]
          simp only [d2, bp_nI, g2, not_false_iff, if_true, bc_EF_smooth_L30, if_neg e4, bc_EF_smooth_L63, if_neg bp_10, bc_EF_smooth_L87, es, t2, bp_cI, bc_EF_smooth_L96, bc_EF_smooth_L109, bc_EF_smooth_L122]
          rw [bp_inc] at q1
          exact q1
        · unfold bm_M_edges_L30 bm_M_edges_L46
          rw [if_neg e4, es]
          have : bm_M_edge N (Int32.ofNat (n - 4)) (Int32.ofNat n) 16 1 m1 = some m2 := by
            unfold bm_M_edge
            rw [t3]
            exact q2
          rw [this]
          simp only [bp_cV, bp_nI, bp_inc]
    obtain ⟨c2, m2, T1, T2, T3, T4, T5⟩ := HT
    have hJ2 : ∀ i, i < 16 → zJ q i c2 m2 := fun i hi => by
      unfold zJ
      rw [T3.2 _ (by simp; omega), T3.2 _ (by simp; omega), T3.2 _ (by simp; omega), T3.2 _ (by simp; omega), T3.2 _ (by simp; omega), T4.1 6 (by decide) (by decide), T4.1 7 (by decide) (by decide), T4.1 8 (by decide) (by decide), T4.1 9 (by decide) (by decide), T4.1 10 (by decide) (by decide)]
      exact hJ1 i hi
    obtain ⟨c3, m3, p1, p2', p3, p4, p5⟩ := ih (n + 1) w w2 c2 m2 (by omega) (by omega) (by omega) T5 (by rw [T4.2 19 (by decide)]; exact h19') hJ2
    exact ⟨c3, m3, L1.trans (T1.trans p1), L2.trans (T2.trans p2'), (L3.tr T3).tr p3, (L4.tr T4).tr p4, p5⟩
/-- the vectors remembered -/
theorem m_rem (N : Nat) : ∀ (j k w : Nat) (m : bp_M), k + j = 16 → j < w → ∃ m1, bm_M_remember_L2 N w (Int32.ofNat k) m = some m1 ∧ (∀ x, x ≠ 0 → x ≠ 12 → ∀ y, m1.1 x y = m.1 x y) ∧ (∀ y, y ≠ 32 → y ≠ 33 → m1.1 0 y = m.1 0 y) ∧ m1.1 0 32 = m.1 0 30 ∧ m1.1 0 33 = 1 ∧ (∀ i, i < k → m1.1 12 i = m.1 12 i) ∧ ∀ i, k ≤ i → i < 16 → m1.1 12 i = if m.1 6 i = 0 then (((256 * (m.1 8 i + 64 : Int32) : Int32) + m.1 9 i : Int32) + 64 : Int32) else -1 := by
  intro j
  induction j with
  | zero =>
    intro k w m hk hw
    obtain ⟨w, rfl⟩ := Nat.exists_eq_succ_of_ne_zero (by omega : w ≠ 0)
    obtain rfl : k = 16 := by omega
    refine ⟨bp_sI (bp_sI m 0 32 (m.1 0 30)) 0 33 1, ?_, fun x x0 _ y => by rw [bp_s1o _ _ _ _ x0, bp_s1o _ _ _ _ x0], fun y a b => by rw [bp_s1k _ _ _ _ b, bp_s1k _ _ _ _ a], by rw [bp_s1k _ _ _ _ (by decide), bp_s1e], bp_s1e _ _ _ _, fun i _ => by rw [bp_s1o _ _ _ _ (by decide), bp_s1o _ _ _ _ (by decide)], fun i h1 h2 => by omega⟩
    rw [bm_M_remember_L2, if_pos (by decide)]
    simp only [bm_M_remember_L56, bp_nM, bp_g, or_true, if_true]
  | succ j ih =>
    intro k w m hk hw
    obtain ⟨w, rfl⟩ := Nat.exists_eq_succ_of_ne_zero (by omega : w ≠ 0)
    have tk : (Int32.ofNat k).toNatClampNeg = k := bp_tn (by omega)
    obtain ⟨v, hv⟩ : ∃ v : Int32, v = if m.1 6 k = 0 then (((256 * (m.1 8 k + 64 : Int32) : Int32) + m.1 9 k : Int32) + 64 : Int32) else -1 := ⟨_, rfl⟩
    obtain ⟨m1, q1, q2, q3, q4, q5, q6, q7⟩ := ih (k + 1) w (bp_sI m 12 k v) (by omega) (by omega)
    refine ⟨m1, ?_, fun x x0 hx y => by rw [q2 x x0 hx, bp_s1o _ _ _ _ hx], fun y a b => by rw [q3 y a b, bp_s1o _ _ _ _ (by decide)], by rw [q4, bp_s1o _ _ _ _ (by decide)], q5, fun i hi => by rw [q6 i (by omega), bp_s1k _ _ _ _ (by omega)], fun i h1 h2 => ?_⟩
    · rw [bm_M_remember_L2, if_neg (ge16 (by omega))]
      simp only [bp_git (in_16 (show k < 16 by omega)), tk, bm_M_remember_L49, bp_nM, bp_nI, bp_inc]
      rw [← q1, hv]
      by_cases hz : m.1 6 k = 0
      · rw [if_pos hz, if_pos hz]
      · rw [if_neg hz, if_neg hz]
    · by_cases he : i = k
      · subst he
        rw [q6 i (by omega), bp_s1e, hv]
      · rw [q7 i (by omega) h2]
        simp only [bp_s1o _ _ _ _ (show (6 : Nat) ≠ 12 by decide), bp_s1o _ _ _ _ (show (8 : Nat) ≠ 12 by decide), bp_s1o _ _ _ _ (show (9 : Nat) ≠ 12 by decide)]
/-- finish against edges and remember -/
theorem z_finish (N : Nat) (hN : 4000 ≤ N) {q l : Nat} (hq : isRO q) (hl : isRO l) (hne : q ≠ l) {c m : bp_M} (hcq : c.2 3 6 = q) (hcl : c.2 3 2 = l) (hQ : c.1 3 10 = m.1 0 19) (hQ2 : jr 0 11 (m.1 0 19)) (hE : zE c m) (hJ : ∀ i, i < 16 → zJ q i c m) : ∃ c1 m1 m2, bc_PD_finish N c = some c1 ∧ bm_M_edges N m = some m1 ∧ bm_M_remember N m1 = some m2 ∧ zE c1 m2 ∧ jL c1 m2 ∧ (∀ x, x ≠ 34 → x ≠ q → ∀ y, c1.1 x y = c.1 x y) ∧ (∀ y, y ≠ 5 → c1.1 q y = c.1 q y) ∧ (∀ x, x ≠ 3 → ∀ y, c1.2 x y = c.2 x y) ∧ (∀ x, x ≠ 0 → x ≠ 5 → x ≠ 12 → ∀ y, m2.1 x y = m.1 x y) ∧ (∀ y, y ≠ 30 → y ≠ 32 → y ≠ 33 → m2.1 0 y = m.1 0 y) := by
  obtain ⟨hq1, hq2⟩ := id hq
  obtain ⟨Q, -, hQ11, hQe⟩ := hQ2
  obtain ⟨c1, m1, s1, s2, s3, s4, s5⟩ := z_smooth N hN hq hQ11 16 0 N N c (bp_sI m 0 30 0) (by omega) (by omega) (by omega) (fun i hi => by rw [bp_s1o _ _ _ _ (by decide)]; exact hE i hi) (by rw [bp_s1k _ _ _ _ (by decide)]; exact hQe) (fun i hi => by
    unfold zJ
    simp only [bp_s1o _ _ _ _ (show (6 : Nat) ≠ 0 by decide), bp_s1o _ _ _ _ (show (7 : Nat) ≠ 0 by decide), bp_s1o _ _ _ _ (show (8 : Nat) ≠ 0 by decide), bp_s1o _ _ _ _ (show (9 : Nat) ≠ 0 by decide), bp_s1o _ _ _ _ (show (10 : Nat) ≠ 0 by decide)]
    exact hJ i hi)
  obtain ⟨m2, r1, r2, r3, r4, r5, -, r7⟩ := m_rem N 16 0 N m1 (by omega) (by omega)
  have hS : bc_EF_smooth N 34 q (c.1 3 10) c = some (m1.1 0 30, c1) := by
    rw [bp_s1e] at s1
    rw [hQ, hQe]
    exact s1
  have M1 : ∀ x, x ≠ 0 → x ≠ 5 → ∀ y, m1.1 x y = m.1 x y := fun x x0 hx y => by rw [s4.1 x x0 hx, bp_s1o _ _ _ _ x0]
  have c13 : c1.2 = c.2 := s3.1
  refine ⟨bp_sR (bp_sR (bp_sI c1 q 5 (m1.1 0 30)) 3 2 q) 3 6 l, m1, m2, ?_, ?_, r1, ?_, ?_, ?_, ?_, ?_, ?_, ?_⟩
  · simp only [bc_PD_finish, bp_nN, hcq, bp_gt hq, hS, bp_cI, bp_nM, bp_s2, c13, hcl, bp_gt hl]
  · simp only [bm_M_edges, bp_nM]
    exact s2
  · intro i hi
    rw [bp_r1, bp_r1, bp_s1o _ _ _ _ (by omega), r2 5 (by decide) (by decide)]
    exact s5 i hi
  · have e2 : (bp_sR (bp_sR (bp_sI c1 q 5 (m1.1 0 30)) 3 2 q) 3 6 l).2 3 2 = q := by
      rw [bp_r2, if_neg (fun e => by have := e.2; omega), bp_r2, if_pos ⟨rfl, rfl⟩]
    have e6 : (bp_sR (bp_sR (bp_sI c1 q 5 (m1.1 0 30)) 3 2 q) 3 6 l).2 3 6 = l := by
      rw [bp_r2, if_pos ⟨rfl, rfl⟩]
    unfold jL
    rw [e2, e6, bp_r1, bp_r1]
    refine ⟨hq, hl, fun e => hne e.symm, ?_, fun n hn => ?_⟩
    · rw [bp_s1e, r5, if_neg bp_10, r4]
    · have o1 : ∀ o, 5 * q - 16 ≤ o → o ≤ 5 * q - 12 → (bp_sI c1 q 5 (m1.1 0 30)).1 o n = c.1 o n := fun o a b => by rw [bp_s1o _ _ _ _ (by omega), s3.2 _ (by simp; omega)]
      rw [o1 _ (by omega) (by omega), o1 _ (by omega) (by omega), o1 _ (by omega) (by omega), r7 n (by omega) hn, M1 6 (by decide) (by decide), M1 8 (by decide) (by decide), M1 9 (by decide) (by decide)]
      obtain ⟨J1, -, -, -, J5, -, J7, -⟩ := hJ n hn
      rcases J1 with ⟨a, b⟩ | ⟨a, b⟩
      · rw [a, b, if_neg bp_10, if_pos rfl]
      · rw [a, b, if_pos rfl, if_neg bp_10, J5, J7]
  · intro x a b y
    rw [bp_r1, bp_r1, bp_s1o _ _ _ _ b, s3.2 x (by simpa using a)]
  · intro y hy
    rw [bp_r1, bp_r1, bp_s1k _ _ _ _ hy, s3.2 q (by simp; omega)]
  · intro x hx y
    rw [bp_r2, if_neg (fun e => hx e.1), bp_r2, if_neg (fun e => hx e.1), bp_s2, c13]
  · intro x x0 x5 x12 y
    rw [r2 x x0 x12, M1 x x0 x5]
  · intro y a b d
    rw [r3 y b d, s4.2 y a, bp_s1k _ _ _ _ a]

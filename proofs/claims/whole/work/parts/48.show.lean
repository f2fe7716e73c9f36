/-- the buffer, h pictures held -/
def bQ (h : Nat) (c m : bp_M) : Prop := h ≤ 4 ∧ c.1 4 1 = Int32.ofNat h ∧ m.1 0 34 = Int32.ofNat h ∧ jQ c m h ∧ jT c
theorem bQ.pi {h : Nat} {c m : bp_M} (H : bQ h c m) {k : Nat} (hk : k < 4) : isPI (c.2 40 k) := by
  have := H.2.2.2.2.1 k hk
  exact ⟨by omega, by omega⟩
theorem b_firstl (N : Nat) {h : Nat} {c m : bp_M} (H : bQ h c m) : ∀ (k i n n2 : Nat) (x : Int32), i + k = h → k < n → k < n2 → (x = -1 ∨ ∃ b, b < h ∧ x = Int32.ofNat b) → ∃ r, bc_PB_leastWaiting_L4 N n x (Int32.ofNat i) c = some (r, c) ∧ bm_M_first_L4 N n2 x (Int32.ofNat i) m = some (r, m) ∧ (r = -1 ∨ ∃ b, b < h ∧ r = Int32.ofNat b) := by
  obtain ⟨h4, hc, hm, hQ, hT⟩ := id H
  intro k
  induction k with
  | zero =>
    intro i n n2 x hi hn hn2 hx
    obtain ⟨n, rfl⟩ := Nat.exists_eq_succ_of_ne_zero (by omega : n ≠ 0)
    obtain ⟨n2, rfl⟩ := Nat.exists_eq_succ_of_ne_zero (by omega : n2 ≠ 0)
    have e0 : Int32.ofNat h ≤ Int32.ofNat i := (bp_le (by omega) (by omega)).mpr (by omega)
    refine ⟨x, ?_, ?_, hx⟩
    · rw [bc_PB_leastWaiting_L4, hc, if_pos e0]; rfl
    · rw [bm_M_first_L4, hm, if_pos e0]; rfl
  | succ k ih =>
    intro i n n2 x hi hn hn2 hx
    obtain ⟨n, rfl⟩ := Nat.exists_eq_succ_of_ne_zero (by omega : n ≠ 0)
    obtain ⟨n2, rfl⟩ := Nat.exists_eq_succ_of_ne_zero (by omega : n2 ≠ 0)
    have e0 : ¬ Int32.ofNat h ≤ Int32.ofNat i := fun e => by have := (bp_le (by omega) (by omega)).mp e; omega
    have i4 : vp_in (Int32.ofNat i) 4 := bp_in (by omega) (by omega)
    have ti := bp_tn (show i < 2147483648 by omega)
    have pI := H.pi (show i < 4 by omega)
    obtain ⟨q1, -, -, -, q5, -⟩ := hQ i (by omega)
    rw [bc_PB_leastWaiting_L4, bm_M_first_L4, hc, hm, if_neg e0, if_neg e0, bp_git i4, bp_git i4, ti]
    simp only [bp_nN, bp_gt pI, q5]
    obtain ⟨r1, s1, s2, s3⟩ := ih (i + 1) n n2 x (by omega) (by omega) (by omega) hx
    obtain ⟨r2, t1, t2, t3⟩ := ih (i + 1) n n2 (Int32.ofNat i) (by omega) (by omega) (by omega) (Or.inr ⟨i, by omega, rfl⟩)
    by_cases hw : m.1 16 i = 0
    · refine ⟨r1, ?_, ?_, s3⟩
      · simp only [hw, if_true, bc_PB_leastWaiting_L52, bp_nI, bp_inc]; exact s1
      · simp only [hw, if_true, bp_git i4, bm_M_first_L42, bp_nI, bp_inc]; exact s2
    · rcases hx with rfl | ⟨b, hb, rfl⟩
      · have en : (-1 : Int32) < 0 := by decide
        refine ⟨r2, ?_, ?_, t3⟩
        · simp only [hw, if_false, if_true, bc_PB_leastWaiting_L50, bc_PB_leastWaiting_L52, bp_nI, bp_inc]; exact t1
        · simp only [hw, if_false, bp_git i4, if_pos en, bm_M_first_L40, bm_M_first_L42, bp_nI, bp_inc]; exact t2
      · have e1 : ¬ Int32.ofNat b = -1 := fun e => by
          have h1 : (-1 : Int32) < 0 := by decide
          rw [← e] at h1
          exact bp_nneg (by omega) h1
        have e2 : ¬ Int32.ofNat b < 0 := bp_nneg (by omega)
        have b4 : vp_in (Int32.ofNat b) 4 := bp_in (by omega) (by omega)
        have tb := bp_tn (show b < 2147483648 by omega)
        have pB := H.pi (show b < 4 by omega)
        obtain ⟨o1, -⟩ := hQ b hb
        by_cases ho : m.1 14 b ≤ m.1 14 i
        · refine ⟨r1, ?_, ?_, s3⟩
          · simp only [hw, if_false, e1, bp_git i4, ti, bp_gt pI, bp_git b4, tb, bp_gt pB, o1, q1, if_pos ho, bc_PB_leastWaiting_L52, bp_nI, bp_inc]; exact s1
          · simp only [hw, if_false, if_neg e2, bp_git i4, bp_git b4, tb, if_pos ho, bm_M_first_L42, bp_nI, bp_inc]; exact s2
        · refine ⟨r2, ?_, ?_, t3⟩
          · simp only [hw, if_false, e1, bp_git i4, ti, bp_gt pI, bp_git b4, tb, bp_gt pB, o1, q1, if_neg ho, bc_PB_leastWaiting_L50, bc_PB_leastWaiting_L52, bp_nI, bp_inc]; exact t1
          · simp only [hw, if_false, if_neg e2, bp_git i4, bp_git b4, tb, if_neg ho, bm_M_first_L40, bm_M_first_L42, bp_nI, bp_inc]; exact t2
theorem b_first (N : Nat) (hN : 4000 ≤ N) {h : Nat} {c m : bp_M} (H : bQ h c m) : ∃ r, bc_PB_leastWaiting N c = some (r, c) ∧ bm_M_first N m = some (r, m) ∧ (r = -1 ∨ ∃ b, b < h ∧ r = Int32.ofNat b) := by
  have h4 := H.1
  exact b_firstl N H h 0 N N (-1) (by omega) (by omega) (by omega) (Or.inl rfl)
theorem m_showl (N : Nat) (a : Int32) : ∀ (k n : Nat) (m : bp_M), k < n → k ≤ 7 → ∃ m1, bm_M_show_L3 N a n (Int32.ofNat k) m = some m1 ∧ m1.2 = m.2 ∧ m1.1 17 0 = a ∧ (∀ j, 1 ≤ j → j ≤ k → m1.1 17 j = m.1 17 (j - 1)) ∧ (∀ j, k < j → m1.1 17 j = m.1 17 j) ∧ m1.1 0 39 = m.1 0 39 + 1 ∧ (∀ y, y ≠ 39 → m1.1 0 y = m.1 0 y) ∧ (∀ x, x ≠ 0 → x ≠ 17 → ∀ y, m1.1 x y = m.1 x y) := by
  intro k
  induction k with
  | zero =>
    intro n m hn _
    obtain ⟨n, rfl⟩ := Nat.exists_eq_succ_of_ne_zero (by omega : n ≠ 0)
    have e0 : Int32.ofNat 0 ≤ 0 := by decide
    have i0 : vp_in 0 8 := by unfold vp_in; decide
    have t0 : (0 : Int32).toNatClampNeg = 0 := rfl
    refine ⟨bp_sI (bp_sI m 17 0 a) 0 39 (m.1 0 39 + 1), ?_, rfl, ?_, fun j h1 h2 => by omega, fun j hj => ?_, ?_, fun y hy => ?_, fun x hx hx2 y => ?_⟩
    · have e1 : (bp_sI m 17 0 a).1 0 39 = m.1 0 39 := bp_s1o _ _ _ _ (by decide) _
      rw [bm_M_show_L3, if_pos e0]
      simp only [bm_M_show_L27, bp_git i0, t0, bp_nM, e1]
    · rw [bp_s1o _ _ _ _ (by decide), bp_s1e]
    · rw [bp_s1o _ _ _ _ (by decide), bp_s1k _ _ _ _ (by omega)]
    · rw [bp_s1e]
    · rw [bp_s1k _ _ _ _ hy, bp_s1o _ _ _ _ (by decide)]
    · rw [bp_s1o _ _ _ _ hx, bp_s1o _ _ _ _ hx2]
  | succ k ih =>
    intro n m hn hk
    obtain ⟨n, rfl⟩ := Nat.exists_eq_succ_of_ne_zero (by omega : n ≠ 0)
    have e0 : ¬ Int32.ofNat (k + 1) ≤ 0 := bp_nl0 (by omega) (by omega)
    have e1 : Int32.ofNat (k + 1) - 1 = Int32.ofNat k := bp_sub (a := k + 1) (b := 1) (by omega)
    have i0 : vp_in (Int32.ofNat k) 8 := bp_in (by omega) (by omega)
    have i1 : vp_in (Int32.ofNat (k + 1)) 8 := bp_in (by omega) (by omega)
    obtain ⟨m1, q1, q2, q3, q4, q5, q6, q7, q8⟩ := ih n (bp_sI m 17 (k + 1) (m.1 17 k)) (by omega) (by omega)
    refine ⟨m1, ?_, q2, q3, fun j h1 h2 => ?_, fun j hj => ?_, ?_, fun y hy => ?_, fun x hx hx2 y => ?_⟩
    · rw [bm_M_show_L3, if_neg e0]
      simp only [e1, bp_git i0, bp_git i1, bp_tn (show k < 2147483648 by omega), bp_tn (show k + 1 < 2147483648 by omega), bp_nM, bp_nI, bp_dec]
      exact q1
    · by_cases he : j = k + 1
      · subst he
        rw [q5 _ (by omega), bp_s1e]
        rfl
      · rw [q4 j h1 (by omega), bp_s1k _ _ _ _ (by omega)]
    · rw [q5 j (by omega), bp_s1k _ _ _ _ (by omega)]
    · rw [q6, bp_s1o _ _ _ _ (by decide)]
    · rw [q7 y hy, bp_s1o _ _ _ _ (by decide)]
    · rw [q8 x hx hx2, bp_s1o _ _ _ _ hx2]
theorem c_show (N : Nat) {n q : Nat} {c : bp_M} (hn : n < 2147483000) (hq : isPI q) (hc : c.1 4 5 = Int32.ofNat n) : ∃ c1, bc_PB_show N q c = some c1 ∧ c1.2 = c.2 ∧ c1.1 4 5 = Int32.ofNat (n + 1) ∧ c1.1 21 (n % 8) = c.1 q 1 ∧ (∀ j, j ≠ n % 8 → c1.1 21 j = c.1 21 j) ∧ (∀ i, i < 256 → c1.1 20 i = c.1 (q + 24) i) ∧ (∀ y, y ≠ 5 → c1.1 4 y = c.1 4 y) ∧ (∀ x, x ≠ 4 → x ≠ 20 → x ≠ 21 → ∀ y, c1.1 x y = c.1 x y) := by
  obtain ⟨hq1, hq2⟩ := hq
  have t0 : (0 : Int32).toNatClampNeg = 0 := rfl
  have t1 : (256 : Int32).toNatClampNeg = 256 := by decide
  have hcp : bp_cp 0 0 256 256 256 := by decide
  have hC1 : ∀ x, x ≠ 20 → ∀ y, (bp_sC c (q + 24) 20 0 0 256).1 x y = c.1 x y := fun x hx y => by
    show (if x = 20 then _ else c.1 x) y = _
    rw [if_neg hx]
  have hC2 : ∀ i, i < 256 → (bp_sC c (q + 24) 20 0 0 256).1 20 i = c.1 (q + 24) i := fun i hi => by
    show (if (20 : Nat) = 20 then va_cpy (c.1 (q + 24)) (c.1 20) 0 0 256 else c.1 20) i = _
    rw [if_pos rfl]
    simp [va_cpy, hi]
  have e1 : (bp_sC c (q + 24) 20 0 0 256).1 4 5 = Int32.ofNat n := by rw [hC1 4 (by decide)]; exact hc
  have e2 : (Int32.ofNat n - Int32.ofNat n / 8 * 8) = Int32.ofNat (n % 8) := bp_rem (b := 8) (by omega) (by omega)
  have h8 : n % 8 < 8 := Nat.mod_lt _ (by omega)
  have i8 : vp_in (Int32.ofNat (n % 8)) 8 := bp_in (by omega) h8
  have e3 : ∀ v, (bp_sI (bp_sC c (q + 24) 20 0 0 256) 21 (n % 8) v).1 4 5 = Int32.ofNat n := fun v => by rw [bp_s1o _ _ _ _ (by decide)]; exact e1
  refine ⟨bp_sI (bp_sI (bp_sC c (q + 24) 20 0 0 256) 21 (n % 8) (c.1 q 1)) 4 5 (Int32.ofNat (n + 1)), ?_, rfl, bp_s1e _ _ _ _, ?_, fun j hj => ?_, fun i hi => ?_, fun y hy => ?_, fun x h1 h2 h3 y => ?_⟩
  · simp only [bc_PB_show, bp_gt hcp, t0, t1, bp_nM, e1, e2, bp_git i8, bp_tn (show n % 8 < 2147483648 by omega), hC1 q (by omega), e3, bp_inc]
  · rw [bp_s1o _ _ _ _ (by decide), bp_s1e]
  · rw [bp_s1o _ _ _ _ (by decide), bp_s1k _ _ _ _ hj, hC1 21 (by decide)]
  · rw [bp_s1o _ _ _ _ (by decide), bp_s1o _ _ _ _ (by decide), hC2 i hi]
  · rw [bp_s1k _ _ _ _ hy, bp_s1o _ _ _ _ (by decide), hC1 4 (by decide)]
  · rw [bp_s1o _ _ _ _ h1, bp_s1o _ _ _ _ h3, hC1 x h2]
/-- a picture shown on both sides: its order, then its samples -/
theorem b_show {S n : Nat} {c m c1 m1 : bp_M} {o : Int32} (hs : c.1 4 5 = Int32.ofNat n) (hm : m.1 0 39 = Int32.ofNat n) (hn : n ≤ S) (hr : ∀ j, j < 8 → j < n → c.1 21 ((n - 1 - j) % 8) = m.1 17 j) (a1 : c1.1 4 5 = Int32.ofNat (n + 1)) (a2 : c1.1 21 (n % 8) = o) (a3 : ∀ j, j ≠ n % 8 → c1.1 21 j = c.1 21 j) (b1 : m1.1 0 39 = m.1 0 39 + 1) (b2 : m1.1 17 0 = o) (b3 : ∀ j, 1 ≤ j → j ≤ 7 → m1.1 17 j = m.1 17 (j - 1)) (hsm : ∀ i, i < 256 → c1.1 20 i = m1.1 18 i) : jSS (S + 1) c1 m1 := by
  refine ⟨n + 1, by omega, a1, by rw [b1, hm, bp_inc], fun j hj hjn => ?_, fun _ => hsm⟩
  by_cases h0 : j = 0
  · subst h0
    rw [b2, ← a2]
    rfl
  · have e : n + 1 - 1 - j = n - 1 - (j - 1) := by omega
    rw [b3 j (by omega) (by omega), a3 _ (by omega), e]
    exact hr (j - 1) (by omega) (by omega)
theorem m_copy (N : Nat) {k : Nat} (hk : k < 4) : ∀ (j i n : Nat) (m : bp_M), i + j = 256 → j < n → ∃ m1, bm_M_showFirst_L29 N n (Int32.ofNat k) (Int32.ofNat i) m = some m1 ∧ m1.2 = m.2 ∧ (∀ x, x ≠ 18 → ∀ y, m1.1 x y = m.1 x y) ∧ (∀ y, y < i → m1.1 18 y = m.1 18 y) ∧ ∀ y, i ≤ y → y < 256 → m1.1 18 y = m.1 13 (256 * k + y) := by
  intro j
  induction j with
  | zero =>
    intro i n m hi hn
    obtain ⟨n, rfl⟩ := Nat.exists_eq_succ_of_ne_zero (by omega : n ≠ 0)
    obtain rfl : i = 256 := by omega
    have e0 : (256 : Int32) ≤ Int32.ofNat 256 := by decide
    refine ⟨m, ?_, rfl, fun _ _ _ => rfl, fun _ _ => rfl, fun y h1 h2 => by omega⟩
    rw [bm_M_showFirst_L29, if_pos e0]
    rfl
  | succ j ih =>
    intro i n m hi hn
    obtain ⟨n, rfl⟩ := Nat.exists_eq_succ_of_ne_zero (by omega : n ≠ 0)
    have e0 : ¬ (256 : Int32) ≤ Int32.ofNat i := fun e => by have := (bp_le (a := 256) (by omega) (by omega)).mp e; omega
    have e1 : (256 * Int32.ofNat k + Int32.ofNat i) = Int32.ofNat (256 * k + i) := by rw [show (256 : Int32) = Int32.ofNat 256 from rfl, bp_mul, bp_add]
    have i1 : vp_in (Int32.ofNat (256 * k + i)) 1024 := bp_in (by omega) (by omega)
    have i2 : vp_in (Int32.ofNat i) 256 := bp_in (by omega) (by omega)
    obtain ⟨m1, q1, q2, q3, q4, q5⟩ := ih (i + 1) n (bp_sI m 18 i (m.1 13 (256 * k + i))) (by omega) (by omega)
    refine ⟨m1, ?_, q2, fun x hx y => ?_, fun y hy => ?_, fun y h1 h2 => ?_⟩
    · rw [bm_M_showFirst_L29, if_neg e0]
      simp only [e1, bp_git i1, bp_git i2, bp_tn (show 256 * k + i < 2147483648 by omega), bp_tn (show i < 2147483648 by omega), bp_nM, bp_nI, bp_inc]
      exact q1
    · rw [q3 x hx, bp_s1o _ _ _ _ hx]
    · rw [q4 y (by omega), bp_s1k _ _ _ _ (by omega)]
    · by_cases he : y = i
      · subst he
        rw [q4 y (by omega), bp_s1e]
      · rw [q5 y (by omega) h2, bp_s1o _ _ _ _ (by decide)]
/-- what showing leaves: the class's cells 4 (slot 5), 20, 21 and the pictures' waiting; the reference's 0 (slot 39), 16, 17, 18 -/
def sF (c c1 : bp_M) : Prop := c1.2 = c.2 ∧ (∀ y, y ≠ 5 → c1.1 4 y = c.1 4 y) ∧ (∀ x, x ≠ 4 → x ≠ 20 → x ≠ 21 → ¬ (11 ≤ x ∧ x < 15) → ∀ y, c1.1 x y = c.1 x y)
def sG (m m1 : bp_M) : Prop := m1.2 = m.2 ∧ (∀ y, y ≠ 39 → m1.1 0 y = m.1 0 y) ∧ (∀ x, x ≠ 0 → x ≠ 16 → x ≠ 17 → x ≠ 18 → ∀ y, m1.1 x y = m.1 x y)
theorem sF.rf (c : bp_M) : sF c c := ⟨rfl, fun _ _ => rfl, fun _ _ _ _ _ _ => rfl⟩
theorem sG.rf (m : bp_M) : sG m m := ⟨rfl, fun _ _ => rfl, fun _ _ _ _ _ _ => rfl⟩
theorem sF.tr {a b c : bp_M} (h : sF a b) (g : sF b c) : sF a c := ⟨g.1.trans h.1, fun y hy => (g.2.1 y hy).trans (h.2.1 y hy), fun x a1 a2 a3 a4 y => (g.2.2 x a1 a2 a3 a4 y).trans (h.2.2 x a1 a2 a3 a4 y)⟩
theorem sG.tr {a b c : bp_M} (h : sG a b) (g : sG b c) : sG a c := ⟨g.1.trans h.1, fun y hy => (g.2.1 y hy).trans (h.2.1 y hy), fun x a1 a2 a3 a4 y => (g.2.2 x a1 a2 a3 a4 y).trans (h.2.2 x a1 a2 a3 a4 y)⟩
theorem b_least (N : Nat) (hN : 4000 ≤ N) {h S : Nat} (hS : S ≤ 2000000000) {c m : bp_M} (H : bQ h c m) (hs : jSS S c m) : ∃ c1 m1, bc_PB_showLeast N c = some c1 ∧ bm_M_showFirst N m = some m1 ∧ bQ h c1 m1 ∧ jSS (S + 1) c1 m1 ∧ sF c c1 ∧ sG m m1 := by
  obtain ⟨r, q1, q2, q3⟩ := b_first N hN H
  obtain ⟨h4, hc, hm, hQ, hT⟩ := id H
  rcases q3 with rfl | ⟨b, hb, rfl⟩
  · have e : ¬ (0 : Int32) ≤ -1 := by decide
    exact ⟨c, m, by simp only [bc_PB_showLeast, q1, bp_cI, if_true, bc_PB_showLeast_L30], by simp only [bm_M_showFirst, q2, bp_cI, if_neg e], H, hs.up (by omega), sF.rf c, sG.rf m⟩
  · obtain ⟨n, hn, s1, s2, s3, s4⟩ := hs
    have e1 : ¬ Int32.ofNat b = -1 := fun e => by
      have h1 : (-1 : Int32) < 0 := by decide
      rw [← e] at h1
      exact bp_nneg (by omega) h1
    have e2 : (0 : Int32) ≤ Int32.ofNat b := bp_nlt (bp_nneg (by omega))
    have b4 : vp_in (Int32.ofNat b) 4 := bp_in (by omega) (by omega)
    have tb := bp_tn (show b < 2147483648 by omega)
    have pB := H.pi (show b < 4 by omega)
    have hTb := hT.1 b (by omega)
    obtain ⟨o1, o2, o3, o4, o5, o6, o7⟩ := hQ b hb
    obtain ⟨c1, u1, u2, u3, u4, u5, u6, u7, u8⟩ := c_show N (n := n) (by omega) pB s1
    obtain ⟨m1, v1, v2, v3, v4, v5, v6, v7, v8⟩ := m_showl N (m.1 14 b) 7 N (bp_sI m 16 b 0) (by omega) (by omega)
    obtain ⟨m2, w1, w2, w3, w4, w5⟩ := m_copy N (k := b) (by omega) 256 0 N m1 (by omega) (by omega)
    have pB1 : isPI (c1.2 40 b) := by rw [u2]; exact pB
    have v1' : bm_M_show N (m.1 14 b) (bp_sI m 16 b 0) = some m1 := v1
    have w1' : bm_M_showFirst_L29 N N (Int32.ofNat b) 0 m1 = some m2 := w1
    have fc : ∀ x, x ≠ 4 → x ≠ 20 → x ≠ 21 → x ≠ c.2 40 b → ∀ y, (bp_sI c1 (c.2 40 b) 3 0).1 x y = c.1 x y := fun x a1 a2 a3 a4 y => by rw [bp_s1o _ _ _ _ a4, u8 x a1 a2 a3]
    have fm : ∀ x, x ≠ 0 → x ≠ 16 → x ≠ 17 → x ≠ 18 → ∀ y, m2.1 x y = m.1 x y := fun x a1 a2 a3 a4 y => by rw [w3 x a4, v8 x a1 a3, bp_s1o _ _ _ _ a2]
    have f16 : ∀ y, m2.1 16 y = if y = b then 0 else m.1 16 y := fun y => by
      rw [w3 16 (by decide), v8 16 (by decide) (by decide), bp_s1]
      simp
    refine ⟨bp_sI c1 (c.2 40 b) 3 0, m2, ?_, ?_, ⟨h4, ?_, ?_, fun k hk => ?_, jT_of hT (fun _ => by rw [bp_s2, u2]) (fun _ => by rw [bp_s2, u2])⟩, ?_, ⟨u2, fun y hy => ?_, fun x a1 a2 a3 a4 y => ?_⟩, ⟨?_, fun y hy => ?_, fun x a1 a2 a3 a4 y => fm x a1 a2 a3 a4 y⟩⟩
    · simp only [bc_PB_showLeast, q1, bp_cI, e1, if_false, bp_git b4, tb, bp_nN, bp_gt pB, u1, bp_cV, bp_gt pB1, bp_g, true_or, if_true, bp_nM, bc_PB_showLeast_L30]
      rw [u2, if_pos pB, if_pos pB]
    · have e5 : (bp_sI m 16 b 0).1 14 b = m.1 14 b := bp_s1o _ _ _ _ (by decide) _
      simp only [bm_M_showFirst, q2, bp_cI, if_pos e2, bp_git b4, tb, bp_g, true_or, if_true, bp_nM, e5, v1', bp_cV]
      exact w1'
    · rw [bp_s1o _ _ _ _ (by omega), u7 1 (by decide)]; exact hc
    · rw [w3 0 (by decide), v7 34 (by decide), bp_s1o _ _ _ _ (by decide)]; exact hm
    · have hTk := hT.1 k (by omega)
      have hq := hQ k hk
      rw [show (bp_sI c1 (c.2 40 b) 3 0).2 = c.2 from u2, fm 14 (by decide) (by decide) (by decide) (by decide), fm 15 (by decide) (by decide) (by decide) (by decide), f16]
      have g24 : ∀ i, (bp_sI c1 (c.2 40 b) 3 0).1 (c.2 40 k + 24) i = c.1 (c.2 40 k + 24) i := fun i => fc _ (by omega) (by omega) (by omega) (by omega) i
      have gm : ∀ i, m2.1 13 i = m.1 13 i := fun i => fm 13 (by decide) (by decide) (by decide) (by decide) i
      simp only [g24, gm]
      by_cases he : k = b
      · subst he
        rw [bp_s1k _ _ _ _ (by decide), bp_s1k _ _ _ _ (by decide), bp_s1e, if_pos rfl, u8 _ (by omega) (by omega) (by omega), u8 _ (by omega) (by omega) (by omega)]
        exact ⟨o1, o2, o3, o4, rfl, Or.inl rfl, o7⟩
      · have hne : c.2 40 k ≠ c.2 40 b := fun e => he (hT.2.1 k (by omega) b (by omega) e)
        rw [fc _ (by omega) (by omega) (by omega) hne, fc _ (by omega) (by omega) (by omega) hne, fc _ (by omega) (by omega) (by omega) hne, if_neg he]
        exact hq
    · refine b_show (o := m.1 14 b) (c := c) (m := m) s1 s2 hn s3 ?_ ?_ (fun j hj => ?_) ?_ ?_ (fun j h1 h2 => ?_) (fun i hi => ?_)
      · rw [bp_s1o _ _ _ _ (by omega)]; exact u3
      · rw [bp_s1o _ _ _ _ (by omega), u4]; exact o1
      · rw [bp_s1o _ _ _ _ (by omega)]; exact u5 j hj
      · rw [w3 0 (by decide), v6, bp_s1o _ _ _ _ (by decide)]
      · rw [w3 17 (by decide)]; exact v3
      · rw [w3 17 (by decide), v4 j h1 h2, bp_s1o _ _ _ _ (by decide)]
      · rw [bp_s1o _ _ _ _ (by omega), u6 i hi, w5 i (by omega) hi, v8 13 (by decide) (by decide), bp_s1o _ _ _ _ (by decide)]
        exact (o7 i hi).1
    · rw [bp_s1o _ _ _ _ (by omega)]; exact u7 y hy
    · exact fc x a1 a2 a3 (by omega) y
    · rw [w2, v2]; rfl
    · rw [w3 0 (by decide), v7 y hy, bp_s1o _ _ _ _ (by decide)]
theorem b_alll (N : Nat) (hN : 4000 ≤ N) {h : Nat} : ∀ (k i n n2 S : Nat) (c m : bp_M), i + k = 4 → k < n → k < n2 → S + k ≤ 2000000000 → bQ h c m → jSS S c m → ∃ c1 m1, bc_PB_showAll_L2 N n (Int32.ofNat i) c = some (bp_sI c1 4 1 0) ∧ bm_M_showAll_L2 N n2 (Int32.ofNat i) m = some (bp_sI m1 0 34 0) ∧ bQ h c1 m1 ∧ jSS (S + k) c1 m1 ∧ sF c c1 ∧ sG m m1 := by
  intro k
  induction k with
  | zero =>
    intro i n n2 S c m hi hn hn2 hS H hs
    obtain ⟨n, rfl⟩ := Nat.exists_eq_succ_of_ne_zero (by omega : n ≠ 0)
    obtain ⟨n2, rfl⟩ := Nat.exists_eq_succ_of_ne_zero (by omega : n2 ≠ 0)
    obtain rfl : i = 4 := by omega
    have e : (4 : Int32) ≤ Int32.ofNat 4 := by decide
    refine ⟨c, m, ?_, ?_, H, hs, sF.rf c, sG.rf m⟩
    · rw [bc_PB_showAll_L2, if_pos e]; rfl
    · rw [bm_M_showAll_L2, if_pos e]; rfl
  | succ k ih =>
    intro i n n2 S c m hi hn hn2 hS H hs
    obtain ⟨n, rfl⟩ := Nat.exists_eq_succ_of_ne_zero (by omega : n ≠ 0)
    obtain ⟨n2, rfl⟩ := Nat.exists_eq_succ_of_ne_zero (by omega : n2 ≠ 0)
    have e : ¬ (4 : Int32) ≤ Int32.ofNat i := fun e => by have := (bp_le (a := 4) (by omega) (by omega)).mp e; omega
    obtain ⟨c1, m1, q1, q2, q3, q4, q5, q6⟩ := b_least N hN (by omega) H hs
    obtain ⟨c2, m2, p1, p2, p3, p4, p5, p6⟩ := ih (i + 1) n n2 (S + 1) c1 m1 (by omega) (by omega) (by omega) (by omega) q3 q4
    refine ⟨c2, m2, ?_, ?_, p3, by rw [show S + (k + 1) = S + 1 + k by omega]; exact p4, q5.tr p5, q6.tr p6⟩
    · rw [bc_PB_showAll_L2, if_neg e, q1]
      simp only [bp_cV, bp_nI, bp_inc]
      exact p1
    · rw [bm_M_showAll_L2, if_neg e, q2]
      simp only [bp_cV, bp_nI, bp_inc]
      exact p2
theorem b_all (N : Nat) (hN : 4000 ≤ N) {h S : Nat} {c m : bp_M} (hS : S ≤ 1000000000) (H : bQ h c m) (hs : jSS S c m) : ∃ c1 m1, bc_PB_showAll N c = some (bp_sI c1 4 1 0) ∧ bm_M_showAll N m = some (bp_sI m1 0 34 0) ∧ bQ h c1 m1 ∧ jSS (S + 4) c1 m1 ∧ sF c c1 ∧ sG m m1 :=
  b_alll N hN 4 0 N N S c m (by omega) (by omega) (by omega) (by omega) H hs

/-! The pure functions of both sides: words, the relation, the calls that only look. -/
def jb (v : Int32) : Prop := v = 0 ∨ v = 1
def jr (a b : Nat) (v : Int32) : Prop := ∃ n : Nat, a ≤ n ∧ n ≤ b ∧ v = Int32.ofNat n
abbrev jy (v : Int32) : Prop := jr 0 255 v
theorem bp_toInt {n : Nat} (h : n < 2147483648) : (Int32.ofNat n).toInt = n := Int32.toInt_ofNat_of_lt h
theorem bp_lt {a b : Nat} (ha : a < 2147483648) (hb : b < 2147483648) : Int32.ofNat a < Int32.ofNat b ↔ a < b := by
  rw [Int32.lt_iff_toInt_lt, bp_toInt ha, bp_toInt hb]
  omega
theorem bp_le {a b : Nat} (ha : a < 2147483648) (hb : b < 2147483648) : Int32.ofNat a ≤ Int32.ofNat b ↔ a ≤ b := by
  rw [Int32.le_iff_toInt_le, bp_toInt ha, bp_toInt hb]
  omega
theorem bp_eq {a b : Nat} (ha : a < 2147483648) (hb : b < 2147483648) : Int32.ofNat a = Int32.ofNat b ↔ a = b := by
  constructor
  · intro h
    have h2 := congrArg Int32.toInt h
    rw [bp_toInt ha, bp_toInt hb] at h2
    omega
  · intro h
    rw [h]
theorem bp_tn {n : Nat} (h : n < 2147483648) : (Int32.ofNat n).toNatClampNeg = n := Int32.toNatClampNeg_ofNat_of_lt h
theorem bp_nneg {n : Nat} (h : n < 2147483648) : ¬ Int32.ofNat n < 0 := by
  rw [Int32.lt_iff_toInt_lt, bp_toInt h]
  have : (0 : Int32).toInt = 0 := rfl
  omega
theorem bp_in {n k : Nat} (h : n < 2147483648) (hk : n < k) : vp_in (Int32.ofNat n) k := by
  rintro (h1 | h1)
  · exact bp_nneg h h1
  · rw [bp_tn h] at h1
    omega
theorem bp_add (a b : Nat) : Int32.ofNat a + Int32.ofNat b = Int32.ofNat (a + b) := (Int32.ofNat_add _ _).symm
theorem bp_mul (a b : Nat) : Int32.ofNat a * Int32.ofNat b = Int32.ofNat (a * b) := (Int32.ofNat_mul _ _).symm
theorem bp_sub {a b : Nat} (h : b ≤ a) : Int32.ofNat a - Int32.ofNat b = Int32.ofNat (a - b) := by
  have h1 : Int32.ofNat a = Int32.ofNat (a - b) + Int32.ofNat b := by rw [bp_add]; congr 1; omega
  rw [h1, Int32.add_sub_cancel]
theorem bp_ofv {v : Int32} (h : ¬ v < 0) : ∃ n : Nat, n < 2147483648 ∧ v = Int32.ofNat n := by
  rw [Int32.lt_iff_toInt_lt] at h
  have h0 : (0 : Int32).toInt = 0 := rfl
  have h2 : v.toInt < 2147483648 := Int32.toInt_lt v
  refine ⟨v.toInt.toNat, by omega, ?_⟩
  apply Int32.toInt_inj.mp
  rw [bp_toInt (by omega)]
  omega
theorem bp_ofl {v : Int32} {n : Nat} (hn : n < 2147483648) (h : ¬ v < 0) (h1 : v < Int32.ofNat n) : ∃ k : Nat, k < n ∧ v = Int32.ofNat k := by
  obtain ⟨k, hk, rfl⟩ := bp_ofv h
  exact ⟨k, (bp_lt hk hn).mp h1, rfl⟩
theorem bp_nlt {a b : Int32} (h : ¬ a < b) : b ≤ a := by
  rw [Int32.lt_iff_toInt_lt] at h
  rw [Int32.le_iff_toInt_le]
  omega
theorem bp_nle {a b : Int32} (h : ¬ a ≤ b) : b < a := by
  rw [Int32.le_iff_toInt_le] at h
  rw [Int32.lt_iff_toInt_lt]
  omega
theorem bp_gt {α : Type} {c : Prop} [Decidable c] {x : Option α} (h : c) : bp_g c x = x := if_pos h
theorem bp_git {α : Type} {i : Int32} {n : Nat} {x : Option α} (h : vp_in i n) : bp_gi i n x = x := if_neg h
theorem bp_s1 (m : bp_M) (o k : Nat) (v : Int32) (x y : Nat) : (bp_sI m o k v).1 x y = if x = o ∧ y = k then v else m.1 x y := by
  unfold bp_sI upd
  by_cases hx : x = o
  · subst hx
    by_cases hy : y = k <;> simp [hy]
  · simp [hx]
theorem bp_s2 (m : bp_M) (o k : Nat) (v : Int32) : (bp_sI m o k v).2 = m.2 := rfl
theorem bp_r1 (m : bp_M) (o k v : Nat) : (bp_sR m o k v).1 = m.1 := rfl
theorem bp_r2 (m : bp_M) (o k v : Nat) (x y : Nat) : (bp_sR m o k v).2 x y = if x = o ∧ y = k then v else m.2 x y := by
  unfold bp_sR va_up
  by_cases hx : x = o
  · subst hx
    by_cases hy : y = k <;> simp [hy]
  · simp [hx]
def jI (c m : bp_M) : Prop := c.1 0 5 = 0 → c.1 1 4 = 0 ∧ c.1 1 5 = m.1 0 5 ∧ jb (c.1 1 5) ∧ c.1 1 3 = m.1 0 6 ∧ ∃ n : Nat, n ≤ 320 ∧ c.1 1 1 = Int32.ofNat n ∧ m.1 0 4 = Int32.ofNat n ∧ (c.1 1 5 = 0 → n = 0) ∧ (c.1 1 5 = 1 → ∃ z : Nat, z ≤ 2 ∧ z ≤ n ∧ c.1 1 3 = Int32.ofNat z) ∧ ∀ i, i < n → c.1 15 i = m.1 4 i ∧ jy (c.1 15 i)
def jP (c m : bp_M) : Prop := c.1 2 0 = m.1 0 13 ∧ c.1 2 1 = m.1 0 14 ∧ c.1 2 2 = m.1 0 15 ∧ c.1 2 3 = m.1 0 16 ∧ c.1 2 4 = m.1 0 17 ∧ c.1 2 5 = m.1 0 18 ∧ jb (c.1 2 0) ∧ jb (c.1 2 3) ∧ (c.1 2 0 = 1 → jr 1 4 (c.1 2 1) ∧ jr 0 11 (c.1 2 2)) ∧ (c.1 2 3 = 1 → jr 1 4 (c.1 2 4)) ∧ jr 0 11 (c.1 2 5)
def jQ (c m : bp_M) (h : Nat) : Prop := ∀ k, k < h → c.1 (c.2 40 k) 1 = m.1 14 k ∧ jy (m.1 14 k) ∧ c.1 (c.2 40 k) 2 = m.1 15 k ∧ jb (m.1 15 k) ∧ c.1 (c.2 40 k) 3 = m.1 16 k ∧ jb (m.1 16 k) ∧ ∀ i, i < 256 → c.1 (c.2 40 k + 24) i = m.1 13 (256 * k + i) ∧ jy (m.1 13 (256 * k + i))
def jT (c : bp_M) : Prop := (∀ k, k < 4 → 11 ≤ c.2 40 k ∧ c.2 40 k < 15) ∧ (∀ i, i < 4 → ∀ j, j < 4 → c.2 40 i = c.2 40 j → i = j) ∧ ∀ k, k < 4 → isPI (c.2 39 k)
def jB (c m : bp_M) : Prop := ∃ h : Nat, h ≤ 4 ∧ c.1 4 1 = Int32.ofNat h ∧ m.1 0 34 = Int32.ofNat h ∧ (0 < h → c.1 2 3 = 1 ∧ c.1 4 2 = m.1 0 17) ∧ jQ c m h
def jS (k : Nat) (c m : bp_M) : Prop := ∃ n : Nat, n ≤ 4000 * k ∧ c.1 4 5 = Int32.ofNat n ∧ m.1 0 39 = Int32.ofNat n ∧ (∀ j, j < 8 → j < n → c.1 21 ((n - 1 - j) % 8) = m.1 17 j) ∧ (0 < n → ∀ i, i < 256 → c.1 20 i = m.1 18 i)
def jL (c m : bp_M) : Prop := isRO (c.2 3 2) ∧ isRO (c.2 3 6) ∧ c.2 3 6 ≠ c.2 3 2 ∧ c.1 (c.2 3 2) 5 = (if m.1 0 33 = 0 then 0 else m.1 0 32) ∧ ∀ n, n < 16 → m.1 12 n = if c.1 (5 * c.2 3 2 - 16) n = 0 then -1 else 256 * (c.1 (5 * c.2 3 2 - 13) n + 64) + c.1 (5 * c.2 3 2 - 12) n + 64
def jW (c m : bp_M) : Prop := (∀ i, i < 256 → c.1 22 i = m.1 19 i ∧ jy (c.1 22 i)) ∧ ∃ w : Nat, w ≤ 400 ∧ c.1 5 2 = Int32.ofNat w ∧ m.1 0 44 = Int32.ofNat w ∧ ∀ i, i < w → c.1 23 i = m.1 20 i ∧ jy (c.1 23 i)
def jC (m : bp_M) : Prop := ∀ j, j < 16 → m.1 1 j = im_0.1 1 j ∧ m.1 2 j = im_0.1 2 j ∧ m.1 3 j = im_0.1 3 j
def bp_J (k : Nat) (c m : bp_M) : Prop := c.1 0 5 = m.1 0 8 ∧ c.1 0 6 = m.1 0 9 ∧ jI c m ∧ jP c m ∧ jT c ∧ jB c m ∧ jS k c m ∧ jL c m ∧ jW c m ∧ jC m
theorem bp_up (k : Nat) (c m : bp_M) (h : bp_J k c m) : bp_J (k + 1) c m := by
  obtain ⟨h1, h2, h3, h4, h5, h6, ⟨n, hn, h7⟩, h8⟩ := h
  exact ⟨h1, h2, h3, h4, h5, h6, ⟨n, by omega, h7⟩, h8⟩
theorem k_fault (N : Nat) : lk_fault N bp_J := by
  intro k c m _ hJ
  refine ⟨c.1 0 5, c, m, rfl, ?_, bp_up k c m hJ⟩
  unfold bm_M_fault
  rw [hJ.1]
theorem k_units (N : Nat) : lk_units N bp_J := by
  intro k c m _ hJ
  refine ⟨c.1 0 6, c, m, rfl, ?_, bp_up k c m hJ⟩
  unfold bm_M_units
  rw [hJ.2.1]
theorem k_shown (N : Nat) : lk_shown N bp_J := by
  intro k c m _ hJ
  refine ⟨c.1 4 5, c, m, rfl, ?_, bp_up k c m hJ⟩
  obtain ⟨-, -, -, -, -, -, ⟨n, -, h1, h2, -⟩, -⟩ := hJ
  unfold bm_M_shown
  rw [h1, h2]
theorem k_held (N : Nat) : lk_held N bp_J := by
  intro k c m _ hJ
  refine ⟨c.1 4 1, c, m, rfl, ?_, bp_up k c m hJ⟩
  obtain ⟨-, -, -, -, -, ⟨h, -, h1, h2, -⟩, -⟩ := hJ
  unfold bm_M_held
  rw [h1, h2]
theorem k_smoothed (N : Nat) : lk_smoothed N bp_J := by
  intro k c m _ hJ
  obtain ⟨-, -, -, -, -, -, -, ⟨h1, -, -, h2, -⟩, -⟩ := id hJ
  refine ⟨c.1 (c.2 3 2) 5, c, m, ?_, ?_, bp_up k c m hJ⟩
  · simp only [bc_BP_smoothed, bp_nN, bp_gt h1]
  · unfold bm_M_smoothed bm_M_smoothed_L15
    rw [h2]
    by_cases h : m.1 0 33 = 0
    · rw [if_pos h, if_pos h]
    · rw [if_neg h, if_neg h]
theorem m_within (N : Nat) (v a b : Int32) (m : bp_M) : bm_M_within N v a b m = some (if v < a then 0 else if b < v then 0 else 1, m) := by
  unfold bm_M_within bm_M_within_L14 bm_M_within_L15
  by_cases h1 : v < a
  · rw [if_pos h1, if_pos h1, bp_gt (Or.inl rfl)]
  · rw [if_neg h1, if_neg h1]
    by_cases h2 : b < v
    · rw [if_pos h2, if_pos h2, bp_gt (Or.inl rfl)]
    · rw [if_neg h2, if_neg h2, bp_gt (Or.inr rfl)]
theorem bp_ne0 {n : Nat} (h : n < 2147483648) (h0 : n ≠ 0) : ¬ Int32.ofNat n = 0 := fun e => h0 ((bp_eq h (b := 0) (by omega)).mp e)
theorem bp_nl0 {n : Nat} (h : n < 2147483648) (h0 : n ≠ 0) : ¬ Int32.ofNat n ≤ 0 := fun e => h0 (Nat.le_zero.mp ((bp_le h (b := 0) (by omega)).mp e))
theorem bp_10 : ¬ (1 : Int32) = 0 := by decide
/-- an index: below zero, below the length, or past it -/
theorem bp_tri (a : Int32) (n : Nat) (hn : n < 2147483648) : a < 0 ∨ (¬ a < 0 ∧ a < Int32.ofNat n ∧ ∃ i : Nat, i < n ∧ a = Int32.ofNat i ∧ vp_in a n ∧ a.toNatClampNeg = i) ∨ (¬ a < 0 ∧ ¬ a < Int32.ofNat n ∧ ∃ i : Nat, n ≤ i ∧ i < 2147483648 ∧ a = Int32.ofNat i) := by
  by_cases ha : a < 0
  · exact Or.inl ha
  · obtain ⟨i, hi, rfl⟩ := bp_ofv ha
    by_cases hb : i < n
    · exact Or.inr (Or.inl ⟨ha, (bp_lt hi hn).mpr hb, i, hb, rfl, bp_in hi hb, bp_tn hi⟩)
    · exact Or.inr (Or.inr ⟨ha, fun e => hb ((bp_lt hi hn).mp e), i, by omega, hi, rfl⟩)
/-- 'within (0, n - 1)' of the reference -/
theorem m_win (N : Nat) (v : Int32) (n : Nat) (hn : n < 2147483648) (b : Int32) (hb : b = Int32.ofNat n - 1) (m : bp_M) : bm_M_within N v 0 b m = some (if v < 0 then 0 else if v < Int32.ofNat n then 1 else 0, m) := by
  rw [m_within]
  congr 2
  by_cases h : v < 0
  · rw [if_pos h, if_pos h]
  · rw [if_neg h, if_neg h]
    obtain ⟨i, hi, rfl⟩ := bp_ofv h
    have hb2 : b.toInt = (n : Int) - 1 := by
      rw [hb, Int32.toInt_sub, bp_toInt hn]
      show Int.bmod ((n : Int) - 1) (2 ^ 32) = _
      apply Int.bmod_eq_of_le <;> omega
    by_cases h2 : i < n
    · rw [if_neg (by rw [Int32.lt_iff_toInt_lt, hb2, bp_toInt hi]; omega), if_pos ((bp_lt hi hn).mpr h2)]
    · rw [if_pos (by rw [Int32.lt_iff_toInt_lt, hb2, bp_toInt hi]; omega), if_neg (fun e => h2 ((bp_lt hi hn).mp e))]
theorem k_sample (N : Nat) : lk_sample N bp_J := by
  intro k c m a _ hJ
  obtain ⟨-, -, -, -, -, -, ⟨n, hn, h1, h2, -, h3⟩, -⟩ := id hJ
  have hn2 : n < 2147483648 := by omega
  have hu := bp_up k c m hJ
  by_cases h0 : n = 0
  · subst h0
    have e0 : (Int32.ofNat 0 = 0) := rfl
    have e1 : (Int32.ofNat 0 ≤ 0) := by decide
    exact ⟨-1, c, m, by simp only [bc_BP_sample, bc_BP_sample_L21, h1, if_pos e0], by simp only [bm_M_sample, bm_M_sample_L27, bm_M_sample_L28, h2, if_pos e1], hu⟩
  · have e0 := bp_ne0 hn2 h0
    have e1 := bp_nl0 hn2 h0
    have hw := fun (x : Int32) => m_win N x 256 (by omega) 255 rfl m
    rcases bp_tri a 256 (by omega) with ha | ⟨ha, hb, i, hi, -, hin, ht⟩ | ⟨ha, hb, -⟩
    · exact ⟨-1, c, m, by simp only [bc_BP_sample, bc_BP_sample_L21, h1, if_neg e0, if_pos ha], by simp only [bm_M_sample, bm_M_sample_L27, bm_M_sample_L28, h2, if_neg e1, hw, if_pos ha, bp_cI, if_true], hu⟩
    · have hb' : a < 256 := hb
      exact ⟨c.1 20 i, c, m, by simp only [bc_BP_sample, h1, if_neg e0, if_neg ha, if_pos hb', bp_git hin, ht], by simp only [bm_M_sample, bm_M_sample_L28, h2, if_neg e1, hw, if_neg ha, if_pos hb, bp_cI, if_neg bp_10, bp_git hin, ht, h3 (Nat.pos_of_ne_zero h0) i hi], hu⟩
    · have hb' : ¬ a < 256 := hb
      exact ⟨-1, c, m, by simp only [bc_BP_sample, bc_BP_sample_L21, h1, if_neg e0, if_neg ha, if_neg hb'], by simp only [bm_M_sample, bm_M_sample_L27, bm_M_sample_L28, h2, if_neg e1, hw, if_neg ha, if_neg hb, bp_cI, if_true], hu⟩
theorem k_vector (N : Nat) : lk_vector N bp_J := by
  intro k c m a _ hJ
  obtain ⟨-, -, -, -, -, -, -, ⟨h1, -, -, -, h2⟩, -⟩ := id hJ
  have hu := bp_up k c m hJ
  have hw := fun (x : Int32) => m_win N x 16 (by omega) 15 rfl m
  rcases bp_tri a 16 (by omega) with ha | ⟨ha, hb, i, hi, -, hin, ht⟩ | ⟨ha, hb, -⟩
  · exact ⟨-1, c, m, by simp only [bc_BP_vector, bc_BP_vector_L25, if_pos ha], by simp only [bm_M_vector, bm_M_vector_L20, hw, if_pos ha, bp_cI, if_true], hu⟩
  · have hb' : ¬ (16 : Int32) ≤ a := fun e => by
      rw [Int32.le_iff_toInt_le] at e
      rw [Int32.lt_iff_toInt_lt] at hb
      exact absurd hb (Int.not_lt.mpr e)
    have h3 := h2 i hi
    refine ⟨m.1 12 i, c, m, ?_, by simp only [bm_M_vector, bm_M_vector_L20, hw, if_neg ha, if_pos hb, bp_cI, if_neg bp_10, bp_git hin, ht], hu⟩
    by_cases hz : c.1 (5 * c.2 3 2 - 16) i = 0
    · simp only [bc_BP_vector, bc_BP_vector_L25, if_neg ha, if_neg hb', bp_nN, bp_gt h1, bp_git hin, ht, hz, not_true, if_false]
      rw [h3, if_pos hz]
    · simp only [bc_BP_vector, bc_BP_vector_L25, if_neg ha, if_neg hb', bp_nN, bp_gt h1, bp_git hin, ht, hz, not_false_iff, if_true]
      rw [h3, if_neg hz]
  · have hb' : (16 : Int32) ≤ a := bp_nlt hb
    exact ⟨-1, c, m, by simp only [bc_BP_vector, bc_BP_vector_L25, if_neg ha, if_pos hb'], by simp only [bm_M_vector, bm_M_vector_L20, hw, if_neg ha, if_neg hb, bp_cI, if_true], hu⟩
theorem k_written (N : Nat) : lk_written N bp_J := by
  intro k c m a _ hJ
  obtain ⟨-, -, -, -, -, -, -, -, ⟨-, w, hw0, h1, h2, h3⟩, -⟩ := id hJ
  have hu := bp_up k c m hJ
  have hw := fun (x : Int32) => m_win N x w (by omega) (m.1 0 44 - 1) (by rw [h2]) m
  rcases bp_tri a w (by omega) with ha | ⟨ha, hb, i, hi, he, hin, ht⟩ | ⟨ha, hb, -⟩
  · exact ⟨-1, c, m, by simp only [bc_BP_written, bc_BP_written_L15, bc_BP_written_L28, if_pos ha], by simp only [bm_M_written, bm_M_written_L24, hw, if_pos ha, bp_cI, if_true], hu⟩
  · have hin2 : vp_in a 400 := by rw [he]; exact bp_in (by omega) (by omega)
    have hin3 : vp_in a 420 := by rw [he]; exact bp_in (by omega) (by omega)
    exact ⟨c.1 23 i, c, m, by simp only [bc_BP_written, bc_BP_written_L28, h1, if_neg ha, if_pos hb, bp_git hin2, ht], by simp only [bm_M_written, bm_M_written_L24, hw, if_neg ha, if_pos hb, bp_cI, if_neg bp_10, bp_git hin3, ht, (h3 i hi).1], hu⟩
  · exact ⟨-1, c, m, by simp only [bc_BP_written, bc_BP_written_L15, bc_BP_written_L28, h1, if_neg ha, if_neg hb], by simp only [bm_M_written, bm_M_written_L24, hw, if_neg ha, if_neg hb, bp_cI, if_true], hu⟩

/-! Motion: the class's window and taps against the reference's half. -/
def cl (v : Int32) : Nat := if 0 ≤ v then (if v ≤ 15 then v.toNatClampNeg else 15) else 0
theorem cl_o (v : Int32) : (¬ 0 ≤ v ∧ cl v = 0) ∨ ∃ n : Nat, n < 2147483648 ∧ v = Int32.ofNat n ∧ ((n ≤ 15 ∧ cl v = n) ∨ (15 < n ∧ cl v = 15)) := by
  by_cases h : 0 ≤ v
  · obtain ⟨n, hn, rfl⟩ := bp_ofv (v := v) (fun e => by rw [Int32.lt_iff_toInt_lt] at e; rw [Int32.le_iff_toInt_le] at h; omega)
    refine Or.inr ⟨n, hn, rfl, ?_⟩
    by_cases h2 : n ≤ 15
    · have e : Int32.ofNat n ≤ 15 := (bp_le (b := 15) hn (by omega)).mpr h2
      exact Or.inl ⟨h2, by unfold cl; rw [if_pos h, if_pos e, bp_tn hn]⟩
    · have e : ¬ Int32.ofNat n ≤ 15 := fun e => h2 ((bp_le (b := 15) hn (by omega)).mp e)
      exact Or.inr ⟨by omega, by unfold cl; rw [if_pos h, if_neg e]⟩
  · exact Or.inl ⟨h, by unfold cl; rw [if_neg h]⟩
theorem cl_lt (v : Int32) : cl v < 16 := by
  rcases cl_o v with ⟨-, h⟩ | ⟨n, -, -, ⟨h1, h⟩ | ⟨h1, h⟩⟩ <;> omega
theorem cl_c (v : Int32) : (if 0 < (if v < 15 then v else 15) then (if v < 15 then v else 15) else 0) = Int32.ofNat (cl v) := by
  rcases cl_o v with ⟨h1, h⟩ | ⟨n, hn, rfl, ⟨h1, h⟩ | ⟨h1, h⟩⟩
  · have e1 : v < 15 := by
      rw [Int32.le_iff_toInt_le] at h1; rw [Int32.lt_iff_toInt_lt]
      have a : (0 : Int32).toInt = 0 := rfl
      have b : (15 : Int32).toInt = 15 := rfl
      omega
    have e2 : ¬ 0 < v := fun e => h1 (by rw [Int32.le_iff_toInt_le]; rw [Int32.lt_iff_toInt_lt] at e; omega)
    rw [if_pos e1, if_neg e2, h]
    rfl
  · rw [h]
    by_cases h2 : n = 15
    · subst h2
      decide
    · have e1 : Int32.ofNat n < 15 := (bp_lt (b := 15) hn (by omega)).mpr (by omega)
      rw [if_pos e1]
      by_cases h3 : n = 0
      · subst h3; rfl
      · have e2 : 0 < Int32.ofNat n := (bp_lt (a := 0) (by omega) hn).mpr (by omega)
        rw [if_pos e2]
  · have e1 : ¬ Int32.ofNat n < 15 := fun e => by have := (bp_lt (b := 15) hn (by omega)).mp e; omega
    rw [if_neg e1, h]
    rfl
/-- the sample of a picture at column i, row j, the nearest where there is none -/
def sS (S : Nat → Int32) (i j : Int32) : Int32 := S (16 * cl j + cl i)
theorem m_sampleOf (N : Nat) {p : Nat} (hp : p < 4) (i j : Int32) (m : bp_M) : bm_M_sampleOf N (Int32.ofNat p) i j m = some (sS (fun k => m.1 13 (256 * p + k)) i j, m) := by
  have l1 := cl_lt i
  have l2 := cl_lt j
  have e42 : bm_M_sampleOf_L42 N (Int32.ofNat p) i j (Int32.ofNat (cl i)) (Int32.ofNat (cl j)) m = some (sS (fun k => m.1 13 (256 * p + k)) i j, m) := by
    have i1 : vp_in (Int32.ofNat (256 * p + (16 * cl j + cl i))) 1024 := bp_in (by omega) (by omega)
    simp only [bm_M_sampleOf_L42, x256, x16, bp_add, Nat.add_assoc, bp_git i1, bp_tn (show 256 * p + (16 * cl j + cl i) < 2147483648 by omega), sS]
  have e20 : bm_M_sampleOf_L20 N (Int32.ofNat p) i j (Int32.ofNat (cl i)) m = some (sS (fun k => m.1 13 (256 * p + k)) i j, m) := by
    rw [← e42]
    unfold bm_M_sampleOf_L20
    rcases cl_o j with ⟨h1, h⟩ | ⟨n, hn, hj, ⟨h1, h⟩ | ⟨h1, h⟩⟩
    · rw [if_neg h1, h]; rfl
    · have a : 0 ≤ j := by rw [hj]; exact bp_nlt (bp_nneg hn)
      have b : j ≤ 15 := by rw [hj]; exact (bp_le (b := 15) hn (by omega)).mpr h1
      rw [if_pos a, if_pos b, h, ← hj]
    · have a : 0 ≤ j := by rw [hj]; exact bp_nlt (bp_nneg hn)
      have b : ¬ j ≤ 15 := by rw [hj]; exact fun e => by have := (bp_le (b := 15) hn (by omega)).mp e; omega
      rw [if_pos a, if_neg b, h]; rfl
  rw [← e20]
  unfold bm_M_sampleOf
  rcases cl_o i with ⟨h1, h⟩ | ⟨n, hn, hj, ⟨h1, h⟩ | ⟨h1, h⟩⟩
  · rw [if_neg h1, h]; rfl
  · have a : 0 ≤ i := by rw [hj]; exact bp_nlt (bp_nneg hn)
    have b : i ≤ 15 := by rw [hj]; exact (bp_le (b := 15) hn (by omega)).mpr h1
    rw [if_pos a, if_pos b, h, ← hj]
  · have a : 0 ≤ i := by rw [hj]; exact bp_nlt (bp_nneg hn)
    have b : ¬ i ≤ 15 := by rw [hj]; exact fun e => by have := (bp_le (b := 15) hn (by omega)).mp e; omega
    rw [if_pos a, if_neg b, h]; rfl
def wg (k : Int32) : Int32 := if k = (-2) then 1 else if ¬ k = 3 then (if k = (-1) then -5 else if ¬ k = 2 then 20 else -5) else 1
theorem m_weight (N : Nat) (k : Int32) (m : bp_M) : bm_M_weight N k m = some (wg k, m) := by
  unfold bm_M_weight bm_M_weight_L11 bm_M_weight_L25 bm_M_weight_L32 wg
  split
  · rfl
  · split
    · split
      · rfl
      · split <;> rfl
    · rfl
/-- the weight of a line or column -/
def kw (x k : Int32) : Int32 := if x = 0 then (if ¬ k = 0 then 0 else 1) else wg k
theorem m_75 (N : Nat) (r : Int32 → Int32 → Int32 → Int32 → Int32 → Int32 → bp_M → Option (Int32 × bp_M)) {p : Nat} (hp : p < 4) (a b : Int32) (n : Nat) (i j e f s r9 c10 : Int32) (h3 : ¬ 3 < c10) (m : bp_M) : bm_M_half_L75 r N (Int32.ofNat p) a b (n + 1) i j e f s r9 c10 m = bm_M_half_L75 r N (Int32.ofNat p) a b n i j e f (s + (kw f r9 * kw e c10) * sS (fun k => m.1 13 (256 * p + k)) (i + c10) (j + r9)) r9 (c10 + 1) m := by
  rw [bm_M_half_L75, if_neg h3]
  simp only [bm_M_half_L104, bm_M_half_L129, m_sampleOf N hp, m_weight, bp_cI, bp_nI, kw]
  by_cases h1 : f = 0 <;> by_cases h2 : e = 0 <;> by_cases h4 : r9 = 0 <;> by_cases h5 : c10 = 0 <;> simp only [h1, h2, h4, h5, if_true, if_false, not_true, not_false_iff]
/-- six taps -/
def t6 (a b c d e f : Int32) : Int32 := (((((a - (5 * b : Int32) : Int32) + (20 * c : Int32) : Int32) + (20 * d : Int32) : Int32) - (5 * e : Int32) : Int32) + f : Int32)
def tp (g : Int32 → Int32) : Int32 := t6 (g (-2)) (g (-1)) (g 0) (g 1) (g 2) (g 3)
theorem t6_r (s r a b c d e f : Int32) : s + r * 1 * a + r * (-5) * b + r * 20 * c + r * 20 * d + r * (-5) * e + r * 1 * f = s + r * t6 a b c d e f := by
  unfold t6
  grind
theorem t6_z (s r a b c d e f : Int32) : s + r * 0 * a + r * 0 * b + r * 1 * c + r * 0 * d + r * 0 * e + r * 0 * f = s + r * c := by
  grind
theorem t6_1 (a b c d e f : Int32) : 0 + 1 * a + (-5) * b + 20 * c + 20 * d + (-5) * e + 1 * f = t6 a b c d e f := by
  unfold t6
  grind
theorem t6_0 (a b c d e f : Int32) : 0 + 0 * a + 0 * b + 1 * c + 0 * d + 0 * e + 0 * f = c := by
  grind
/-- a line of taps -/
def hL (S : Nat → Int32) (e i j : Int32) : Int32 := if e = 0 then sS S (i + 0) j else tp (fun c => sS S (i + c) j)
theorem m_row (N : Nat) (r : Int32 → Int32 → Int32 → Int32 → Int32 → Int32 → bp_M → Option (Int32 × bp_M)) {p : Nat} (hp : p < 4) (a b : Int32) {n : Nat} (hn : 7 ≤ n) (i j e f s r9 : Int32) (m : bp_M) : bm_M_half_L75 r N (Int32.ofNat p) a b n i j e f s r9 (-2) m = r i j e f (s + kw f r9 * hL (fun k => m.1 13 (256 * p + k)) e i (j + r9)) (r9 + 1) m := by
  obtain ⟨n, rfl⟩ : ∃ k, n = k + 1 + 1 + 1 + 1 + 1 + 1 + 1 := ⟨n - 7, by omega⟩
  rw [m_75 N r hp a b _ i j e f _ r9 (-2) (by decide), show (-2 + 1 : Int32) = -1 by decide, m_75 N r hp a b _ i j e f _ r9 (-1) (by decide), show (-1 + 1 : Int32) = 0 by decide, m_75 N r hp a b _ i j e f _ r9 0 (by decide), show (0 + 1 : Int32) = 1 by decide, m_75 N r hp a b _ i j e f _ r9 1 (by decide), show (1 + 1 : Int32) = 2 by decide, m_75 N r hp a b _ i j e f _ r9 2 (by decide), show (2 + 1 : Int32) = 3 by decide, m_75 N r hp a b _ i j e f _ r9 3 (by decide), bm_M_half_L75, if_pos (by decide)]
  simp only [bm_M_half_L163, bp_nI]
  congr 1
  unfold hL
  by_cases h : e = 0
  · have k1 : kw e (-2) = 0 := by rw [h]; decide
    have k2 : kw e (-1) = 0 := by rw [h]; decide
    have k3 : kw e 0 = 1 := by rw [h]; decide
    have k4 : kw e 1 = 0 := by rw [h]; decide
    have k5 : kw e 2 = 0 := by rw [h]; decide
    have k6 : kw e 3 = 0 := by rw [h]; decide
    rw [k1, k2, k3, k4, k5, k6, t6_z, if_pos h]
  · have k : ∀ x, kw e x = wg x := fun x => by unfold kw; rw [if_neg h]
    rw [k, k, k, k, k, k, show wg (-2) = 1 by decide, show wg (-1) = -5 by decide, show wg 0 = 20 by decide, show wg 1 = 20 by decide, show wg 2 = -5 by decide, show wg 3 = 1 by decide, t6_r, if_neg h]
    rfl
/-- the half sample at (i, j) -/
def hv (S : Nat → Int32) (e f i j : Int32) : Int32 := if f = 0 then (if e = 0 then sS S i j else li ((hL S e i (j + 0) + 16) >>> (5 &&& 31 : Int32))) else (if e = 0 then li ((tp (fun r => hL S e i (j + r)) + 16) >>> (5 &&& 31 : Int32)) else li ((tp (fun r => hL S e i (j + r)) + 512) >>> (10 &&& 31 : Int32)))
theorem m_65 (N : Nat) (hN : 4000 ≤ N) {p : Nat} (hp : p < 4) (a b : Int32) (n : Nat) (i j e f s r9 : Int32) (h3 : ¬ 3 < r9) (m : bp_M) : bm_M_half_L65 N (Int32.ofNat p) a b (n + 1) i j e f s r9 m = bm_M_half_L65 N (Int32.ofNat p) a b n i j e f (s + kw f r9 * hL (fun k => m.1 13 (256 * p + k)) e i (j + r9)) (r9 + 1) m := by
  rw [bm_M_half_L65, if_neg h3]
  exact m_row N _ hp a b (by omega) i j e f s r9 m
theorem m_58 (N : Nat) (hN : 4000 ≤ N) {p : Nat} (hp : p < 4) (a b i j e f : Int32) (hef : ¬ (e = 0 ∧ f = 0)) (m : bp_M) : bm_M_half_L58 N (Int32.ofNat p) a b i j e f m = some (hv (fun k => m.1 13 (256 * p + k)) e f i j, m) := by
  have key : ∀ n, 7 ≤ n → bm_M_half_L65 N (Int32.ofNat p) a b n i j e f 0 (-2) m = some (hv (fun k => m.1 13 (256 * p + k)) e f i j, m) := fun n hn => by
    obtain ⟨n, rfl⟩ : ∃ k, n = k + 1 + 1 + 1 + 1 + 1 + 1 + 1 := ⟨n - 7, by omega⟩
    rw [m_65 N hN hp a b _ i j e f _ (-2) (by decide), show (-2 + 1 : Int32) = -1 by decide, m_65 N hN hp a b _ i j e f _ (-1) (by decide), show (-1 + 1 : Int32) = 0 by decide, m_65 N hN hp a b _ i j e f _ 0 (by decide), show (0 + 1 : Int32) = 1 by decide, m_65 N hN hp a b _ i j e f _ 1 (by decide), show (1 + 1 : Int32) = 2 by decide, m_65 N hN hp a b _ i j e f _ 2 (by decide), show (2 + 1 : Int32) = 3 by decide, m_65 N hN hp a b _ i j e f _ 3 (by decide), bm_M_half_L65, if_pos (by decide)]
    unfold hv bm_M_half_L169 bm_M_half_L194 bm_M_half_L204
    simp only [m_limit, bp_cI]
    by_cases h : f = 0
    · have k1 : kw f (-2) = 0 := by rw [h]; decide
      have k2 : kw f (-1) = 0 := by rw [h]; decide
      have k3 : kw f 0 = 1 := by rw [h]; decide
      have k4 : kw f 1 = 0 := by rw [h]; decide
      have k5 : kw f 2 = 0 := by rw [h]; decide
      have k6 : kw f 3 = 0 := by rw [h]; decide
      have he : ¬ e = 0 := fun he => hef ⟨he, h⟩
      rw [k1, k2, k3, k4, k5, k6, t6_0, if_pos h, if_neg he, if_neg he, if_pos h]
    · have k : ∀ x, kw f x = wg x := fun x => by unfold kw; rw [if_neg h]
      rw [k, k, k, k, k, k, show wg (-2) = 1 by decide, show wg (-1) = -5 by decide, show wg 0 = 20 by decide, show wg 1 = 20 by decide, show wg 2 = -5 by decide, show wg 3 = 1 by decide, t6_1, if_neg h, if_neg h]
      by_cases he : e = 0
      · rw [if_pos he, if_pos he]
        rfl
      · rw [if_neg he, if_neg he]
        rfl
  exact key N (by omega)
/-- one where the word is odd -/
def od (v : Int32) : Int32 := if ¬ (v &&& 1 : Int32) = 1 then 0 else 1
theorem od_c (v : Int32) : od v = 0 ∨ od v = 1 := by
  unfold od
  split
  · exact Or.inl rfl
  · exact Or.inr rfl
theorem m_half (N : Nat) (hN : 4000 ≤ N) {p : Nat} (hp : p < 4) (u v : Int32) (m : bp_M) : bm_M_half N (Int32.ofNat p) u v m = some (hv (fun k => m.1 13 (256 * p + k)) (od u) (od v) (u >>> (1 &&& 31 : Int32)) (v >>> (1 &&& 31 : Int32)), m) := by
  have e36 : ∀ e f i j, bm_M_half_L36 N (Int32.ofNat p) u v i j e f m = some (hv (fun k => m.1 13 (256 * p + k)) e f i j, m) := fun e f i j => by
    unfold bm_M_half_L36
    by_cases he : e = 0
    · by_cases hf : f = 0
      · rw [if_neg (fun hn => hn he), if_neg (fun hn => hn hf), m_sampleOf N hp]
        simp only [bp_cI, hv, if_pos he, if_pos hf]
      · rw [if_neg (fun hn => hn he), if_pos hf]
        exact m_58 N hN hp u v i j e f (fun e => hf e.2) m
    · rw [if_pos he]
      exact m_58 N hN hp u v i j e f (fun e => he e.1) m
  have e22 : ∀ e i j, bm_M_half_L22 N (Int32.ofNat p) u v i j e m = some (hv (fun k => m.1 13 (256 * p + k)) e (od v) i j, m) := fun e i j => by
    unfold bm_M_half_L22 od
    split
    · exact e36 _ _ _ _
    · exact e36 _ _ _ _
  unfold bm_M_half
  simp only [bp_nI]
  split
  · rw [e22]; rename_i h; unfold od; rw [if_pos h]
  · rw [e22]; rename_i h; rw [show od u = 1 by unfold od; rw [if_neg h]]

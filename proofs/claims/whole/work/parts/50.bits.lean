/-! Reading of bits: p data bits read so far, f the failure; d the data bits. -/
abbrev cb (c : bp_M) (p f : Int32) : bp_M := bp_sI (bp_sI c 6 1 p) 6 3 f
abbrev mb (m : bp_M) (p f : Int32) : bp_M := bp_sI (bp_sI m 0 11 p) 0 12 f
theorem bp_ext {a b : bp_M} (h1 : ∀ x y, a.1 x y = b.1 x y) (h2 : a.2 = b.2) : a = b := Prod.ext (funext fun x => funext fun y => h1 x y) h2
theorem cb_id (c : bp_M) : cb c (c.1 6 1) (c.1 6 3) = c := by
  refine bp_ext (fun x y => ?_) rfl
  simp only [bp_s1]
  by_cases h : x = 6 <;> by_cases h1 : y = 3 <;> by_cases h2 : y = 1 <;> simp_all
theorem mb_id (m : bp_M) : mb m (m.1 0 11) (m.1 0 12) = m := by
  refine bp_ext (fun x y => ?_) rfl
  simp only [bp_s1]
  by_cases h : x = 0 <;> by_cases h1 : y = 12 <;> by_cases h2 : y = 11 <;> simp_all
theorem cb_p (c : bp_M) (p f q : Int32) : bp_sI (cb c p f) 6 1 q = cb c q f := by
  refine bp_ext (fun x y => ?_) rfl
  simp only [bp_s1]
  by_cases h : x = 6 <;> by_cases h1 : y = 3 <;> by_cases h2 : y = 1 <;> simp_all
theorem cb_f (c : bp_M) (p f g : Int32) : bp_sI (cb c p f) 6 3 g = cb c p g := by
  refine bp_ext (fun x y => ?_) rfl
  simp only [bp_s1]
  by_cases h : x = 6 <;> by_cases h1 : y = 3 <;> simp_all
theorem mb_p (m : bp_M) (p f q : Int32) : bp_sI (mb m p f) 0 11 q = mb m q f := by
  refine bp_ext (fun x y => ?_) rfl
  simp only [bp_s1]
  by_cases h : x = 0 <;> by_cases h1 : y = 12 <;> by_cases h2 : y = 11 <;> simp_all
theorem mb_f (m : bp_M) (p f g : Int32) : bp_sI (mb m p f) 0 12 g = mb m p g := by
  refine bp_ext (fun x y => ?_) rfl
  simp only [bp_s1]
  by_cases h : x = 0 <;> by_cases h1 : y = 12 <;> simp_all
theorem cb_1 (c : bp_M) (p f : Int32) : (cb c p f).1 6 1 = p := by rw [bp_s1k _ _ _ _ (by decide), bp_s1e]
theorem cb_3 (c : bp_M) (p f : Int32) : (cb c p f).1 6 3 = f := bp_s1e _ _ _ _
theorem cb_2 (c : bp_M) (p f : Int32) : (cb c p f).1 6 2 = c.1 6 2 := by rw [bp_s1k _ _ _ _ (by decide), bp_s1k _ _ _ _ (by decide)]
theorem cb_o (c : bp_M) (p f : Int32) {x : Nat} (hx : x ≠ 6) (y : Nat) : (cb c p f).1 x y = c.1 x y := by rw [bp_s1o _ _ _ _ hx, bp_s1o _ _ _ _ hx]
theorem mb_11 (m : bp_M) (p f : Int32) : (mb m p f).1 0 11 = p := by rw [bp_s1k _ _ _ _ (by decide), bp_s1e]
theorem mb_12 (m : bp_M) (p f : Int32) : (mb m p f).1 0 12 = f := bp_s1e _ _ _ _
theorem mb_k (m : bp_M) (p f : Int32) {y : Nat} (h1 : y ≠ 11) (h2 : y ≠ 12) : (mb m p f).1 0 y = m.1 0 y := by rw [bp_s1k _ _ _ _ h2, bp_s1k _ _ _ _ h1]
theorem mb_o (m : bp_M) (p f : Int32) {x : Nat} (hx : x ≠ 0) (y : Nat) : (mb m p f).1 x y = m.1 x y := by rw [bp_s1o _ _ _ _ hx, bp_s1o _ _ _ _ hx]
/-- the unit's data: d bits behind the first byte, the same bytes on both sides -/
def bE (d : Nat) (c m : bp_M) : Prop := d ≤ 2551 ∧ c.1 6 2 = Int32.ofNat (d + 8) ∧ m.1 0 10 = Int32.ofNat d ∧ ∀ i, 1 ≤ i → i ≤ (d + 7) / 8 → c.1 16 i = m.1 4 i
theorem bE.b {d : Nat} {c m : bp_M} (h : bE d c m) (p f q g : Int32) : bE d (cb c p f) (mb m q g) := by
  obtain ⟨h1, h2, h3, h4⟩ := h
  refine ⟨h1, by rw [cb_2]; exact h2, by rw [mb_k _ _ _ (by decide) (by decide)]; exact h3, fun i a b => ?_⟩
  rw [cb_o _ _ _ (by decide), mb_o _ _ _ (by decide)]
  exact h4 i a b
theorem bt_c1 : ∀ p, p < 2552 → (Int32.ofNat (p + 8) >>> (3 &&& 31 : Int32) : Int32) = Int32.ofNat (p / 8 + 1) := by decide +kernel
theorem bt_c2 : ∀ p, p < 2552 → (7 - (Int32.ofNat (p + 8) &&& 7 : Int32) : Int32) = Int32.ofNat (7 - p % 8) := by decide +kernel
theorem bt_m1 (p : Nat) (hp : p < 2552) : (1 + (Int32.ofNat p / 8 : Int32) : Int32) = Int32.ofNat (p / 8 + 1) := by
  rw [show (8 : Int32) = Int32.ofNat 8 from rfl, bp_div (by omega) (by omega), show (1 : Int32) = Int32.ofNat 1 from rfl, bp_add, Nat.add_comm]
theorem bt_m2 (p : Nat) (hp : p < 2552) : (7 - (Int32.ofNat p - Int32.ofNat p / 8 * 8 : Int32) : Int32) = Int32.ofNat (7 - p % 8) := by
  rw [show (8 : Int32) = Int32.ofNat 8 from rfl, bp_rem (by omega) (by omega), show (7 : Int32) = Int32.ofNat 7 from rfl, bp_sub (by omega)]
/-- data bit p -/
def bβ (m : bp_M) (p : Nat) : Int32 := ((m.1 4 (p / 8 + 1)) >>> (Int32.ofNat (7 - p % 8) &&& 31 : Int32) : Int32) &&& 1
theorem bβ_b (m : bp_M) (p : Nat) : bβ m p = 0 ∨ bβ m p = 1 := by
  obtain ⟨n, hn, he⟩ := bp_and1 ((m.1 4 (p / 8 + 1)) >>> (Int32.ofNat (7 - p % 8) &&& 31 : Int32) : Int32)
  unfold bβ
  rw [he]
  rcases (show n = 0 ∨ n = 1 by omega) with rfl | rfl
  · exact Or.inl rfl
  · exact Or.inr rfl
theorem bβ_mb (m : bp_M) (p f : Int32) (k : Nat) : bβ (mb m p f) k = bβ m k := by
  unfold bβ
  rw [mb_o _ _ _ (by decide)]
theorem c_next (N : Nat) {d p : Nat} {c m : bp_M} (h : bE d c m) (hp : p < d) : bc_BR_nextBit N (cb c (Int32.ofNat (p + 8)) 0) = some (bβ m p, cb c (Int32.ofNat (p + 1 + 8)) 0) := by
  obtain ⟨h1, h2, h3, h4⟩ := h
  have e1 : Int32.ofNat (p + 8) < Int32.ofNat (d + 8) := (bp_lt (by omega) (by omega)).mpr (by omega)
  have i1 : vp_in (Int32.ofNat (p / 8 + 1)) 320 := bp_in (by omega) (by omega)
  simp only [bc_BR_nextBit, cb_3, if_true, cb_1, cb_2, h2, if_pos e1, bt_c1 p (by omega), bt_c2 p (by omega), bp_git i1, bp_tn (show p / 8 + 1 < 2147483648 by omega), bp_nI, bp_nM, bp_inc, cb_p, cb_o _ _ _ (show (16 : Nat) ≠ 6 by decide)]
  rw [h4 _ (by omega) (by omega)]
  unfold bβ
  rw [show p + 8 + 1 = p + 1 + 8 by omega]
theorem c_nextE (N : Nat) {d p : Nat} {c m : bp_M} (h : bE d c m) (hp : d ≤ p) (hp2 : p < 100000) : bc_BR_nextBit N (cb c (Int32.ofNat (p + 8)) 0) = some (0, cb c (Int32.ofNat (p + 8)) 4) := by
  obtain ⟨h1, h2, h3, h4⟩ := h
  have e1 : ¬ Int32.ofNat (p + 8) < Int32.ofNat (d + 8) := fun e => by have := (bp_lt (by omega) (by omega)).mp e; omega
  simp only [bc_BR_nextBit, cb_3, if_true, cb_1, cb_2, h2, if_neg e1, bp_nM, cb_f]
theorem c_nextF (N : Nat) {c : bp_M} {p f : Int32} (hf : ¬ f = 0) : bc_BR_nextBit N (cb c p f) = some (0, cb c p f) := by
  simp only [bc_BR_nextBit, cb_3, if_neg hf]
/-- k bits from p on, behind what was read -/
def fo (m : bp_M) : Nat → Nat → Int32 → Int32
  | 0, _, a => a
  | k + 1, p, a => fo m k (p + 1) (2 * a + bβ m p)
theorem m_bitsl (N : Nat) (a1 : Int32) {d : Nat} {c m : bp_M} (h : bE d c m) : ∀ (k i n p : Nat) (a : Int32), a1 = Int32.ofNat (i + k) → i + k < 1000 → k < n → p + k ≤ d → bm_M_bits_L33 N a1 n a (Int32.ofNat i) (mb m (Int32.ofNat p) 0) = some (fo m k p a, mb m (Int32.ofNat (p + k)) 0) := by
  obtain ⟨h1, h2, h3, h4⟩ := id h
  intro k
  induction k with
  | zero =>
    intro i n p a ha hik hn hp
    obtain ⟨n, rfl⟩ := Nat.exists_eq_succ_of_ne_zero (by omega : n ≠ 0)
    have e : a1 ≤ Int32.ofNat i := by rw [ha]; exact (bp_le (by omega) (by omega)).mpr (by omega)
    rw [bm_M_bits_L33, if_pos e]
    rfl
  | succ k ih =>
    intro i n p a ha hik hn hp
    obtain ⟨n, rfl⟩ := Nat.exists_eq_succ_of_ne_zero (by omega : n ≠ 0)
    have e : ¬ a1 ≤ Int32.ofNat i := by rw [ha]; exact fun e => by have := (bp_le (by omega) (by omega)).mp e; omega
    have i1 : vp_in (Int32.ofNat (p / 8 + 1)) 320 := bp_in (by omega) (by omega)
    rw [bm_M_bits_L33, if_neg e]
    simp only [mb_11, bt_m1 p (by omega), bt_m2 p (by omega), bp_git i1, bp_tn (show p / 8 + 1 < 2147483648 by omega), bp_nI, bp_nM, bp_inc, mb_p, mb_o _ _ _ (show (4 : Nat) ≠ 0 by decide)]
    have := ih (i + 1) n (p + 1) (2 * a + bβ m p) (by rw [ha]; congr 1; omega) (by omega) (by omega) (by omega)
    rw [show p + 1 + k = p + (k + 1) by omega] at this
    exact this
theorem m_bits (N : Nat) (hN : 4000 ≤ N) {d k p : Nat} {c m : bp_M} (h : bE d c m) (hk : k ≤ 100) (hp : p + k ≤ d) : bm_M_bits N (Int32.ofNat k) (mb m (Int32.ofNat p) 0) = some (fo m k p 0, mb m (Int32.ofNat (p + k)) 0) := by
  obtain ⟨h1, h2, h3, h4⟩ := id h
  have e1 : Int32.ofNat p + Int32.ofNat k ≤ Int32.ofNat d := by rw [bp_add]; exact (bp_le (by omega) (by omega)).mpr hp
  simp only [bm_M_bits, mb_12, if_true, mb_11, mb_k _ _ _ (show (10 : Nat) ≠ 11 by decide) (show (10 : Nat) ≠ 12 by decide), h3, if_pos e1]
  exact m_bitsl N _ h k 0 N p 0 (by rw [Nat.zero_add]) (by omega) (by omega) hp
theorem m_bitsE (N : Nat) {d k p : Nat} {c m : bp_M} (h : bE d c m) (hk : k ≤ 100) (hp : d < p + k) (hp2 : p ≤ d) : bm_M_bits N (Int32.ofNat k) (mb m (Int32.ofNat p) 0) = some (0, mb m (Int32.ofNat p) 4) := by
  obtain ⟨h1, h2, h3, h4⟩ := id h
  have e1 : ¬ Int32.ofNat p + Int32.ofNat k ≤ Int32.ofNat d := by rw [bp_add]; exact fun e => by have := (bp_le (by omega) (by omega)).mp e; omega
  simp only [bm_M_bits, mb_12, if_true, mb_11, mb_k _ _ _ (show (10 : Nat) ≠ 11 by decide) (show (10 : Nat) ≠ 12 by decide), h3, if_neg e1, bp_nM, mb_f]
theorem m_bitsF (N : Nat) {k : Int32} {m : bp_M} {p f : Int32} (hf : ¬ f = 0) : bm_M_bits N k (mb m p f) = some (0, mb m p f) := by
  simp only [bm_M_bits, mb_12, if_neg hf]

/-- a flag, a bit by the reference -/
theorem n_flag (N : Nat) (hN : 4000 ≤ N) {d : Nat} {c m : bp_M} (h : bE d c m) {P Q f : Int32} (hs : rS d P Q f) : ∃ v P1 Q1 f1, bc_BR_flag N (cb c P f) = some (v, cb c P1 f1) ∧ bm_M_bits N 1 (mb m Q f) = some (v, mb m Q1 f1) ∧ rS d P1 Q1 f1 ∧ (¬ f = 0 → f1 = f) ∧ (¬ f1 = 0 → v = 0) ∧ (v = 0 ∨ v = 1) := by
  have n01 : ¬ (0 : Int32) = 1 := by decide
  have key : ∀ (x P1 f1 : Int32), (x = 0 ∨ x = 1) → bc_BR_nextBit N (cb c P f) = some (x, cb c P1 f1) → bc_BR_flag N (cb c P f) = some (x, cb c P1 f1) := fun x P1 f1 hx hn => by
    rcases hx with rfl | rfl
    · simp only [bc_BR_flag, hn, bp_cI, n01, not_false_iff, if_true, bc_BR_flag_L13, bp_g, true_or]
    · simp only [bc_BR_flag, hn, bp_cI, not_true, if_false, bc_BR_flag_L13, bp_g, or_true, if_true]
  by_cases hf : f = 0
  · subst hf
    obtain ⟨p, hp, rfl, rfl⟩ := hs rfl
    by_cases hpd : p < d
    · have m1 := m_bits N hN h (k := 1) (p := p) (by omega) (by omega)
      have fo1 : fo m 1 p 0 = bβ m p := by show 2 * 0 + bβ m p = _; rw [show (2 * 0 : Int32) = 0 from rfl, Int32.zero_add]
      rw [fo1] at m1
      exact ⟨bβ m p, _, _, 0, key _ _ _ (bβ_b m p) (c_next N h hpd), m1, fun _ => ⟨p + 1, by omega, rfl, rfl⟩, fun hn => absurd rfl hn, fun hn => absurd rfl hn, bβ_b m p⟩
    · have hd := h.1
      exact ⟨0, _, _, 4, key _ _ _ (Or.inl rfl) (c_nextE N h (by omega) (by omega)), m_bitsE N h (k := 1) (by omega) (by omega) hp, fun hn => absurd hn bp_n40, fun hn => absurd rfl hn, fun _ => rfl, Or.inl rfl⟩
  · exact ⟨0, P, Q, f, key _ _ _ (Or.inl rfl) (c_nextF N hf), m_bitsF N hf, hs, fun _ => rfl, fun _ => rfl, Or.inl rfl⟩
theorem c_bitsl (N : Nat) {d : Nat} {c m : bp_M} (h : bE d c m) {z : Nat} (hz : z ≤ 100) : ∀ (k i n p : Nat) (a : Int32), i + k = z → k < n → p + k ≤ d → bc_BR_bits_L4 N (Int32.ofNat z) n a (Int32.ofNat i) (cb c (Int32.ofNat (p + 8)) 0) = some (fo m k p a, cb c (Int32.ofNat (p + k + 8)) 0) := by
  intro k
  induction k with
  | zero =>
    intro i n p a hi hn hp
    obtain ⟨n, rfl⟩ := Nat.exists_eq_succ_of_ne_zero (by omega : n ≠ 0)
    have e : Int32.ofNat z ≤ Int32.ofNat i := (bp_le (by omega) (by omega)).mpr (by omega)
    rw [bc_BR_bits_L4, if_pos e]
    simp only [bc_BR_bits_L24, cb_3, not_true, if_false, bc_BR_bits_L36]
    rfl
  | succ k ih =>
    intro i n p a hi hn hp
    obtain ⟨n, rfl⟩ := Nat.exists_eq_succ_of_ne_zero (by omega : n ≠ 0)
    have e : ¬ Int32.ofNat z ≤ Int32.ofNat i := fun e => by have := (bp_le (by omega) (by omega)).mp e; omega
    rw [bc_BR_bits_L4, if_neg e, c_next N h (by omega)]
    simp only [bp_cI, bp_nI, bp_inc]
    have := ih (i + 1) n (p + 1) (2 * a + bβ m p) (by omega) (by omega) (by omega)
    rw [show p + 1 + k + 8 = p + (k + 1) + 8 by omega] at this
    exact this
theorem c_bitsF (N : Nat) {c : bp_M} {P f : Int32} (hf : ¬ f = 0) {z : Nat} (hz : z ≤ 100) : ∀ (k i n : Nat) (a : Int32), i + k = z → k < n → bc_BR_bits_L4 N (Int32.ofNat z) n a (Int32.ofNat i) (cb c P f) = some (0, cb c P f) := by
  intro k
  induction k with
  | zero =>
    intro i n a hi hn
    obtain ⟨n, rfl⟩ := Nat.exists_eq_succ_of_ne_zero (by omega : n ≠ 0)
    have e : Int32.ofNat z ≤ Int32.ofNat i := (bp_le (by omega) (by omega)).mpr (by omega)
    rw [bc_BR_bits_L4, if_pos e]
    simp only [bc_BR_bits_L24, cb_3, hf, not_false_iff, if_true, bc_BR_bits_L36]
  | succ k ih =>
    intro i n a hi hn
    obtain ⟨n, rfl⟩ := Nat.exists_eq_succ_of_ne_zero (by omega : n ≠ 0)
    have e : ¬ Int32.ofNat z ≤ Int32.ofNat i := fun e => by have := (bp_le (by omega) (by omega)).mp e; omega
    rw [bc_BR_bits_L4, if_neg e, c_nextF N hf]
    simp only [bp_cI, bp_nI, bp_inc]
    exact ih (i + 1) n _ (by omega) (by omega)
theorem c_bitsE (N : Nat) {d : Nat} {c m : bp_M} (h : bE d c m) {z : Nat} (hz : z ≤ 100) : ∀ (k i n p : Nat) (a : Int32), i + k = z → k < n → p ≤ d → d < p + k → ∃ P, bc_BR_bits_L4 N (Int32.ofNat z) n a (Int32.ofNat i) (cb c (Int32.ofNat (p + 8)) 0) = some (0, cb c P 4) := by
  have hd := h.1
  intro k
  induction k with
  | zero => intro i n p a _ _ h1 h2; omega
  | succ k ih =>
    intro i n p a hi hn h1 h2
    obtain ⟨n, rfl⟩ := Nat.exists_eq_succ_of_ne_zero (by omega : n ≠ 0)
    have e : ¬ Int32.ofNat z ≤ Int32.ofNat i := fun e => by have := (bp_le (by omega) (by omega)).mp e; omega
    rw [bc_BR_bits_L4, if_neg e]
    by_cases hp : p < d
    · rw [c_next N h hp]
      simp only [bp_cI, bp_nI, bp_inc]
      exact ih (i + 1) n (p + 1) _ (by omega) (by omega) (by omega) (by omega)
    · rw [c_nextE N h (by omega) (by omega)]
      simp only [bp_cI, bp_nI, bp_inc]
      exact ⟨_, c_bitsF N bp_n40 hz k (i + 1) n _ (by omega) (by omega)⟩
theorem n_bits (N : Nat) (hN : 4000 ≤ N) {z : Nat} (hz : z ≤ 10) {d : Nat} {c m : bp_M} (h : bE d c m) {P Q f : Int32} (hs : rS d P Q f) : ∃ v P1 Q1 f1, bc_BR_bits N (Int32.ofNat z) (cb c P f) = some (v, cb c P1 f1) ∧ bm_M_bits N (Int32.ofNat z) (mb m Q f) = some (v, mb m Q1 f1) ∧ rS d P1 Q1 f1 ∧ (¬ f = 0 → f1 = f) ∧ (¬ f1 = 0 → v = 0) ∧ ∃ w : Nat, w < 2 ^ z ∧ v = Int32.ofNat w := by
  have hp1 : 1 ≤ 2 ^ z := Nat.one_le_two_pow
  by_cases hf : f = 0
  · subst hf
    obtain ⟨p, hp, rfl, rfl⟩ := hs rfl
    by_cases hl : p + z ≤ d
    · obtain ⟨w, hw1, hw2⟩ := fo_lt m z p 0
      have hw1' : fo m z p 0 = Int32.ofNat w := hw1
      exact ⟨fo m z p 0, _, _, 0, c_bitsl N h (z := z) (by omega) z 0 N p 0 (by omega) (by omega) hl, m_bits N hN h (by omega) hl, fun _ => ⟨p + z, hl, rfl, rfl⟩, fun hn => absurd rfl hn, fun hn => absurd rfl hn, w, by omega, hw1'⟩
    · obtain ⟨P1, k1⟩ := c_bitsE N h (z := z) (by omega) z 0 N p 0 (by omega) (by omega) hp (by omega)
      exact ⟨0, P1, _, 4, k1, m_bitsE N h (by omega) (by omega) hp, fun hn => absurd hn bp_n40, fun hn => absurd rfl hn, fun _ => rfl, 0, by omega, rfl⟩
  · exact ⟨0, P, Q, f, c_bitsF N hf (z := z) (by omega) z 0 N 0 (by omega) (by omega), m_bitsF N hf, hs, fun _ => rfl, fun _ => rfl, 0, by omega, rfl⟩

theorem fo_lt (m : bp_M) : ∀ (k p a : Nat), ∃ w, fo m k p (Int32.ofNat a) = Int32.ofNat w ∧ w < (a + 1) * 2 ^ k := by
  intro k
  induction k with
  | zero => intro p a; exact ⟨a, rfl, by omega⟩
  | succ k ih =>
    intro p a
    obtain ⟨b, hb, hb2⟩ : ∃ b : Nat, bβ m p = Int32.ofNat b ∧ b < 2 := by
      rcases bβ_b m p with h | h
      · exact ⟨0, h, by omega⟩
      · exact ⟨1, h, by omega⟩
    obtain ⟨w, h1, h2⟩ := ih (p + 1) (2 * a + b)
    refine ⟨w, ?_, ?_⟩
    · show fo m k (p + 1) (2 * Int32.ofNat a + bβ m p) = _
      rw [hb, show (2 : Int32) = Int32.ofNat 2 from rfl, bp_mul, bp_add, h1]
    · have : (2 * a + b + 1) * 2 ^ k ≤ (a + 1) * 2 * 2 ^ k := Nat.mul_le_mul_right _ (by omega)
      rw [Nat.pow_succ, Nat.mul_comm (2 ^ k) 2, ← Nat.mul_assoc]
      omega
/-- the class reads k bits in a loop: enough of them -/
theorem c_tail (N : Nat) (a1 a2 : Int32) {d : Nat} {c m : bp_M} (h : bE d c m) {z : Nat} (hz : z ≤ 100) : ∀ (k i n p : Nat) (a : Int32), i + k = z → k < n → p + k ≤ d → bc_BR_number_L45 N a1 a2 n (Int32.ofNat z) a (Int32.ofNat i) (cb c (Int32.ofNat (p + 8)) 0) = bc_BR_number_L68 N a1 a2 (Int32.ofNat z) (fo m k p a) (cb c (Int32.ofNat (p + k + 8)) 0) := by
  intro k
  induction k with
  | zero =>
    intro i n p a hi hn hp
    obtain ⟨n, rfl⟩ := Nat.exists_eq_succ_of_ne_zero (by omega : n ≠ 0)
    have e : Int32.ofNat z ≤ Int32.ofNat i := (bp_le (by omega) (by omega)).mpr (by omega)
    rw [bc_BR_number_L45, if_pos e]
    rfl
  | succ k ih =>
    intro i n p a hi hn hp
    obtain ⟨n, rfl⟩ := Nat.exists_eq_succ_of_ne_zero (by omega : n ≠ 0)
    have e : ¬ Int32.ofNat z ≤ Int32.ofNat i := fun e => by have := (bp_le (by omega) (by omega)).mp e; omega
    rw [bc_BR_number_L45, if_neg e, c_next N h (by omega)]
    simp only [bp_cI, bp_nI, bp_inc]
    have := ih (i + 1) n (p + 1) (2 * a + bβ m p) (by omega) (by omega) (by omega)
    rw [show p + 1 + k + 8 = p + (k + 1) + 8 by omega] at this
    exact this
/-- .. or a failure stands -/
theorem c_tailF (N : Nat) (a1 a2 : Int32) {c : bp_M} {P f : Int32} (hf : ¬ f = 0) {z : Nat} (hz : z ≤ 100) : ∀ (k i n : Nat) (a : Int32), i + k = z → k < n → ∃ x, bc_BR_number_L45 N a1 a2 n (Int32.ofNat z) a (Int32.ofNat i) (cb c P f) = bc_BR_number_L68 N a1 a2 (Int32.ofNat z) x (cb c P f) := by
  intro k
  induction k with
  | zero =>
    intro i n a hi hn
    obtain ⟨n, rfl⟩ := Nat.exists_eq_succ_of_ne_zero (by omega : n ≠ 0)
    have e : Int32.ofNat z ≤ Int32.ofNat i := (bp_le (by omega) (by omega)).mpr (by omega)
    rw [bc_BR_number_L45, if_pos e]
    exact ⟨a, rfl⟩
  | succ k ih =>
    intro i n a hi hn
    obtain ⟨n, rfl⟩ := Nat.exists_eq_succ_of_ne_zero (by omega : n ≠ 0)
    have e : ¬ Int32.ofNat z ≤ Int32.ofNat i := fun e => by have := (bp_le (by omega) (by omega)).mp e; omega
    rw [bc_BR_number_L45, if_neg e, c_nextF N hf]
    simp only [bp_cI, bp_nI, bp_inc]
    exact ih (i + 1) n _ (by omega) (by omega)
/-- .. or the data end on the way -/
theorem c_tailE (N : Nat) (a1 a2 : Int32) {d : Nat} {c m : bp_M} (h : bE d c m) {z : Nat} (hz : z ≤ 100) : ∀ (k i n p : Nat) (a : Int32), i + k = z → k < n → p ≤ d → d < p + k → ∃ x P, bc_BR_number_L45 N a1 a2 n (Int32.ofNat z) a (Int32.ofNat i) (cb c (Int32.ofNat (p + 8)) 0) = bc_BR_number_L68 N a1 a2 (Int32.ofNat z) x (cb c P 4) := by
  have hd := h.1
  intro k
  induction k with
  | zero => intro i n p a _ _ h1 h2; omega
  | succ k ih =>
    intro i n p a hi hn h1 h2
    obtain ⟨n, rfl⟩ := Nat.exists_eq_succ_of_ne_zero (by omega : n ≠ 0)
    have e : ¬ Int32.ofNat z ≤ Int32.ofNat i := fun e => by have := (bp_le (by omega) (by omega)).mp e; omega
    rw [bc_BR_number_L45, if_neg e]
    by_cases hp : p < d
    · rw [c_next N h hp]
      simp only [bp_cI, bp_nI, bp_inc]
      exact ih (i + 1) n (p + 1) _ (by omega) (by omega) (by omega) (by omega)
    · rw [c_nextE N h (by omega) (by omega)]
      simp only [bp_cI, bp_nI, bp_inc]
      obtain ⟨x, hx⟩ := c_tailF N a1 a2 (c := c) (P := Int32.ofNat (p + 8)) bp_n40 hz k (i + 1) n (2 * a + 0) (by omega) (by omega)
      exact ⟨x, _, hx⟩
theorem c_68F (N : Nat) (a1 a2 z x : Int32) {c : bp_M} {P f : Int32} (hf : ¬ f = 0) : bc_BR_number_L68 N a1 a2 z x (cb c P f) = some (0, cb c P f) := by
  simp only [bc_BR_number_L68, bp_nI, c_fail, if_neg hf, bp_cV, bc_BR_number_L89, cb_3, hf, not_false_iff, if_true, bc_BR_number_L102]
  split <;> first | rfl | simp [hf]
theorem m_67F (N : Nat) (a1 a2 z : Int32) {m : bp_M} {Q f : Int32} (hf : ¬ f = 0) : bm_M_number_L67 N a1 a2 z (mb m Q f) = some (0, mb m Q f) := by
  simp only [bm_M_number_L67, m_bitsF N hf, bp_cI, bp_nI, mb_12, hf, not_false_iff, if_true, bm_M_number_L102, bm_M_number_L115]
theorem w_pow : ∀ z, z < 12 → ((1 <<< (Int32.ofNat z &&& 31 : Int32) : Int32) - 1 : Int32) = Int32.ofNat (2 ^ z - 1) := by decide +kernel
theorem n_rel (N : Nat) (hN : 4000 ≤ N) (a1 a2 : Int32) (ha2 : ¬ a2 = 0) {d : Nat} {c m : bp_M} (h : bE d c m) {P Q f : Int32} (hs : rS d P Q f) : ∃ v P1 Q1 f1, bc_BR_number N a1 a2 (cb c P f) = some (v, cb c P1 f1) ∧ bm_M_number N a1 a2 (mb m Q f) = some (v, mb m Q1 f1) ∧ rS d P1 Q1 f1 ∧ (¬ f = 0 → f1 = f) ∧ (¬ f1 = 0 → v = 0) ∧ (f1 = 0 → v ≤ a1) ∧ ∃ w : Nat, w < 4096 ∧ v = Int32.ofNat w := by
  have hd := h.1
  by_cases hf : f = 0
  · subst hf
    obtain ⟨p, hp, rfl, rfl⟩ := hs rfl
    obtain ⟨z, P1, Q1, f1, q1, q2, q3, q4, q5⟩ := n_loop N hN a1 a2 h 10 0 N N p (by omega) (by omega) (by omega) hp
    have q1' : bc_BR_number N a1 a2 (cb c (Int32.ofNat (p + 8)) 0) = bc_BR_number_L39 N a1 a2 (Int32.ofNat z) (cb c P1 f1) := q1
    have q2' : bm_M_number N a1 a2 (mb m (Int32.ofNat p) 0) = bm_M_number_L67 N a1 a2 (Int32.ofNat z) (mb m Q1 f1) := q2
    rw [q1', q2']
    by_cases hf1 : f1 = 0
    · subst hf1
      obtain ⟨r, hr, rfl, rfl⟩ := q3 rfl
      have hz := q5 rfl
      by_cases hlen : r + z ≤ d
      · obtain ⟨w, hw1, hw2⟩ := fo_lt m z r 0
        have hw1' : fo m z r 0 = Int32.ofNat w := hw1
        have hp2 : 2 ^ z ≤ 2 ^ 10 := Nat.pow_le_pow_right (by omega) hz
        have hp1 : 1 ≤ 2 ^ z := Nat.one_le_two_pow
        have ev : (((1 <<< (Int32.ofNat z &&& 31 : Int32) : Int32) - 1 : Int32) + Int32.ofNat w) = Int32.ofNat (2 ^ z - 1 + w) := by rw [w_pow z (by omega), bp_add]
        have k1 : bc_BR_number_L39 N a1 a2 (Int32.ofNat z) (cb c (Int32.ofNat (r + 8)) 0) = bc_BR_number_L68 N a1 a2 (Int32.ofNat z) (Int32.ofNat w) (cb c (Int32.ofNat (r + z + 8)) 0) := by
          have := c_tail N a1 a2 h (z := z) (by omega) z 0 N r 0 (by omega) (by omega) hlen
          rw [hw1'] at this
          exact this
        have k2 := m_bits N hN h (k := z) (p := r) (by omega) hlen
        rw [hw1'] at k2
        by_cases hle : Int32.ofNat (2 ^ z - 1 + w) ≤ a1
        · refine ⟨Int32.ofNat (2 ^ z - 1 + w), Int32.ofNat (r + z + 8), Int32.ofNat (r + z), 0, ?_, ?_, fun _ => ⟨r + z, hlen, rfl, rfl⟩, fun hn => absurd rfl hn, fun hn => absurd rfl hn, fun _ => hle, _, by omega, rfl⟩
          · rw [k1]
            simp only [bc_BR_number_L68, bp_nI, ev, if_pos hle, bc_BR_number_L89, cb_3, not_true, if_false, bc_BR_number_L102]
          · simp only [bm_M_number_L67, k2, bp_cI, bp_nI, ev, mb_12, not_true, if_false, if_pos hle, bm_M_number_L102, bm_M_number_L115]
        · refine ⟨0, Int32.ofNat (r + z + 8), Int32.ofNat (r + z), a2, ?_, ?_, fun hn => absurd hn ha2, fun hn => absurd rfl hn, fun _ => rfl, fun hn => absurd hn ha2, 0, by omega, rfl⟩
          · rw [k1]
            simp only [bc_BR_number_L68, bp_nI, ev, if_neg hle, c_fail, if_true, bp_cV, bc_BR_number_L89, cb_3, ha2, not_false_iff, bc_BR_number_L102]
          · simp only [bm_M_number_L67, k2, bp_cI, bp_nI, ev, mb_12, not_true, if_false, if_neg hle, bp_nM, mb_f, bm_M_number_L102, ha2, not_false_iff, if_true, bm_M_number_L115]
      · obtain ⟨x, P2, k1⟩ := c_tailE N a1 a2 h (z := z) (by omega) z 0 N r 0 (by omega) (by omega) hr (by omega)
        have k1' : bc_BR_number_L39 N a1 a2 (Int32.ofNat z) (cb c (Int32.ofNat (r + 8)) 0) = bc_BR_number_L68 N a1 a2 (Int32.ofNat z) x (cb c P2 4) := k1
        have k2 := m_bitsE N h (k := z) (p := r) (by omega) (by omega) hr
        refine ⟨0, P2, Int32.ofNat r, 4, ?_, ?_, fun hn => absurd hn bp_n40, fun hn => absurd rfl hn, fun _ => rfl, fun hn => absurd hn bp_n40, 0, by omega, rfl⟩
        · rw [k1', c_68F N _ _ _ _ bp_n40]
        · simp only [bm_M_number_L67, k2, bp_cI, bp_nI, mb_12, bp_n40, not_false_iff, if_true, bm_M_number_L102, bm_M_number_L115]
    · obtain ⟨x, k1⟩ := c_tailF N a1 a2 (c := c) (P := P1) hf1 (z := z) (by omega) z 0 N 0 (by omega) (by omega)
      have k1' : bc_BR_number_L39 N a1 a2 (Int32.ofNat z) (cb c P1 f1) = bc_BR_number_L68 N a1 a2 (Int32.ofNat z) x (cb c P1 f1) := k1
      exact ⟨0, P1, Q1, f1, by rw [k1', c_68F N _ _ _ _ hf1], m_67F N _ _ _ hf1, q3, fun hn => absurd rfl hn, fun _ => rfl, fun hn => absurd hn hf1, 0, by omega, rfl⟩
  · refine ⟨0, P, Q, f, ?_, ?_, hs, fun _ => rfl, fun _ => rfl, fun hn => absurd hn hf, 0, by omega, rfl⟩
    · have : ∀ n : Nat, n ≠ 0 → bc_BR_number_L2 N a1 a2 n 0 (cb c P f) = some (0, cb c P f) := by
        intro n hn
        obtain ⟨n, rfl⟩ := Nat.exists_eq_succ_of_ne_zero hn
        rw [bc_BR_number_L2, if_neg (by decide), if_pos (by rw [cb_3]; exact hf)]
        have e := c_28 N a1 a2 (z := 0) (by omega) c P f
        rw [if_neg (fun e => by omega)] at e
        have e' : bc_BR_number_L28 N a1 a2 0 (cb c P f) = bc_BR_number_L39 N a1 a2 0 (cb c P f) := e
        rw [e']
        obtain ⟨x, k1⟩ := c_tailF N a1 a2 (c := c) (P := P) hf (z := 0) (by omega) 0 0 N 0 (by omega) (by omega)
        have k1' : bc_BR_number_L39 N a1 a2 0 (cb c P f) = bc_BR_number_L68 N a1 a2 0 x (cb c P f) := k1
        rw [k1', c_68F N _ _ _ _ hf]
      exact this N (by omega)
    · have : ∀ n : Nat, n ≠ 0 → bm_M_number_L5 N a1 a2 n 0 0 (mb m Q f) = some (0, mb m Q f) := by
        intro n hn
        obtain ⟨n, rfl⟩ := Nat.exists_eq_succ_of_ne_zero hn
        rw [bm_M_number_L5, if_pos (by rw [mb_12]; exact hf), m_67F N _ _ _ hf]
      exact this N (by omega)

/-- where both readers stand: class P, reference Q, failure f -/
def rS (d : Nat) (P Q f : Int32) : Prop := f = 0 → ∃ p, p ≤ d ∧ P = Int32.ofNat (p + 8) ∧ Q = Int32.ofNat p
theorem c_fail (N : Nat) (a : Int32) (c : bp_M) (p f : Int32) : bc_BR_fail N a (cb c p f) = some (cb c p (if f = 0 then a else f)) := by
  by_cases h : f = 0
  · simp only [bc_BR_fail, cb_3, h, not_true, if_false, if_true, bp_nM, cb_f, bc_BR_fail_L12]
  · simp only [bc_BR_fail, cb_3, h, not_false_iff, if_true, if_false, bc_BR_fail_L12]
theorem bp_n40 : ¬ (4 : Int32) = 0 := by decide
theorem bp_n50 : ¬ (5 : Int32) = 0 := by decide
theorem c_28 (N : Nat) (a1 a2 : Int32) {z : Nat} (hz : z ≤ 11) (c : bp_M) (P f : Int32) : bc_BR_number_L28 N a1 a2 (Int32.ofNat z) (cb c P f) = bc_BR_number_L39 N a1 a2 (Int32.ofNat z) (cb c P (if z = 11 ∧ f = 0 then 5 else f)) := by
  by_cases h : z = 11
  · subst h
    have e : ¬ (Int32.ofNat 11 : Int32) ≤ 10 := by decide
    simp only [bc_BR_number_L28, if_neg e, c_fail, bp_cV, true_and]
  · have e : Int32.ofNat z ≤ 10 := (bp_le (b := 10) (by omega) (by omega)).mpr (by omega)
    simp only [bc_BR_number_L28, if_pos e, h, false_and, if_false]
theorem n_loop (N : Nat) (hN : 4000 ≤ N) (a1 a2 : Int32) {d : Nat} {c m : bp_M} (h : bE d c m) : ∀ (j i n n2 p : Nat), i + j = 10 → j + 1 < n → j + 1 < n2 → p ≤ d → ∃ z P Q f, bc_BR_number_L2 N a1 a2 n (Int32.ofNat i) (cb c (Int32.ofNat (p + 8)) 0) = bc_BR_number_L39 N a1 a2 (Int32.ofNat z) (cb c P f) ∧ bm_M_number_L5 N a1 a2 n2 (Int32.ofNat i) 0 (mb m (Int32.ofNat p) 0) = bm_M_number_L67 N a1 a2 (Int32.ofNat z) (mb m Q f) ∧ rS d P Q f ∧ z ≤ 11 ∧ (f = 0 → z ≤ 10) := by
  have hd := h.1
  have n01 : ¬ (0 : Int32) = 1 := by decide
  have stepC : ∀ (i n p : Nat) (P f x : Int32), i ≤ 10 → bc_BR_nextBit N (cb c (Int32.ofNat (p + 8)) 0) = some (x, cb c P f) → bc_BR_number_L2 N a1 a2 (n + 1) (Int32.ofNat i) (cb c (Int32.ofNat (p + 8)) 0) = if ¬ x = 0 then bc_BR_number_L28 N a1 a2 (Int32.ofNat i) (cb c P f) else bc_BR_number_L2 N a1 a2 n (Int32.ofNat (i + 1)) (cb c P f) := fun i n p P f x hi hx => by
    have e1 : ¬ (10 : Int32) < Int32.ofNat i := fun e => by have := (bp_lt (a := 10) (by omega) (by omega)).mp e; omega
    rw [bc_BR_number_L2, if_neg e1, if_neg (by rw [cb_3]; exact fun hn => hn rfl), hx]
    simp only [bp_cI, bp_nI, bp_inc]
  have stopC : ∀ (i n : Nat) (P f : Int32), i ≤ 11 → ¬ f = 0 → bc_BR_number_L2 N a1 a2 (n + 1) (Int32.ofNat i) (cb c P f) = bc_BR_number_L28 N a1 a2 (Int32.ofNat i) (cb c P f) := fun i n P f hi hf => by
    rw [bc_BR_number_L2]
    by_cases e : (10 : Int32) < Int32.ofNat i
    · rw [if_pos e]
    · rw [if_neg e, if_pos (by rw [cb_3]; exact hf)]
  have stopM : ∀ (n : Nat) (x y Q f : Int32), ¬ f = 0 → bm_M_number_L5 N a1 a2 (n + 1) x y (mb m Q f) = bm_M_number_L67 N a1 a2 x (mb m Q f) := fun n x y Q f hf => by
    rw [bm_M_number_L5, if_pos (by rw [mb_12]; exact hf)]
  have stepM : ∀ (n : Nat) (x z : Int32) (Q Q1 f : Int32), bm_M_bits N 1 (mb m Q 0) = some (z, mb m Q1 f) → bm_M_number_L5 N a1 a2 (n + 1) x 0 (mb m Q 0) = if ¬ z = 1 then bm_M_number_L31 (bm_M_number_L5 N a1 a2 n) N a1 a2 x 0 (mb m Q1 f) else bm_M_number_L31 (bm_M_number_L5 N a1 a2 n) N a1 a2 x 1 (mb m Q1 f) := fun n x z Q Q1 f hx => by
    rw [bm_M_number_L5, if_neg (by rw [mb_12]; exact fun hn => hn rfl), if_neg (fun hn => hn rfl), hx]
    rfl
  intro j
  induction j with
  | zero =>
    intro i n n2 p hi hn hn2 hp
    obtain ⟨n, rfl⟩ : ∃ k, n = k + 1 + 1 := ⟨n - 2, by omega⟩
    obtain ⟨n2, rfl⟩ : ∃ k, n2 = k + 1 + 1 := ⟨n2 - 2, by omega⟩
    obtain rfl : i = 10 := by omega
    by_cases hpd : p < d
    · have c1 := c_next N h hpd
      have m1 := m_bits N hN h (k := 1) (p := p) (by omega) (by omega)
      have fo1 : fo m 1 p 0 = bβ m p := by show 2 * 0 + bβ m p = _; rw [show (2 * 0 : Int32) = 0 from rfl, Int32.zero_add]
      rw [fo1] at m1
      rcases bβ_b m p with hb | hb
      · rw [hb] at c1 m1
        refine ⟨11, Int32.ofNat (p + 1 + 8), Int32.ofNat (p + 1), 5, ?_, ?_, fun hf => absurd hf bp_n50, by omega, fun hf => absurd hf bp_n50⟩
        · rw [stepC 10 (n + 1) p _ _ _ (by omega) c1, if_neg (fun hn => hn rfl), bc_BR_number_L2, if_pos (by decide), c_28 N a1 a2 (z := 10 + 1) (by omega)]
          rfl
        · rw [stepM (n2 + 1) _ _ _ _ _ m1, if_pos n01]
          simp only [bm_M_number_L31, if_true, bm_M_number_L44, bp_nI, mb_12, not_true, if_false]
          rw [show (Int32.ofNat 10 + 1 : Int32) = Int32.ofNat 11 from rfl, if_neg (fun hn => hn rfl)]
          simp only [bp_nM, mb_f]
          exact stopM n2 _ _ _ _ bp_n50
      · rw [hb] at c1 m1
        refine ⟨10, Int32.ofNat (p + 1 + 8), Int32.ofNat (p + 1), 0, ?_, ?_, fun _ => ⟨p + 1, by omega, rfl, rfl⟩, by omega, fun _ => by omega⟩
        · rw [stepC 10 (n + 1) p _ _ _ (by omega) c1, if_pos bp_10, c_28 N a1 a2 (z := 10) (by omega)]
          rfl
        · rw [stepM (n2 + 1) _ _ _ _ _ m1, if_neg (fun hn => hn rfl)]
          simp only [bm_M_number_L31, if_neg bp_10, bm_M_number_L44, bp_nI, mb_12, not_true, if_false]
          rw [show (Int32.ofNat 10 + 0 : Int32) = Int32.ofNat 10 from rfl, if_pos (by decide), bm_M_number_L5, if_neg (by rw [mb_12]; exact fun hn => hn rfl), if_pos bp_10]
    · obtain rfl : p = d := by omega
      have c1 := c_nextE N h (Nat.le_refl p) (by omega)
      have m1 := m_bitsE N h (k := 1) (p := p) (by omega) (by omega) (by omega)
      refine ⟨11, Int32.ofNat (p + 8), Int32.ofNat p, 4, ?_, ?_, fun hf => absurd hf bp_n40, by omega, fun hf => absurd hf bp_n40⟩
      · rw [stepC 10 (n + 1) p _ _ _ (by omega) c1, if_neg (fun hn => hn rfl), stopC (10 + 1) n _ _ (by omega) bp_n40, c_28 N a1 a2 (z := 10 + 1) (by omega)]
        rfl
      · rw [stepM (n2 + 1) _ _ _ _ _ m1, if_pos n01]
        simp only [bm_M_number_L31, if_true, bm_M_number_L44, bp_nI, mb_12, bp_n40, not_false_iff]
        exact stopM n2 _ _ _ _ bp_n40
  | succ j ih =>
    intro i n n2 p hi hn hn2 hp
    obtain ⟨n, rfl⟩ : ∃ k, n = k + 1 + 1 := ⟨n - 2, by omega⟩
    obtain ⟨n2, rfl⟩ : ∃ k, n2 = k + 1 + 1 := ⟨n2 - 2, by omega⟩
    by_cases hpd : p < d
    · have c1 := c_next N h hpd
      have m1 := m_bits N hN h (k := 1) (p := p) (by omega) (by omega)
      have fo1 : fo m 1 p 0 = bβ m p := by show 2 * 0 + bβ m p = _; rw [show (2 * 0 : Int32) = 0 from rfl, Int32.zero_add]
      rw [fo1] at m1
      rcases bβ_b m p with hb | hb
      · rw [hb] at c1 m1
        obtain ⟨z, P, Q, f, q1, q2, q3⟩ := ih (i + 1) (n + 1) (n2 + 1) (p + 1) (by omega) (by omega) (by omega) (by omega)
        refine ⟨z, P, Q, f, ?_, ?_, q3⟩
        · rw [stepC i (n + 1) p _ _ _ (by omega) c1, if_neg (fun hn => hn rfl)]
          exact q1
        · have e11 : ¬ Int32.ofNat (i + 1) = 11 := fun e => by have := (bp_eq (b := 11) (by omega) (by omega)).mp e; omega
          rw [stepM (n2 + 1) _ _ _ _ _ m1, if_pos n01]
          simp only [bm_M_number_L31, if_true, bm_M_number_L44, bp_nI, mb_12, not_true, if_false, bp_inc, e11, not_false_iff]
          exact q2
      · rw [hb] at c1 m1
        have e11 : ¬ Int32.ofNat i = 11 := fun e => by have := (bp_eq (b := 11) (by omega) (by omega)).mp e; omega
        refine ⟨i, Int32.ofNat (p + 1 + 8), Int32.ofNat (p + 1), 0, ?_, ?_, fun _ => ⟨p + 1, by omega, rfl, rfl⟩, by omega, fun _ => by omega⟩
        · rw [stepC i (n + 1) p _ _ _ (by omega) c1, if_pos bp_10, c_28 N a1 a2 (by omega), if_neg (fun e => by omega)]
        · rw [stepM (n2 + 1) _ _ _ _ _ m1, if_neg (fun hn => hn rfl)]
          simp only [bm_M_number_L31, if_neg bp_10, bm_M_number_L44, bp_nI, mb_12, not_true, if_false, Int32.add_zero, e11, not_false_iff, if_true]
          rw [bm_M_number_L5, if_neg (by rw [mb_12]; exact fun hn => hn rfl), if_pos bp_10]
    · obtain rfl : p = d := by omega
      have c1 := c_nextE N h (Nat.le_refl p) (by omega)
      have m1 := m_bitsE N h (k := 1) (p := p) (by omega) (by omega) (by omega)
      refine ⟨i + 1, Int32.ofNat (p + 8), Int32.ofNat p, 4, ?_, ?_, fun hf => absurd hf bp_n40, by omega, fun hf => absurd hf bp_n40⟩
      · rw [stepC i (n + 1) p _ _ _ (by omega) c1, if_neg (fun hn => hn rfl), stopC (i + 1) n _ _ (by omega) bp_n40, c_28 N a1 a2 (by omega), if_neg (fun e => bp_n40 e.2)]
      · rw [stepM (n2 + 1) _ _ _ _ _ m1, if_pos n01]
        simp only [bm_M_number_L31, if_true, bm_M_number_L44, bp_nI, mb_12, bp_n40, not_false_iff, bp_inc]
        exact stopM n2 _ _ _ _ bp_n40

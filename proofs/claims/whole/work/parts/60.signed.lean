/-! the same with two bounds, for signed -/
theorem n_loop2 (N : Nat) (hN : 4000 ≤ N) (a1 b1 a2 : Int32) {d : Nat} {c m : bp_M} (h : bE d c m) : ∀ (j i n n2 p : Nat), i + j = 10 → j + 1 < n → j + 1 < n2 → p ≤ d → ∃ z P Q f, bc_BR_number_L2 N a1 a2 n (Int32.ofNat i) (cb c (Int32.ofNat (p + 8)) 0) = bc_BR_number_L39 N a1 a2 (Int32.ofNat z) (cb c P f) ∧ bm_M_number_L5 N b1 a2 n2 (Int32.ofNat i) 0 (mb m (Int32.ofNat p) 0) = bm_M_number_L67 N b1 a2 (Int32.ofNat z) (mb m Q f) ∧ rS d P Q f ∧ z ≤ 11 ∧ (f = 0 → z ≤ 10) := by
  have hd := h.1
  have n01 : ¬ (0 : Int32) = 1 := by decide
  have stepC : ∀ (i n p : Nat) (P f x : Int32), i ≤ 10 → bc_BR_nextBit N (cb c (Int32.ofNat (p + 8)) 0) = some (x, cb c P f) → bc_BR_number_L2 N a1 a2 (n + 1) (Int32.ofNat i) (cb c (Int32.ofNat (p + 8)) 0) = if ¬ x = 0 then bc_BR_number_L28 N a1 a2 (Int32.ofNat i) (cb c P f) else bc_BR_number_L2 N a1 a2 n (Int32.ofNat (i + 1)) (cb c P f) := fun i n p P f x hi hx => by
    have e1 : ¬ (10 : Int32) < Int32.ofNat i := fun e => by have := (bp_lt (a := 10) (by omega) (by omega)).mp e; omega
    rw [bc_BR_number_L2, if_neg e1, if_neg (by rw [cb_3]; exact fun hn => hn rfl), hx]
    simp only [bp_cI, bp_nI, bp_inc]
  have stopC : ∀ (i n : Nat) (P f : Int32), i ≤ 11 → ¬ f = 0 → bc_BR_number_L2 N a1 a2 (n + 1) (Int32.ofNat i) (cb c P f) = bc_BR_number_L28 N a1 a2 (Int32.ofNat i) (cb c P f) := fun i n P f hi hf => by
    rw [bc_BR_number_L2]
    by_cases e : (10 : Int32) < Int32.ofNat i
    · rw [if_pos e]
    · rw [if_neg e, if_pos (by rw [cb_3]; exact hf)]
  have stopM : ∀ (n : Nat) (x y Q f : Int32), ¬ f = 0 → bm_M_number_L5 N b1 a2 (n + 1) x y (mb m Q f) = bm_M_number_L67 N b1 a2 x (mb m Q f) := fun n x y Q f hf => by
    rw [bm_M_number_L5, if_pos (by rw [mb_12]; exact hf)]
  have stepM : ∀ (n : Nat) (x z : Int32) (Q Q1 f : Int32), bm_M_bits N 1 (mb m Q 0) = some (z, mb m Q1 f) → bm_M_number_L5 N b1 a2 (n + 1) x 0 (mb m Q 0) = if ¬ z = 1 then bm_M_number_L31 (bm_M_number_L5 N b1 a2 n) N b1 a2 x 0 (mb m Q1 f) else bm_M_number_L31 (bm_M_number_L5 N b1 a2 n) N b1 a2 x 1 (mb m Q1 f) := fun n x z Q Q1 f hx => by
    rw [bm_M_number_L5, if_neg (by rw [mb_12]; exact fun hn => hn rfl), if_neg (fun hn => hn rfl), hx]
    rfl
  intro j
  induction j with
  | zero =>
    intro i n n2 p hi hn hn2 hp
    obtain ⟨n, rfl⟩ : ∃ k, n = k + 1 + 1 := ⟨n - 2, by omega⟩
    obtain ⟨n2, rfl⟩ : ∃ k, n2 = k + 1 + 1 := ⟨n2 - 2, by omega⟩
    obtain rfl : i = 10 := by omega
    by_cases hpd : p < d
    · have c1 := c_next N h hpd
      have m1 := m_bits N hN h (k := 1) (p := p) (by omega) (by omega)
      have fo1 : fo m 1 p 0 = bβ m p := by show 2 * 0 + bβ m p = _; rw [show (2 * 0 : Int32) = 0 from rfl, Int32.zero_add]
      rw [fo1] at m1
      rcases bβ_b m p with hb | hb
      · rw [hb] at c1 m1
        refine ⟨11, Int32.ofNat (p + 1 + 8), Int32.ofNat (p + 1), 5, ?_, ?_, fun hf => absurd hf bp_n50, by omega, fun hf => absurd hf bp_n50⟩
        · rw [stepC 10 (n + 1) p _ _ _ (by omega) c1, if_neg (fun hn => hn rfl), bc_BR_number_L2, if_pos (by decide), c_28 N a1 a2 (z := 10 + 1) (by omega)]
          rfl
        · rw [stepM (n2 + 1) _ _ _ _ _ m1, if_pos n01]
          simp only [bm_M_number_L31, if_true, bm_M_number_L44, bp_nI, mb_12, not_true, if_false]
          rw [show (Int32.ofNat 10 + 1 : Int32) = Int32.ofNat 11 from rfl, if_neg (fun hn => hn rfl)]
          simp only [bp_nM, mb_f]
          exact stopM n2 _ _ _ _ bp_n50
      · rw [hb] at c1 m1
        refine ⟨10, Int32.ofNat (p + 1 + 8), Int32.ofNat (p + 1), 0, ?_, ?_, fun _ => ⟨p + 1, by omega, rfl, rfl⟩, by omega, fun _ => by omega⟩
        · rw [stepC 10 (n + 1) p _ _ _ (by omega) c1, if_pos bp_10, c_28 N a1 a2 (z := 10) (by omega)]
          rfl
        · rw [stepM (n2 + 1) _ _ _ _ _ m1, if_neg (fun hn => hn rfl)]
          simp only [bm_M_number_L31, if_neg bp_10, bm_M_number_L44, bp_nI, mb_12, not_true, if_false]
          rw [show (Int32.ofNat 10 + 0 : Int32) = Int32.ofNat 10 from rfl, if_pos (by decide), bm_M_number_L5, if_neg (by rw [mb_12]; exact fun hn => hn rfl), if_pos bp_10]
    · obtain rfl : p = d := by omega
      have c1 := c_nextE N h (Nat.le_refl p) (by omega)
      have m1 := m_bitsE N h (k := 1) (p := p) (by omega) (by omega) (by omega)
      refine ⟨11, Int32.ofNat (p + 8), Int32.ofNat p, 4, ?_, ?_, fun hf => absurd hf bp_n40, by omega, fun hf => absurd hf bp_n40⟩
      · rw [stepC 10 (n + 1) p _ _ _ (by omega) c1, if_neg (fun hn => hn rfl), stopC (10 + 1) n _ _ (by omega) bp_n40, c_28 N a1 a2 (z := 10 + 1) (by omega)]
        rfl
      · rw [stepM (n2 + 1) _ _ _ _ _ m1, if_pos n01]
        simp only [bm_M_number_L31, if_true, bm_M_number_L44, bp_nI, mb_12, bp_n40, not_false_iff]
        exact stopM n2 _ _ _ _ bp_n40
  | succ j ih =>
    intro i n n2 p hi hn hn2 hp
    obtain ⟨n, rfl⟩ : ∃ k, n = k + 1 + 1 := ⟨n - 2, by omega⟩
    obtain ⟨n2, rfl⟩ : ∃ k, n2 = k + 1 + 1 := ⟨n2 - 2, by omega⟩
    by_cases hpd : p < d
    · have c1 := c_next N h hpd
      have m1 := m_bits N hN h (k := 1) (p := p) (by omega) (by omega)
      have fo1 : fo m 1 p 0 = bβ m p := by show 2 * 0 + bβ m p = _; rw [show (2 * 0 : Int32) = 0 from rfl, Int32.zero_add]
      rw [fo1] at m1
      rcases bβ_b m p with hb | hb
      · rw [hb] at c1 m1
        obtain ⟨z, P, Q, f, q1, q2, q3⟩ := ih (i + 1) (n + 1) (n2 + 1) (p + 1) (by omega) (by omega) (by omega) (by omega)
        refine ⟨z, P, Q, f, ?_, ?_, q3⟩
        · rw [stepC i (n + 1) p _ _ _ (by omega) c1, if_neg (fun hn => hn rfl)]
          exact q1
        · have e11 : ¬ Int32.ofNat (i + 1) = 11 := fun e => by have := (bp_eq (b := 11) (by omega) (by omega)).mp e; omega
          rw [stepM (n2 + 1) _ _ _ _ _ m1, if_pos n01]
          simp only [bm_M_number_L31, if_true, bm_M_number_L44, bp_nI, mb_12, not_true, if_false, bp_inc, e11, not_false_iff]
          exact q2
      · rw [hb] at c1 m1
        have e11 : ¬ Int32.ofNat i = 11 := fun e => by have := (bp_eq (b := 11) (by omega) (by omega)).mp e; omega
        refine ⟨i, Int32.ofNat (p + 1 + 8), Int32.ofNat (p + 1), 0, ?_, ?_, fun _ => ⟨p + 1, by omega, rfl, rfl⟩, by omega, fun _ => by omega⟩
        · rw [stepC i (n + 1) p _ _ _ (by omega) c1, if_pos bp_10, c_28 N a1 a2 (by omega), if_neg (fun e => by omega)]
        · rw [stepM (n2 + 1) _ _ _ _ _ m1, if_neg (fun hn => hn rfl)]
          simp only [bm_M_number_L31, if_neg bp_10, bm_M_number_L44, bp_nI, mb_12, not_true, if_false, Int32.add_zero, e11, not_false_iff, if_true]
          rw [bm_M_number_L5, if_neg (by rw [mb_12]; exact fun hn => hn rfl), if_pos bp_10]
    · obtain rfl : p = d := by omega
      have c1 := c_nextE N h (Nat.le_refl p) (by omega)
      have m1 := m_bitsE N h (k := 1) (p := p) (by omega) (by omega) (by omega)
      refine ⟨i + 1, Int32.ofNat (p + 8), Int32.ofNat p, 4, ?_, ?_, fun hf => absurd hf bp_n40, by omega, fun hf => absurd hf bp_n40⟩
      · rw [stepC i (n + 1) p _ _ _ (by omega) c1, if_neg (fun hn => hn rfl), stopC (i + 1) n _ _ (by omega) bp_n40, c_28 N a1 a2 (by omega), if_neg (fun e => bp_n40 e.2)]
      · rw [stepM (n2 + 1) _ _ _ _ _ m1, if_pos n01]
        simp only [bm_M_number_L31, if_true, bm_M_number_L44, bp_nI, mb_12, bp_n40, not_false_iff, bp_inc]
        exact stopM n2 _ _ _ _ bp_n40
theorem n_rel2 (N : Nat) (hN : 4000 ≤ N) (a1 b1 a2 : Int32) (hab : ∀ w, w < 2047 → (Int32.ofNat w ≤ a1 ↔ Int32.ofNat w ≤ b1)) (ha2 : ¬ a2 = 0) {d : Nat} {c m : bp_M} (h : bE d c m) {P Q f : Int32} (hs : rS d P Q f) : ∃ v P1 Q1 f1, bc_BR_number N a1 a2 (cb c P f) = some (v, cb c P1 f1) ∧ bm_M_number N b1 a2 (mb m Q f) = some (v, mb m Q1 f1) ∧ rS d P1 Q1 f1 ∧ (¬ f = 0 → f1 = f) ∧ (¬ f1 = 0 → v = 0) ∧ (f1 = 0 → v ≤ a1) ∧ ∃ w : Nat, w < 4096 ∧ v = Int32.ofNat w := by
  have hd := h.1
  by_cases hf : f = 0
  · subst hf
    obtain ⟨p, hp, rfl, rfl⟩ := hs rfl
    obtain ⟨z, P1, Q1, f1, q1, q2, q3, q4, q5⟩ := n_loop2 N hN a1 b1 a2 h 10 0 N N p (by omega) (by omega) (by omega) hp
    have q1' : bc_BR_number N a1 a2 (cb c (Int32.ofNat (p + 8)) 0) = bc_BR_number_L39 N a1 a2 (Int32.ofNat z) (cb c P1 f1) := q1
    have q2' : bm_M_number N b1 a2 (mb m (Int32.ofNat p) 0) = bm_M_number_L67 N b1 a2 (Int32.ofNat z) (mb m Q1 f1) := q2
    rw [q1', q2']
    by_cases hf1 : f1 = 0
    · subst hf1
      obtain ⟨r, hr, rfl, rfl⟩ := q3 rfl
      have hz := q5 rfl
      by_cases hlen : r + z ≤ d
      · obtain ⟨w, hw1, hw2⟩ := fo_lt m z r 0
        have hw1' : fo m z r 0 = Int32.ofNat w := hw1
        have hp2 : 2 ^ z ≤ 2 ^ 10 := Nat.pow_le_pow_right (by omega) hz
        have hp1 : 1 ≤ 2 ^ z := Nat.one_le_two_pow
        have ev : (((1 <<< (Int32.ofNat z &&& 31 : Int32) : Int32) - 1 : Int32) + Int32.ofNat w) = Int32.ofNat (2 ^ z - 1 + w) := by rw [w_pow z (by omega), bp_add]
        have k1 : bc_BR_number_L39 N a1 a2 (Int32.ofNat z) (cb c (Int32.ofNat (r + 8)) 0) = bc_BR_number_L68 N a1 a2 (Int32.ofNat z) (Int32.ofNat w) (cb c (Int32.ofNat (r + z + 8)) 0) := by
          have := c_tail N a1 a2 h (z := z) (by omega) z 0 N r 0 (by omega) (by omega) hlen
          rw [hw1'] at this
          exact this
        have k2 := m_bits N hN h (k := z) (p := r) (by omega) hlen
        rw [hw1'] at k2
        by_cases hle : Int32.ofNat (2 ^ z - 1 + w) ≤ a1
        · refine ⟨Int32.ofNat (2 ^ z - 1 + w), Int32.ofNat (r + z + 8), Int32.ofNat (r + z), 0, ?_, ?_, fun _ => ⟨r + z, hlen, rfl, rfl⟩, fun hn => absurd rfl hn, fun hn => absurd rfl hn, fun _ => hle, _, by omega, rfl⟩
          · rw [k1]
            simp only [bc_BR_number_L68, bp_nI, ev, if_pos hle, bc_BR_number_L89, cb_3, not_true, if_false, bc_BR_number_L102]
          · simp only [bm_M_number_L67, k2, bp_cI, bp_nI, ev, mb_12, not_true, if_false, if_pos ((hab _ (by omega)).mp hle), bm_M_number_L102, bm_M_number_L115]
        · refine ⟨0, Int32.ofNat (r + z + 8), Int32.ofNat (r + z), a2, ?_, ?_, fun hn => absurd hn ha2, fun hn => absurd rfl hn, fun _ => rfl, fun hn => absurd hn ha2, 0, by omega, rfl⟩
          · rw [k1]
            simp only [bc_BR_number_L68, bp_nI, ev, if_neg hle, c_fail, if_true, bp_cV, bc_BR_number_L89, cb_3, ha2, not_false_iff, bc_BR_number_L102]
          · simp only [bm_M_number_L67, k2, bp_cI, bp_nI, ev, mb_12, not_true, if_false, if_neg (fun e => hle ((hab _ (by omega)).mpr e)), bp_nM, mb_f, bm_M_number_L102, ha2, not_false_iff, if_true, bm_M_number_L115]
      · obtain ⟨x, P2, k1⟩ := c_tailE N a1 a2 h (z := z) (by omega) z 0 N r 0 (by omega) (by omega) hr (by omega)
        have k1' : bc_BR_number_L39 N a1 a2 (Int32.ofNat z) (cb c (Int32.ofNat (r + 8)) 0) = bc_BR_number_L68 N a1 a2 (Int32.ofNat z) x (cb c P2 4) := k1
        have k2 := m_bitsE N h (k := z) (p := r) (by omega) (by omega) hr
        refine ⟨0, P2, Int32.ofNat r, 4, ?_, ?_, fun hn => absurd hn bp_n40, fun hn => absurd rfl hn, fun _ => rfl, fun hn => absurd hn bp_n40, 0, by omega, rfl⟩
        · rw [k1', c_68F N _ _ _ _ bp_n40]
        · simp only [bm_M_number_L67, k2, bp_cI, bp_nI, mb_12, bp_n40, not_false_iff, if_true, bm_M_number_L102, bm_M_number_L115]
    · obtain ⟨x, k1⟩ := c_tailF N a1 a2 (c := c) (P := P1) hf1 (z := z) (by omega) z 0 N 0 (by omega) (by omega)
      have k1' : bc_BR_number_L39 N a1 a2 (Int32.ofNat z) (cb c P1 f1) = bc_BR_number_L68 N a1 a2 (Int32.ofNat z) x (cb c P1 f1) := k1
      exact ⟨0, P1, Q1, f1, by rw [k1', c_68F N _ _ _ _ hf1], m_67F N _ _ _ hf1, q3, fun hn => absurd rfl hn, fun _ => rfl, fun hn => absurd hn hf1, 0, by omega, rfl⟩
  · refine ⟨0, P, Q, f, ?_, ?_, hs, fun _ => rfl, fun _ => rfl, fun hn => absurd hn hf, 0, by omega, rfl⟩
    · have : ∀ n : Nat, n ≠ 0 → bc_BR_number_L2 N a1 a2 n 0 (cb c P f) = some (0, cb c P f) := by
        intro n hn
        obtain ⟨n, rfl⟩ := Nat.exists_eq_succ_of_ne_zero hn
        rw [bc_BR_number_L2, if_neg (by decide), if_pos (by rw [cb_3]; exact hf)]
        have e := c_28 N a1 a2 (z := 0) (by omega) c P f
        rw [if_neg (fun e => by omega)] at e
        have e' : bc_BR_number_L28 N a1 a2 0 (cb c P f) = bc_BR_number_L39 N a1 a2 0 (cb c P f) := e
        rw [e']
        obtain ⟨x, k1⟩ := c_tailF N a1 a2 (c := c) (P := P) hf (z := 0) (by omega) 0 0 N 0 (by omega) (by omega)
        have k1' : bc_BR_number_L39 N a1 a2 0 (cb c P f) = bc_BR_number_L68 N a1 a2 0 x (cb c P f) := k1
        rw [k1', c_68F N _ _ _ _ hf]
      exact this N (by omega)
    · have : ∀ n : Nat, n ≠ 0 → bm_M_number_L5 N b1 a2 n 0 0 (mb m Q f) = some (0, mb m Q f) := by
        intro n hn
        obtain ⟨n, rfl⟩ := Nat.exists_eq_succ_of_ne_zero hn
        rw [bm_M_number_L5, if_pos (by rw [mb_12]; exact hf), m_67F N _ _ _ hf]
      exact this N (by omega)

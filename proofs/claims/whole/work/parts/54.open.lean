theorem bβ_01 (m : bp_M) (p : Nat) : (¬ bβ m p = 1 ↔ bβ m p = 0) := by
  rcases bβ_b m p with h | h <;> rw [h] <;> decide
/-- the last one among k data bits: both sides look for it from behind -/
theorem o_loop (N : Nat) (a1 : Nat) (a2 x1 x2 : Int32) {c m : bp_M} : ∀ (k n n2 : Nat), k < n → k < n2 → k ≤ 2552 → c.1 6 2 = -1 → (∀ i, 1 ≤ i → i ≤ (k + 7) / 8 → c.1 16 i = m.1 4 i) → ∃ r : Option Nat, (∀ d, r = some d → d < k) ∧ bc_BR_open_L34 N a1 a2 n (Int32.ofNat (k + 8) + (-1)) c = some (match r with | none => c | some d => bp_sI c 6 2 (Int32.ofNat (d + 8))) ∧ bm_M_work_L94 N n2 x1 x2 (bp_sI m 0 10 (Int32.ofNat k - 1)) = bm_M_work_L144 N x1 x2 (bp_sI m 0 10 (match r with | none => -1 | some d => Int32.ofNat d)) := by
  intro k
  induction k with
  | zero =>
    intro n n2 hn hn2 _ hd hb
    obtain ⟨n, rfl⟩ := Nat.exists_eq_succ_of_ne_zero (by omega : n ≠ 0)
    obtain ⟨n2, rfl⟩ := Nat.exists_eq_succ_of_ne_zero (by omega : n2 ≠ 0)
    have e1 : (Int32.ofNat (0 + 8) + (-1) : Int32) < 8 := by decide
    have e2 : (Int32.ofNat 0 - 1 : Int32) < 0 := by decide
    refine ⟨none, fun d h => (by cases h), ?_, ?_⟩
    · rw [bc_BR_open_L34, if_pos e1]; rfl
    · rw [bm_M_work_L94, bp_s1e, if_pos e2]; rfl
  | succ k ih =>
    intro n n2 hn hn2 hk hd hb
    obtain ⟨n, rfl⟩ := Nat.exists_eq_succ_of_ne_zero (by omega : n ≠ 0)
    obtain ⟨n2, rfl⟩ := Nat.exists_eq_succ_of_ne_zero (by omega : n2 ≠ 0)
    have e0 : (Int32.ofNat (k + 1 + 8) + (-1) : Int32) = Int32.ofNat (k + 8) := by
      rw [show k + 1 + 8 = k + 8 + 1 by omega]; exact bp_dec
    have e1 : ¬ Int32.ofNat (k + 8) < 8 := fun e => by have := (bp_lt (b := 8) (by omega) (by omega)).mp e; omega
    have e2 : Int32.ofNat (k + 1) - 1 = Int32.ofNat k := bp_sub (a := k + 1) (b := 1) (by omega)
    have e3 : ¬ Int32.ofNat k < 0 := bp_nneg (by omega)
    have i1 : vp_in (Int32.ofNat (k / 8 + 1)) 320 := bp_in (by omega) (by omega)
    have tk := bp_tn (show k / 8 + 1 < 2147483648 by omega)
    have hbk := hb (k / 8 + 1) (by omega) (by omega)
    have m4 : ∀ v y, (bp_sI m 0 10 v).1 4 y = m.1 4 y := fun v y => bp_s1o _ _ _ _ (by decide) _
    rw [bc_BR_open_L34, bm_M_work_L94, e0, e2, if_neg e1, if_neg (by rw [hd]; exact fun hn => hn rfl), bp_s1e, if_neg e3]
    simp only [bt_c1 k (by omega), bt_c2 k (by omega), bt_m1 k (by omega), bt_m2 k (by omega), bp_git i1, tk, m4, hbk]
    have eb : (((m.1 4 (k / 8 + 1)) >>> (Int32.ofNat (7 - k % 8) &&& 31 : Int32) : Int32) &&& 1 : Int32) = bβ m k := rfl
    simp only [eb]
    rcases bβ_b m k with hz | hz
    · obtain ⟨r, q0, q1, q2⟩ := ih n n2 (by omega) (by omega) (by omega) hd (fun i a b => hb i a (by omega))
      have n01 : ¬ (0 : Int32) = 1 := by decide
      refine ⟨r, fun d h => by have := q0 d h; omega, ?_, ?_⟩
      · simp only [hz, n01, not_false_iff, if_true, bc_BR_open_L75, bp_nI]
        exact q1
      · simp only [hz, not_true, if_false, bp_nM]
        have es : bp_sI (bp_sI m 0 10 (Int32.ofNat k)) 0 10 (Int32.ofNat k - 1) = bp_sI m 0 10 (Int32.ofNat k - 1) := by
          refine bp_ext (fun x y => ?_) rfl
          simp only [bp_s1]
          by_cases h : x = 0 ∧ y = 10 <;> simp [h]
        rw [es]
        exact q2
    · refine ⟨some k, fun d h => (by cases h; omega), ?_, ?_⟩
      · simp only [hz, not_true, if_false, bp_nM, bc_BR_open_L75, bp_nI]
        have : ∀ n : Nat, n ≠ 0 → bc_BR_open_L34 N a1 a2 n (Int32.ofNat (k + 8) + (-1)) (bp_sI c 6 2 (Int32.ofNat (k + 8))) = some (bp_sI c 6 2 (Int32.ofNat (k + 8))) := by
          intro n hn
          obtain ⟨n, rfl⟩ := Nat.exists_eq_succ_of_ne_zero hn
          have e5 : ¬ Int32.ofNat (k + 8) = -1 := fun e => by
            have h1 : (-1 : Int32) < 0 := by decide
            rw [← e] at h1
            exact bp_nneg (by omega) h1
          rw [bc_BR_open_L34, bp_s1e, if_pos e5]
          split <;> rfl
        exact this n (by omega)
      · simp only [hz, bp_10, not_false_iff, if_true]
/-- open: the bytes beside the reader, the failure gone, the end of the data -/
theorem o_open (N : Nat) (hN : 4000 ≤ N) (x1 x2 : Int32) {n : Nat} (h1 : 1 ≤ n) (h2 : n ≤ 320) {c m : bp_M} (hb : ∀ i, i < n → c.1 15 i = m.1 4 i ∧ jy (c.1 15 i)) : ∃ (c1 : bp_M) (r : Option Nat), bc_BR_open N 15 (Int32.ofNat n) c = some c1 ∧ (∀ d, r = some d → d < 8 * (n - 1)) ∧ c1.2 = c.2 ∧ (∀ x, x ≠ 6 → x ≠ 16 → ∀ y, c1.1 x y = c.1 x y) ∧ c1.1 6 3 = 0 ∧ c1.1 6 1 = 8 ∧ c1.1 6 2 = (match r with | none => -1 | some d => Int32.ofNat (d + 8)) ∧ (∀ i, i < n → c1.1 16 i = m.1 4 i) ∧ bm_M_work_L94 N N x1 x2 (bp_sI m 0 10 (8 * (Int32.ofNat n - 1) - 1)) = bm_M_work_L144 N x1 x2 (bp_sI m 0 10 (match r with | none => -1 | some d => Int32.ofNat d)) := by
  have hcp : bp_cp 0 0 (Int32.ofNat n) (bc_len 15) 320 := by
    have t0 : (0 : Int32).toNatClampNeg = 0 := rfl
    have tl : bc_len 15 = 320 := rfl
    refine ⟨by decide, by decide, bp_nneg (by omega), ?_, ?_⟩
    · rw [t0, bp_tn (by omega), tl]; omega
    · rw [t0, bp_tn (by omega)]; omega
  have hI : bc_isI 15 = true := by decide
  have t0 : (0 : Int32).toNatClampNeg = 0 := rfl
  obtain ⟨c0, hc0⟩ : ∃ c0 : bp_M, c0 = bp_sI (bp_sI (bp_sI (bp_sC c 15 16 0 0 n) 6 3 0) 6 1 8) 6 2 (-1) := ⟨_, rfl⟩
  have hC1 : ∀ x, x ≠ 16 → ∀ y, (bp_sC c 15 16 0 0 n).1 x y = c.1 x y := fun x hx y => by
    show (if x = 16 then _ else c.1 x) y = _
    rw [if_neg hx]
  have hC2 : ∀ i, i < n → (bp_sC c 15 16 0 0 n).1 16 i = c.1 15 i := fun i hi => by
    show (if (16 : Nat) = 16 then va_cpy (c.1 15) (c.1 16) 0 0 n else c.1 16) i = _
    rw [if_pos rfl]
    simp [va_cpy, hi]
  have k16 : ∀ i, i < n → c0.1 16 i = m.1 4 i := fun i hi => by
    rw [hc0, bp_s1o _ _ _ _ (by decide), bp_s1o _ _ _ _ (by decide), bp_s1o _ _ _ _ (by decide), hC2 i hi]
    exact (hb i hi).1
  have k62 : c0.1 6 2 = -1 := by rw [hc0, bp_s1e]
  have k61 : c0.1 6 1 = 8 := by rw [hc0, bp_s1k _ _ _ _ (by decide), bp_s1e]
  have k63 : c0.1 6 3 = 0 := by rw [hc0, bp_s1k _ _ _ _ (by decide), bp_s1k _ _ _ _ (by decide), bp_s1e]
  have kx : ∀ x, x ≠ 6 → x ≠ 16 → ∀ y, c0.1 x y = c.1 x y := fun x a b y => by rw [hc0, bp_s1o _ _ _ _ a, bp_s1o _ _ _ _ a, bp_s1o _ _ _ _ a, hC1 x b]
  have k2 : c0.2 = c.2 := by rw [hc0]; rfl
  obtain ⟨r, q0, q1, q2⟩ := o_loop N 15 (Int32.ofNat n) x1 x2 (c := c0) (m := m) (8 * (n - 1)) N N (by omega) (by omega) (by omega) k62 (fun i a b => k16 i (by omega))
  have e1 : (8 * Int32.ofNat n - 1 : Int32) = Int32.ofNat (8 * (n - 1) + 8) + (-1) := by
    rw [bp_sub1, show (8 : Int32) = Int32.ofNat 8 from rfl, bp_mul]
    congr 2
    omega
  have e2 : (8 * (Int32.ofNat n - 1) - 1 : Int32) = Int32.ofNat (8 * (n - 1)) - 1 := by
    rw [show (1 : Int32) = Int32.ofNat 1 from rfl, bp_sub h1, show (8 : Int32) = Int32.ofNat 8 from rfl, bp_mul]
  have ho : bc_BR_open N 15 (Int32.ofNat n) c = bc_BR_open_L34 N 15 (Int32.ofNat n) N (Int32.ofNat (8 * (n - 1) + 8) + (-1)) c0 := by
    simp only [bc_BR_open, bp_gt hI, bp_gt hcp, t0, bp_tn (show n < 2147483648 by omega), bp_nM, bp_nI, e1]
    rw [hc0]
  rw [ho, q1, e2, q2]
  cases r with
  | none => exact ⟨c0, none, rfl, fun d h => (by cases h), k2, kx, k63, k61, k62, k16, rfl⟩
  | some d =>
    refine ⟨bp_sI c0 6 2 (Int32.ofNat (d + 8)), some d, rfl, q0, k2, fun x a b y => by rw [bp_s1o _ _ _ _ a, kx x a b], ?_, ?_, bp_s1e _ _ _ _, fun i hi => by rw [bp_s1o _ _ _ _ (by decide)]; exact k16 i hi, rfl⟩
    · rw [bp_s1k _ _ _ _ (by decide)]; exact k63
    · rw [bp_s1k _ _ _ _ (by decide)]; exact k61

/-! Residuals read. -/
theorem c_numFM (N : Nat) (hN : 4000 ≤ N) (a1 a2 : Int32) {c : bp_M} (hf : ¬ c.1 6 3 = 0) : bc_BR_number N a1 a2 c = some (0, c) := by
  have := c_numF N hN a1 a2 (c := c) (P := c.1 6 1) hf
  rw [cb_id] at this
  exact this
theorem m_numFM (N : Nat) (hN : 4000 ≤ N) (a1 a2 : Int32) {m : bp_M} (hf : ¬ m.1 0 12 = 0) : bm_M_number N a1 a2 m = some (0, m) := by
  have : ∀ n : Nat, n ≠ 0 → bm_M_number_L5 N a1 a2 n 0 0 m = some (0, m) := by
    intro n hn
    obtain ⟨n, rfl⟩ := Nat.exists_eq_succ_of_ne_zero hn
    have e := m_67F N a1 a2 0 (m := m) (Q := m.1 0 11) hf
    rw [mb_id] at e
    rw [bm_M_number_L5, if_pos hf]
    exact e
  exact this N (by omega)
theorem n_gen (N : Nat) (hN : 4000 ≤ N) (a1 b1 a2 : Int32) {d : Nat} {c m : bp_M} (h : bE d c m) {P Q : Int32} (hs : rS d P Q 0) : ∃ (w : Nat) (P1 Q1 f0 : Int32), w < 2047 ∧ rS d P1 Q1 f0 ∧ (¬ f0 = 0 → bc_BR_number N a1 a2 (cb c P 0) = some (0, cb c P1 f0) ∧ bm_M_number N b1 a2 (mb m Q 0) = some (0, mb m Q1 f0)) ∧ (f0 = 0 → (Int32.ofNat w ≤ a1 → bc_BR_number N a1 a2 (cb c P 0) = some (Int32.ofNat w, cb c P1 0)) ∧ (¬ Int32.ofNat w ≤ a1 → ¬ a2 = 0 → bc_BR_number N a1 a2 (cb c P 0) = some (0, cb c P1 a2)) ∧ (Int32.ofNat w ≤ b1 → bm_M_number N b1 a2 (mb m Q 0) = some (Int32.ofNat w, mb m Q1 0))) := by
  have hd := h.1
  obtain ⟨p, hp, rfl, rfl⟩ := hs rfl
  obtain ⟨z, P1, Q1, f1, q1, q2, q3, q4, q5⟩ := n_loop2 N hN a1 b1 a2 h 10 0 N N p (by omega) (by omega) (by omega) hp
  have q1' : bc_BR_number N a1 a2 (cb c (Int32.ofNat (p + 8)) 0) = bc_BR_number_L39 N a1 a2 (Int32.ofNat z) (cb c P1 f1) := q1
  have q2' : bm_M_number N b1 a2 (mb m (Int32.ofNat p) 0) = bm_M_number_L67 N b1 a2 (Int32.ofNat z) (mb m Q1 f1) := q2
  rw [q1', q2']
  by_cases hf1 : f1 = 0
  · subst hf1
    obtain ⟨r, hr, rfl, rfl⟩ := q3 rfl
    have hz := q5 rfl
    by_cases hlen : r + z ≤ d
    · obtain ⟨w, hw1, hw2⟩ := fo_lt m z r 0
      have hw1' : fo m z r 0 = Int32.ofNat w := hw1
      have hp2 : 2 ^ z ≤ 2 ^ 10 := Nat.pow_le_pow_right (by omega) hz
      have hp1 : 1 ≤ 2 ^ z := Nat.one_le_two_pow
      have ev : (((1 <<< (Int32.ofNat z &&& 31 : Int32) : Int32) - 1 : Int32) + Int32.ofNat w) = Int32.ofNat (2 ^ z - 1 + w) := by rw [w_pow z (by omega), bp_add]
      have k1 : bc_BR_number_L39 N a1 a2 (Int32.ofNat z) (cb c (Int32.ofNat (r + 8)) 0) = bc_BR_number_L68 N a1 a2 (Int32.ofNat z) (Int32.ofNat w) (cb c (Int32.ofNat (r + z + 8)) 0) := by
        have := c_tail N a1 a2 h (z := z) (by omega) z 0 N r 0 (by omega) (by omega) hlen
        rw [hw1'] at this
        exact this
      have k2 := m_bits N hN h (k := z) (p := r) (by omega) hlen
      rw [hw1'] at k2
      refine ⟨2 ^ z - 1 + w, Int32.ofNat (r + z + 8), Int32.ofNat (r + z), 0, by omega, fun _ => ⟨r + z, hlen, rfl, rfl⟩, fun hn => absurd rfl hn, fun _ => ⟨fun hle => ?_, fun hle ha2 => ?_, fun hle => ?_⟩⟩
      · rw [k1]
        simp only [bc_BR_number_L68, bp_nI, ev, if_pos hle, bc_BR_number_L89, cb_3, not_true, if_false, bc_BR_number_L102]
      · rw [k1]
        simp only [bc_BR_number_L68, bp_nI, ev, if_neg hle, c_fail, if_true, bp_cV, bc_BR_number_L89, cb_3, ha2, not_false_iff, bc_BR_number_L102]
      · simp only [bm_M_number_L67, k2, bp_cI, bp_nI, ev, mb_12, not_true, if_false, if_pos hle, bm_M_number_L102, bm_M_number_L115]
    · obtain ⟨x, P2, k1⟩ := c_tailE N a1 a2 h (z := z) (by omega) z 0 N r 0 (by omega) (by omega) hr (by omega)
      have k1' : bc_BR_number_L39 N a1 a2 (Int32.ofNat z) (cb c (Int32.ofNat (r + 8)) 0) = bc_BR_number_L68 N a1 a2 (Int32.ofNat z) x (cb c P2 4) := k1
      have k2 := m_bitsE N h (k := z) (p := r) (by omega) (by omega) hr
      refine ⟨0, P2, Int32.ofNat r, 4, by omega, fun hn => absurd hn bp_n40, fun _ => ⟨?_, ?_⟩, fun hn => absurd hn bp_n40⟩
      · rw [k1', c_68F N _ _ _ _ bp_n40]
      · simp only [bm_M_number_L67, k2, bp_cI, bp_nI, mb_12, bp_n40, not_false_iff, if_true, bm_M_number_L102, bm_M_number_L115]
  · obtain ⟨x, k1⟩ := c_tailF N a1 a2 (c := c) (P := P1) hf1 (z := z) (by omega) z 0 N 0 (by omega) (by omega)
    have k1' : bc_BR_number_L39 N a1 a2 (Int32.ofNat z) (cb c P1 f1) = bc_BR_number_L68 N a1 a2 (Int32.ofNat z) x (cb c P1 f1) := k1
    exact ⟨0, P1, Q1, f1, by omega, q3, fun _ => ⟨by rw [k1', c_68F N _ _ _ _ hf1], m_67F N _ _ _ hf1⟩, fun hn => absurd hn hf1⟩
/-- the step to a coefficient's place: bounded at once, or checked behind -/
theorem z_place (N : Nat) (hN : 4000 ≤ N) {d p : Nat} (hp : p ≤ 16) {c m : bp_M} (h : rD d c m) (h0 : c.1 6 3 = 0) : ∃ v v2 c1 m1 s, bc_BR_number N (15 - Int32.ofNat p) 5 c = some (v, c1) ∧ bm_M_number N 5000 5 m = some (v2, m1) ∧ s = (if ¬ m1.1 0 12 = 0 then m1.1 0 12 else if (Int32.ofNat p + v2) ≤ 15 then m1.1 0 12 else 5) ∧ rT d c m c1 (bp_sI m1 0 12 s) ∧ (c1.1 6 3 = 0 → v2 = v) ∧ ∃ w, v = Int32.ofNat w ∧ w ≤ 15 ∧ (c1.1 6 3 = 0 → p + w ≤ 15) := by
  obtain ⟨hb, hf, hr⟩ := id h
  rw [h0] at hr
  have hm0 : m.1 0 12 = 0 := by rw [← hf]; exact h0
  obtain ⟨w, P1, Q1, f0, hw, q1, q2, q3⟩ := n_gen N hN (15 - Int32.ofNat p) 5000 5 hb hr
  have ec : cb c (c.1 6 1) 0 = c := by have := cb_id c; rw [h0] at this; exact this
  have em : mb m (m.1 0 11) 0 = m := by have := mb_id m; rw [hm0] at this; exact this
  rw [ec, em] at q2 q3
  have hh : ∀ f : Int32, (¬ c.1 6 3 = 0 → f = c.1 6 3) := fun f hn => absurd h0 hn
  by_cases hf0 : f0 = 0
  · subst hf0
    obtain ⟨k1, k2, k3⟩ := q3 rfl
    have k3' := k3 ((bp_le (b := 5000) (by omega) (by omega)).mpr (by omega))
    have hle : Int32.ofNat w ≤ 15 - Int32.ofNat p ↔ p + w ≤ 15 := by
      by_cases h16 : p = 16
      · subst h16
        constructor
        · intro e
          have e2 : (15 - Int32.ofNat 16 : Int32) < 0 := by decide
          rw [Int32.le_iff_toInt_le] at e
          rw [Int32.lt_iff_toInt_lt] at e2
          have e3 := bp_toInt (show w < 2147483648 by omega)
          have e4 : (0 : Int32).toInt = 0 := rfl
          omega
        · intro e; omega
      · rw [show (15 : Int32) - Int32.ofNat p = Int32.ofNat (15 - p) from bp_sub (a := 15) (by omega), bp_le (by omega) (by omega)]
        omega
    have hle2 : (Int32.ofNat p + Int32.ofNat w) ≤ 15 ↔ p + w ≤ 15 := by
      rw [bp_add]
      exact bp_le (b := 15) (by omega) (by omega)
    by_cases hpw : p + w ≤ 15
    · refine ⟨Int32.ofNat w, Int32.ofNat w, _, _, _, k1 (hle.mpr hpw), k3', rfl, ?_, fun _ => rfl, w, rfl, by omega, fun _ => hpw⟩
      rw [mb_12, if_neg (fun hn => hn rfl), if_pos (hle2.mpr hpw), mb_f]
      exact rT.b h q1 (hh _)
    · refine ⟨0, Int32.ofNat w, _, _, _, k2 (fun e => hpw (hle.mp e)) bp_n50, k3', rfl, ?_, fun hn => ?_, 0, rfl, by omega, fun hn => ?_⟩
      · rw [mb_12, if_neg (fun hn => hn rfl), if_neg (fun e => hpw (hle2.mp e)), mb_f]
        exact rT.b h (fun hn => absurd hn bp_n50) (hh _)
      · rw [cb_3] at hn; exact absurd hn bp_n50
      · rw [cb_3] at hn; exact absurd hn bp_n50
  · obtain ⟨k1, k2⟩ := q2 hf0
    refine ⟨0, 0, _, _, _, k1, k2, rfl, ?_, fun _ => rfl, 0, rfl, by omega, fun hn => ?_⟩
    · rw [mb_12, if_pos hf0, mb_f]
      exact rT.b h q1 (hh _)
    · rw [cb_3] at hn; exact absurd hn hf0
/-- the weight at place p -/
def wt (p : Nat) : Int32 := if ¬ (((st_S p / 4 : Int32) - (st_S p / 4 : Int32) / 2 * 2 : Int32) + (st_S p - st_S p / 2 * 2 : Int32) : Int32) = 0 then (if ¬ (((st_S p / 4 : Int32) - (st_S p / 4 : Int32) / 2 * 2 : Int32) + (st_S p - st_S p / 2 * 2 : Int32) : Int32) = 1 then 16 else 13) else 10
theorem wt_m : ∀ p, p < 16 → (if ¬ ((im_0.1 1 p + im_0.1 2 p : Int32) - (im_0.1 1 p + im_0.1 2 p : Int32) / 2 * 2 : Int32) = 1 then (if ¬ (im_0.1 1 p - im_0.1 1 p / 2 * 2 : Int32) = 0 then (16 : Int32) else 10) else 13) = wt p := by decide +kernel
theorem st_m : ∀ p, p < 16 → ((4 * im_0.1 1 p : Int32) + im_0.1 2 p : Int32) = st_S p := by decide +kernel
theorem st_i : ∀ p, p < 16 → ¬ (st_S p < 0) ∧ (st_S p).toNatClampNeg < 16 := by decide +kernel
theorem st_in {p : Nat} (h : p < 16) : vp_in (st_S p) 16 := by
  rintro (h1 | h1)
  · exact (st_i p h).1 h1
  · have := (st_i p h).2; omega
theorem wt_q : ∀ p, p < 16 → ∀ n, n < 12 → ((wt p * (4 + (Int32.ofNat n - Int32.ofNat n / 4 * 4 : Int32) : Int32) : Int32) <<< ((Int32.ofNat n / 4 : Int32) &&& 31 : Int32) : Int32) = (wt p * (4 + (Int32.ofNat n - Int32.ofNat n / 4 * 4 : Int32) : Int32) : Int32) * (1 <<< ((Int32.ofNat n / 4 : Int32) &&& 31 : Int32) : Int32) := by decide +kernel
def ws (p : Nat) (q : Int32) : Int32 := (wt p * (4 + (q - q / 4 * 4 : Int32) : Int32) : Int32) <<< ((q / 4 : Int32) &&& 31 : Int32)
theorem c_scale (N p : Nat) (c : bp_M) : bc_PD_scaleAt N (st_S p) c = some (ws p (c.1 3 10), c) := by
  unfold bc_PD_scaleAt bc_PD_scaleAt_L31 ws wt
  simp only [bp_nI]
  split
  · split <;> rfl
  · rfl
theorem c_74 (N : Nat) (r : Int32 → Int32 → Int32 → bp_M → Option bp_M) {p : Nat} (hp : p < 16) (a b lev : Int32) (c : bp_M) : bc_PD_readResidual_L74 r N a (Int32.ofNat p) b lev c = r a (Int32.ofNat (p + 1)) (b + 1) (bp_sI c 19 (st_S p).toNatClampNeg (lev * ws p (c.1 3 10))) := by
  have i1 : vp_in (Int32.ofNat p) 16 := bp_in (by omega) hp
  simp only [bc_PD_readResidual_L74, if_neg (ge16 hp), bp_git i1, bp_tn (show p < 2147483648 by omega), c_scale, bp_cI, bp_git (st_in hp), bp_nM, bc_PD_readResidual_L102, bp_nI, bp_inc]
theorem c_74o (N : Nat) (r : Int32 → Int32 → Int32 → bp_M → Option bp_M) {p : Nat} (hp : 16 ≤ p) (hp2 : p < 1000) (a b lev : Int32) (c : bp_M) : bc_PD_readResidual_L74 r N a (Int32.ofNat p) b lev c = r a (Int32.ofNat (p + 1)) (b + 1) c := by
  have e : (16 : Int32) ≤ Int32.ofNat p := (bp_le (a := 16) (by omega) (by omega)).mpr hp
  simp only [bc_PD_readResidual_L74, if_pos e, bc_PD_readResidual_L102, bp_nI, bp_inc]
/-- behind a failure -/
theorem c_resF (N : Nat) (hN : 4000 ≤ N) : ∀ (j k n p : Nat) (c : bp_M), k + j ≤ 100 → p + j ≤ 100 → j < n → ¬ c.1 6 3 = 0 → ∃ c1, bc_PD_readResidual_L25 N n (Int32.ofNat (k + j)) (Int32.ofNat p) (Int32.ofNat k) c = some c1 ∧ cF [19] c c1 := by
  intro j
  induction j with
  | zero =>
    intro k n p c hk hp hn hf
    obtain ⟨n, rfl⟩ := Nat.exists_eq_succ_of_ne_zero (by omega : n ≠ 0)
    have e : Int32.ofNat (k + 0) ≤ Int32.ofNat k := (bp_le (by omega) (by omega)).mpr (by omega)
    refine ⟨c, ?_, cF.rf _ _⟩
    rw [bc_PD_readResidual_L25, if_pos e]
    rfl
  | succ j ih =>
    intro k n p c hk hp hn hf
    obtain ⟨n, rfl⟩ := Nat.exists_eq_succ_of_ne_zero (by omega : n ≠ 0)
    have e : ¬ Int32.ofNat (k + (j + 1)) ≤ Int32.ofNat k := fun e => by have := (bp_le (by omega) (by omega)).mp e; omega
    have hr : ∀ c0 : bp_M, (¬ c0.1 6 3 = 0) → ∃ c1, bc_PD_readResidual_L25 N n (Int32.ofNat (k + (j + 1))) (Int32.ofNat (p + 1)) (Int32.ofNat (k + 1)) c0 = some c1 ∧ cF [19] c0 c1 := fun c0 h0 => by
      have := ih (k + 1) n (p + 1) c0 (by omega) (by omega) (by omega) h0
      rw [show k + 1 + j = k + (j + 1) by omega] at this
      exact this
    have e2 : bc_PD_readResidual_L25 N (n + 1) (Int32.ofNat (k + (j + 1))) (Int32.ofNat p) (Int32.ofNat k) c = bc_PD_readResidual_L74 (bc_PD_readResidual_L25 N n) N (Int32.ofNat (k + (j + 1))) (Int32.ofNat p) (Int32.ofNat k) 0 c := by
      rw [bc_PD_readResidual_L25, if_neg e]
      simp only [c_numFM N hN _ _ hf, bp_cI, bp_nI, c_sgn, sg_0, not_true, if_false, c_failM, if_neg hf, bp_sid, bp_cV, Int32.add_zero]
    rw [e2]
    by_cases h16 : p < 16
    · rw [c_74 N _ h16, bp_inc]
      obtain ⟨c1, q1, q2⟩ := hr (bp_sI c 19 (st_S p).toNatClampNeg (0 * ws p (c.1 3 10))) (by rw [bp_s1o _ _ _ _ (by decide)]; exact hf)
      exact ⟨c1, q1, ((cF.rf [19] c).s _ (by decide)).tr q2⟩
    · rw [c_74o N _ (by omega) (by omega), bp_inc]
      exact hr c hf
theorem z_resl (N : Nat) (hN : 4000 ≤ N) (b : Int32) {d : Nat} : ∀ (j k n n2 p : Nat) (c m : bp_M), k + j ≤ 16 → p ≤ 16 → j < n → j < n2 → rD d c m → c.1 6 3 = 0 → c.1 3 10 = m.1 0 19 → jr 0 11 (m.1 0 19) → jC m → (∀ i, i < 16 → c.1 19 i = m.1 11 i) → ∃ c1 m1, bc_PD_readResidual_L25 N n (Int32.ofNat (k + j)) (Int32.ofNat p) (Int32.ofNat k) c = some c1 ∧ bm_M_residual_L31 N b n2 (Int32.ofNat (k + j)) (Int32.ofNat p) (Int32.ofNat k) m = some m1 ∧ rD d c1 m1 ∧ cF [6, 19] c c1 ∧ mF [11] m m1 ∧ (c1.1 6 3 = 0 → ∀ i, i < 16 → c1.1 19 i = m1.1 11 i) := by
  intro j
  induction j with
  | zero =>
    intro k n n2 p c m hk hp hn hn2 h h0 hq hq2 hC h19
    obtain ⟨n, rfl⟩ := Nat.exists_eq_succ_of_ne_zero (by omega : n ≠ 0)
    obtain ⟨n2, rfl⟩ := Nat.exists_eq_succ_of_ne_zero (by omega : n2 ≠ 0)
    have e : Int32.ofNat (k + 0) ≤ Int32.ofNat k := (bp_le (by omega) (by omega)).mpr (by omega)
    refine ⟨c, m, ?_, ?_, h, cF.rf _ _, mF.rf _ _, fun _ => h19⟩
    · rw [bc_PD_readResidual_L25, if_pos e]; rfl
    · rw [bm_M_residual_L31, if_pos e]; rfl
  | succ j ih =>
    intro k n n2 p c m hk hp hn hn2 h h0 hq hq2 hC h19
    obtain ⟨n, rfl⟩ := Nat.exists_eq_succ_of_ne_zero (by omega : n ≠ 0)
    obtain ⟨n2, rfl⟩ := Nat.exists_eq_succ_of_ne_zero (by omega : n2 ≠ 0)
    have e : ¬ Int32.ofNat (k + (j + 1)) ≤ Int32.ofNat k := fun e => by have := (bp_le (by omega) (by omega)).mp e; omega
    have h12 : m.1 0 12 = 0 := by rw [← h.2.1]; exact h0
    obtain ⟨v, v2, c1, m1, s, q1, q2, qs, q3, q4, w, q5, q6, q7⟩ := z_place N hN hp h h0
    obtain ⟨u, c2, m3, t1, t2, t3, t4, -, -⟩ := z_sgn N hN q3.1
    obtain ⟨c3, hc3⟩ : ∃ c3, c3 = if ¬ sg u = 0 then c2 else bp_sI c2 6 3 (if c2.1 6 3 = 0 then 5 else c2.1 6 3) := ⟨_, rfl⟩
    obtain ⟨s3, hs3⟩ : ∃ s3, s3 = if ¬ m3.1 0 12 = 0 then m3.1 0 12 else if ¬ sg u = 0 then m3.1 0 12 else 5 := ⟨_, rfl⟩
    have eC : bc_PD_readResidual_L25 N (n + 1) (Int32.ofNat (k + (j + 1))) (Int32.ofNat p) (Int32.ofNat k) c = bc_PD_readResidual_L74 (bc_PD_readResidual_L25 N n) N (Int32.ofNat (k + (j + 1))) (Int32.ofNat (p + w)) (Int32.ofNat k) (sg u) c3 := by
      rw [bc_PD_readResidual_L25, if_neg e]
      simp only [q1, bp_cI, bp_nI, t1, c_sgn, c_failM, bp_cV]
      rw [hc3, q5, bp_add]
      split <;> rfl
    have eM : bm_M_residual_L31 N b (n2 + 1) (Int32.ofNat (k + (j + 1))) (Int32.ofNat p) (Int32.ofNat k) m = bm_M_residual_L107 (bm_M_residual_L31 N b n2) N b (Int32.ofNat (k + (j + 1))) (Int32.ofNat p + v2) (Int32.ofNat k) (sg u) s3 m3 := by
      have e77 : bm_M_residual_L77 (bm_M_residual_L31 N b n2) N b (Int32.ofNat (k + (j + 1))) (Int32.ofNat p + v2) (Int32.ofNat k) s m1 = bm_M_residual_L107 (bm_M_residual_L31 N b n2) N b (Int32.ofNat (k + (j + 1))) (Int32.ofNat p + v2) (Int32.ofNat k) (sg u) s3 m3 := by
        simp only [bm_M_residual_L77, bp_nM, t2, bp_cI, bm_M_residual_L103]
        rw [hs3]
        split
        · rfl
        · split <;> rfl
      rw [bm_M_residual_L31, if_neg e, if_neg (fun hn => hn h12), ← e77]
      simp only [q2, bp_cI, bp_nI, bm_M_residual_L73]
      rw [qs]
      split
      · rfl
      · split <;> rfl
    have R3 : rT d c2 m3 c3 (bp_sI m3 0 12 s3) ∧ (c3.1 6 3 = 0 → ¬ sg u = 0) := by
      by_cases hu : sg u = 0
      · have e3 : s3 = if m3.1 0 12 = 0 then 5 else m3.1 0 12 := by
          rw [hs3]
          by_cases hz : m3.1 0 12 = 0
          · rw [if_neg (fun hn => hn hz), if_neg (fun hn => hn hu), if_pos hz]
          · rw [if_pos hz, if_neg hz]
        rw [hc3, if_neg (fun hn => hn hu), e3]
        refine ⟨rT.f t3.1 bp_n50, fun hn => ?_⟩
        rw [bp_s1e] at hn
        split at hn
        · exact absurd hn bp_n50
        · contradiction
      · have e3 : s3 = m3.1 0 12 := by
          rw [hs3]
          split
          · rfl
          · rfl
        rw [hc3, if_pos hu, e3, bp_sid]
        exact ⟨rT.rf t3.1, fun _ => hu⟩
    obtain ⟨R3, hu3⟩ := R3
    have fcR := (q3.2.1.tr t3.2.1).tr R3.2.1
    have fmR := (q3.2.2.1.tr t3.2.2.1).tr R3.2.2.1
    have fc : cF [6, 19] c c3 := fcR.up (by decide)
    have fm : mF [11] m (bp_sI m3 0 12 s3) := fmR.up (by decide)
    rw [eC, eM]
    by_cases hf3 : c3.1 6 3 = 0
    · have z2 := R3.z hf3
      have z1 := t3.z z2
      have hpw := q7 z1
      have m12 : (bp_sI m3 0 12 s3).1 0 12 = 0 := by rw [← R3.1.2.1]; exact hf3
      have c10 : c3.1 3 10 = m.1 0 19 := by rw [fc.2 3 (by decide)]; exact hq
      have m19 : (bp_sI m3 0 12 s3).1 0 19 = m.1 0 19 := fm.2 19 (by decide) (by decide)
      have j1 : (bp_sI m3 0 12 s3).1 1 (p + w) = im_0.1 1 (p + w) := by rw [fm.1 1 (by decide) (by decide)]; exact (hC _ (by omega)).1
      have j2 : (bp_sI m3 0 12 s3).1 2 (p + w) = im_0.1 2 (p + w) := by rw [fm.1 2 (by decide) (by decide)]; exact (hC _ (by omega)).2.1
      have i1 : vp_in (Int32.ofNat (p + w)) 16 := bp_in (by omega) (by omega)
      have ew := wt_m (p + w) (by omega)
      have e107 : bm_M_residual_L107 (bm_M_residual_L31 N b n2) N b (Int32.ofNat (k + (j + 1))) (Int32.ofNat p + v2) (Int32.ofNat k) (sg u) s3 m3 = bm_M_residual_L31 N b n2 (Int32.ofNat (k + (j + 1))) (Int32.ofNat (p + w + 1)) (Int32.ofNat (k + 1)) (bp_sI (bp_sI m3 0 12 s3) 11 (st_S (p + w)).toNatClampNeg (sg u * ws (p + w) (c3.1 3 10))) := by
        have ev : ∀ x : Int32, x = wt (p + w) → (((sg u * x : Int32) * (4 + (m.1 0 19 - m.1 0 19 / 4 * 4 : Int32) : Int32) : Int32) * (1 <<< ((m.1 0 19 / 4 : Int32) &&& 31 : Int32) : Int32) : Int32) = sg u * ws (p + w) (c3.1 3 10) := fun x hx => by
          obtain ⟨nq, -, hnq, eq⟩ := hq2
          rw [c10, hx, eq]
          unfold ws
          rw [wt_q (p + w) (by omega) nq (by omega), Int32.mul_assoc, Int32.mul_assoc, Int32.mul_assoc]
        rw [q4 z1, q5, bp_add]
        simp only [bm_M_residual_L107, bp_nM, m12, not_true, if_false, bp_git i1, bp_tn (show p + w < 2147483648 by omega), j1, j2, bp_nI, bm_M_residual_L163, st_m (p + w) (by omega), bp_git (st_in (show p + w < 16 by omega)), m19, bm_M_residual_L200, bp_inc]
        by_cases c1 : ((im_0.1 1 (p + w) + im_0.1 2 (p + w) : Int32) - (im_0.1 1 (p + w) + im_0.1 2 (p + w) : Int32) / 2 * 2 : Int32) = 1
        · rw [if_neg (fun hn => hn c1)] at ew ⊢
          rw [ev _ ew]
        · rw [if_pos c1] at ew ⊢
          by_cases c2 : (im_0.1 1 (p + w) - im_0.1 1 (p + w) / 2 * 2 : Int32) = 0
          · rw [if_neg (fun hn => hn c2)] at ew ⊢
            rw [ev _ ew]
          · rw [if_pos c2] at ew ⊢
            rw [ev _ ew]
      rw [c_74 N _ (by omega), e107, bp_inc]
      obtain ⟨c4, m5, g1, g2, g3, g4, g5, g6⟩ := ih (k + 1) n n2 (p + w + 1) (bp_sI c3 19 (st_S (p + w)).toNatClampNeg (sg u * ws (p + w) (c3.1 3 10))) (bp_sI (bp_sI m3 0 12 s3) 11 (st_S (p + w)).toNatClampNeg (sg u * ws (p + w) (c3.1 3 10))) (by omega) (by omega) (by omega) (by omega) (R3.1.of (fun y => bp_s1o _ _ _ _ (by decide) y) (fun y => bp_s1o _ _ _ _ (by decide) y) (bp_s1o _ _ _ _ (by decide) _) (bp_s1o _ _ _ _ (by decide) _) (bp_s1o _ _ _ _ (by decide) _) (fun y => bp_s1o _ _ _ _ (by decide) y)) (by rw [bp_s1o _ _ _ _ (by decide)]; exact hf3) (by rw [bp_s1o _ _ _ _ (by decide), bp_s1o _ _ _ _ (by decide), m19]; exact c10) (by rw [bp_s1o _ _ _ _ (by decide), m19]; exact hq2) (jC_of hC (fun o ho y => by rw [bp_s1o _ _ _ _ (by omega), fm.1 o (by omega) (by simp; omega)])) (fun i hi => by
        rw [bp_s1, bp_s1]
        by_cases hi2 : i = (st_S (p + w)).toNatClampNeg
        · rw [if_pos ⟨rfl, hi2⟩, if_pos ⟨rfl, hi2⟩]
        · rw [if_neg (fun e => hi2 e.2), if_neg (fun e => hi2 e.2), fcR.2 19 (by decide), fmR.1 11 (by decide) (by simp)]
          exact h19 i hi)
      rw [show k + 1 + j = k + (j + 1) by omega] at g1 g2
      exact ⟨c4, m5, g1, g2, g3, (fc.s _ (by decide)).tr g4, (fm.s _ (by decide) (by decide)).tr g5, g6⟩
    · have m12 : ¬ (bp_sI m3 0 12 s3).1 0 12 = 0 := by rw [← R3.1.2.1]; exact hf3
      have e107 : bm_M_residual_L107 (bm_M_residual_L31 N b n2) N b (Int32.ofNat (k + (j + 1))) (Int32.ofNat p + v2) (Int32.ofNat k) (sg u) s3 m3 = some (bp_sI m3 0 12 s3) := by
        obtain ⟨n2, rfl⟩ := Nat.exists_eq_succ_of_ne_zero (by omega : n2 ≠ 0)
        simp only [bm_M_residual_L107, bp_nM, m12, not_false_iff, if_true, bm_M_residual_L200, bp_nI, bp_inc]
        rw [bm_M_residual_L31]
        simp only [m12, not_false_iff, if_true, bm_M_residual_L209]
        split <;> rfl
      rw [e107]
      have hr : ∀ c0 : bp_M, (¬ c0.1 6 3 = 0) → ∃ c1, bc_PD_readResidual_L25 N n (Int32.ofNat (k + (j + 1))) (Int32.ofNat (p + w + 1)) (Int32.ofNat (k + 1)) c0 = some c1 ∧ cF [19] c0 c1 := fun c0 h0 => by
        have := c_resF N hN j (k + 1) n (p + w + 1) c0 (by omega) (by omega) (by omega) h0
        rw [show k + 1 + j = k + (j + 1) by omega] at this
        exact this
      have key : ∃ c5, bc_PD_readResidual_L74 (bc_PD_readResidual_L25 N n) N (Int32.ofNat (k + (j + 1))) (Int32.ofNat (p + w)) (Int32.ofNat k) (sg u) c3 = some c5 ∧ cF [19] c3 c5 := by
        by_cases h16 : p + w < 16
        · rw [c_74 N _ h16, bp_inc]
          obtain ⟨c1, q1, q2⟩ := hr (bp_sI c3 19 (st_S (p + w)).toNatClampNeg (sg u * ws (p + w) (c3.1 3 10))) (by rw [bp_s1o _ _ _ _ (by decide)]; exact hf3)
          exact ⟨c1, q1, ((cF.rf [19] c3).s _ (by decide)).tr q2⟩
        · rw [c_74o N _ (by omega) (by omega), bp_inc]
          exact hr c3 hf3
      obtain ⟨c5, g1, g2⟩ := key
      refine ⟨c5, _, g1, rfl, R3.1.of (fun y => g2.2 6 (by decide) y) (fun y => g2.2 16 (by decide) y) rfl rfl rfl (fun _ => rfl), fc.tr (g2.up (by decide)), fm, fun hn => ?_⟩
      rw [g2.2 6 (by decide)] at hn
      exact absurd hn hf3
theorem c_fill (N : Nat) : ∀ (j k n : Nat) (c : bp_M), k + j = 16 → j < n → ∃ c1, bc_fill_L5 N 19 0 n (Int32.ofNat k) (Int32.ofNat 16) c = some c1 ∧ cF [19] c c1 ∧ (∀ i, i < k → c1.1 19 i = c.1 19 i) ∧ ∀ i, k ≤ i → i < 16 → c1.1 19 i = 0 := by
  intro j
  induction j with
  | zero =>
    intro k n c hk hn
    obtain ⟨n, rfl⟩ := Nat.exists_eq_succ_of_ne_zero (by omega : n ≠ 0)
    obtain rfl : k = 16 := by omega
    refine ⟨c, ?_, cF.rf _ _, fun _ _ => rfl, fun i h1 h2 => by omega⟩
    rw [bc_fill_L5, if_pos (by decide)]
    rfl
  | succ j ih =>
    intro k n c hk hn
    obtain ⟨n, rfl⟩ := Nat.exists_eq_succ_of_ne_zero (by omega : n ≠ 0)
    have i1 : vp_in (Int32.ofNat k) (bc_len 19) := bp_in (by omega) (show k < 16 by omega)
    have hI : bc_isI 19 = true := by decide
    obtain ⟨c1, q1, q2, q3, q4⟩ := ih (k + 1) n (bp_sI c 19 k 0) (by omega) (by omega)
    refine ⟨c1, ?_, ((cF.rf [19] c).s _ (by decide)).tr q2, fun i hi => ?_, fun i h1 h2 => ?_⟩
    · rw [bc_fill_L5, if_neg (fun e => by have := (bp_le (by omega) (by omega)).mp e; omega)]
      simp only [bp_gt hI, bp_git i1, bp_tn (show k < 2147483648 by omega), bp_nM, bp_nI, bp_inc]
      exact q1
    · rw [q3 i (by omega), bp_s1k _ _ _ _ (by omega)]
    · by_cases he : i = k
      · subst he; rw [q3 i (by omega), bp_s1e]
      · exact q4 i (by omega) h2
/-- a residual behind its flag -/
theorem z_res (N : Nat) (hN : 4000 ≤ N) (b : Int32) {d : Nat} {c m : bp_M} (h : rD d c m) (hq : c.1 3 10 = m.1 0 19) (hq2 : jr 0 11 (m.1 0 19)) (hC : jC m) (h0 : ∀ i, i < 16 → m.1 11 i = 0) : ∃ c1 m1 m2 v, bc_PD_readResidual N c = some c1 ∧ bm_M_number N 15 5 m = some (v, m1) ∧ bm_M_residual_L31 N b N (v + 1) 0 0 m1 = some m2 ∧ rD d c1 m2 ∧ (¬ c.1 6 3 = 0 → c1.1 6 3 = c.1 6 3) ∧ cF [6, 19] c c1 ∧ mF [11] m m2 ∧ (c1.1 6 3 = 0 → ∀ i, i < 16 → c1.1 19 i = m2.1 11 i) := by
  obtain ⟨c0, p1, p2, -, p4⟩ := c_fill N 16 0 N c (by omega) (by omega)
  have p1' : bc_fill N 19 0 c = some c0 := by
    have hI : bc_isI 19 = true := by decide
    simp only [bc_fill, bp_gt hI, bp_nI]
    exact p1
  have h' : rD d c0 m := h.of (fun y => p2.2 6 (by decide) y) (fun y => p2.2 16 (by decide) y) rfl rfl rfl (fun _ => rfl)
  obtain ⟨v, c1, m1, q1, q2, q3, q4, q5, w, q6, q7⟩ := z_num N hN 15 15 5 (fun _ _ => Iff.rfl) bp_n50 h'
  have e3 : c0.1 6 3 = c.1 6 3 := p2.2 6 (by decide) 3
  have hv : v + 1 = Int32.ofNat (0 + (w + 1)) := by rw [q7, bp_inc, Nat.zero_add]
  by_cases hf : c1.1 6 3 = 0
  · have hw := q5 hf
    rw [q7] at hw
    have hw2 := (bp_le (b := 15) (by omega) (by omega)).mp hw
    obtain ⟨c2, m2, g1, g2, g3, g4, g5, g6⟩ := z_resl N hN b (w + 1) 0 N N 0 c1 m1 (by omega) (by omega) (by omega) (by omega) q3.1 hf (by rw [q3.2.1.2 3 (by decide), p2.2 3 (by decide), q3.2.2.1.2 19 (by decide) (by decide)]; exact hq) (by rw [q3.2.2.1.2 19 (by decide) (by decide)]; exact hq2) (jC_of hC (fun o ho y => q3.2.2.1.1 o (by omega) (by simp) y)) (fun i hi => by rw [q3.2.1.2 19 (by decide), p4 i (by omega) hi, q3.2.2.1.1 11 (by decide) (by simp), h0 i hi])
    refine ⟨c2, m1, m2, v, ?_, q2, ?_, g3, fun hn => ?_, ((p2.up (by decide)).tr (q3.2.1.up (by decide))).tr g4, (q3.2.2.1.up (by decide)).tr g5, g6⟩
    · simp only [bc_PD_readResidual, p1', bp_cV, q1, bp_cI, bp_nI, hv]
      exact g1
    · rw [hv]; exact g2
    · exact absurd (by rw [← e3]; exact q3.z hf) hn
  · have hv0 := q4 hf
    have m12 : ¬ m1.1 0 12 = 0 := by rw [← q3.1.2.1]; exact hf
    obtain ⟨c2, g1, g2⟩ := c_resF N hN 1 0 N 0 c1 (by omega) (by omega) (by omega) hf
    have e6 : ∀ y, c2.1 6 y = c1.1 6 y := fun y => g2.2 6 (by decide) y
    refine ⟨c2, m1, m1, v, ?_, q2, ?_, q3.1.of e6 (fun y => g2.2 16 (by decide) y) rfl rfl rfl (fun _ => rfl), fun hn => ?_, ((p2.up (by decide)).tr (q3.2.1.up (by decide))).tr (g2.up (by decide)), q3.2.2.1.up (by decide), fun hn => ?_⟩
    · simp only [bc_PD_readResidual, p1', bp_cV, q1, bp_cI, bp_nI, hv0]
      exact g1
    · obtain ⟨k, rfl⟩ : ∃ k, N = k + 1 := ⟨N - 1, by omega⟩
      rw [bm_M_residual_L31]
      simp only [m12, not_false_iff, if_true, bm_M_residual_L209]
      split <;> rfl
    · rw [e6, ← e3]; exact q3.2.2.2 (by rw [e3]; exact hn)
    · rw [e6] at hn; exact absurd hn hf

/-! Vectors: predicted against guessed, bounds, the half samples of a block. -/
def jv (v : Int32) : Prop := ∃ t : Nat, t ≤ 128 ∧ v = Int32.ofNat t - 64
theorem jv_i {v : Int32} (h : jv v) : -64 ≤ v.toInt ∧ v.toInt ≤ 64 := by
  obtain ⟨t, ht, rfl⟩ := h
  rw [Int32.toInt_sub, bp_toInt (by omega), show (64 : Int32).toInt = 64 from rfl, Int.bmod_eq_of_le (by omega) (by omega)]
  omega
theorem jv_of {v : Int32} (h1 : -64 ≤ v.toInt) (h2 : v.toInt ≤ 64) : jv v := by
  refine ⟨(v.toInt + 64).toNat, by omega, ?_⟩
  apply Int32.toInt_inj.mp
  rw [Int32.toInt_sub, bp_toInt (by omega), show (64 : Int32).toInt = 64 from rfl, Int.bmod_eq_of_le (by omega) (by omega)]
  omega
theorem jv_0 : jv 0 := ⟨64, by omega, by decide⟩
theorem mi_i (a b : Int32) : (if a < b then a else b).toInt = min a.toInt b.toInt := by
  by_cases h : a < b
  · rw [if_pos h]; rw [Int32.lt_iff_toInt_lt] at h; omega
  · rw [if_neg h]; rw [Int32.lt_iff_toInt_lt] at h; omega
theorem ma_i (a b : Int32) : (if a < b then b else a).toInt = max a.toInt b.toInt := by
  by_cases h : a < b
  · rw [if_pos h]; rw [Int32.lt_iff_toInt_lt] at h; omega
  · rw [if_neg h]; rw [Int32.lt_iff_toInt_lt] at h; omega
/-- the middle one -/
def md3 (x2 x3 s0 : Int32) : Int32 := if (if x3 < x2 then x3 else x2) < (if s0 < (if x2 < x3 then x3 else x2) then s0 else (if x2 < x3 then x3 else x2)) then (if s0 < (if x2 < x3 then x3 else x2) then s0 else (if x2 < x3 then x3 else x2)) else (if x3 < x2 then x3 else x2)
theorem md3_i (a b c : Int32) : (md3 a b c).toInt = max (min b.toInt a.toInt) (min c.toInt (max a.toInt b.toInt)) := by
  unfold md3
  rw [ma_i, mi_i, mi_i, ma_i]
theorem m_middle (N : Nat) (a b c : Int32) (m : bp_M) : bm_M_middle N a b c m = some (md3 a b c, m) := by
  have key : ∀ x : Int32, x.toInt = max (min b.toInt a.toInt) (min c.toInt (max a.toInt b.toInt)) → some (x, m) = some (md3 a b c, m) := fun x hx => by
    rw [show x = md3 a b c from Int32.toInt_inj.mp (by rw [md3_i]; exact hx)]
  unfold bm_M_middle bm_M_middle_L10 bm_M_middle_L21 bm_M_middle_L44
  simp only [Int32.le_iff_toInt_le]
  by_cases h : b.toInt ≤ a.toInt
  · simp only [if_pos h]
    by_cases h2 : b.toInt ≤ c.toInt
    · simp only [if_pos h2]
      by_cases h3 : c.toInt ≤ a.toInt
      · rw [if_pos h3]; exact key _ (by omega)
      · rw [if_neg h3]; exact key _ (by omega)
    · rw [if_neg h2]; exact key _ (by omega)
  · simp only [if_neg h]
    by_cases h2 : a.toInt ≤ c.toInt
    · simp only [if_pos h2]
      by_cases h3 : c.toInt ≤ b.toInt
      · rw [if_pos h3]; exact key _ (by omega)
      · rw [if_neg h3]; exact key _ (by omega)
    · rw [if_neg h2]; exact key _ (by omega)
/-- the predicted part of block n, out of row f -/
def pd (f : Nat → Int32) (n : Nat) : Int32 := if 4 ≤ n then md3 (if n % 4 = 0 then 0 else f (n - 1)) (f (n - 4)) (if n % 4 = 3 then f (n - 5) else f (n - 3)) else (if n % 4 = 0 then 0 else f (n - 1))
theorem pd_e {f g : Nat → Int32} {n : Nat} (h : ∀ j, j < n → f j = g j) : pd f n = pd g n := by
  unfold pd
  by_cases h0 : n % 4 = 0 <;> by_cases h4 : 4 ≤ n <;> by_cases h3 : n % 4 = 3 <;> simp only [h0, h4, h3, if_true, if_false] <;> (try rw [h (n - 1) (by omega)]) <;> (try rw [h (n - 4) (by omega)]) <;> (try rw [h (n - 5) (by omega)]) <;> (try rw [h (n - 3) (by omega)])
theorem pd_v {f : Nat → Int32} {n : Nat} (h : ∀ j, j < n → jv (f j)) : jv (pd f n) := by
  have hl : jv (if n % 4 = 0 then 0 else f (n - 1)) := by
    split
    · exact jv_0
    · exact h _ (by omega)
  unfold pd
  by_cases h4 : 4 ≤ n
  · have ha := h (n - 4) (by omega)
    have hc : jv (if n % 4 = 3 then f (n - 5) else f (n - 3)) := by
      split
      · exact h _ (by omega)
      · exact h _ (by omega)
    rw [if_pos h4]
    have a1 := jv_i hl
    have a2 := jv_i ha
    have a3 := jv_i hc
    exact jv_of (by rw [md3_i]; omega) (by rw [md3_i]; omega)
  · rw [if_neg h4]; exact hl
theorem m4_z {n : Nat} (hn : n < 16) : ((Int32.ofNat n - Int32.ofNat n / 4 * 4 : Int32) = 0 ↔ n % 4 = 0) := by
  rw [b4 (by omega), r4 (by omega)]
  exact bp_eq (b := 0) (by omega) (by omega)
theorem m4_3 {n : Nat} (hn : n < 16) : ((Int32.ofNat n - Int32.ofNat n / 4 * 4 : Int32) = 3 ↔ n % 4 = 3) := by
  rw [b4 (by omega), r4 (by omega)]
  exact bp_eq (b := 3) (by omega) (by omega)
theorem le_4 {n : Nat} (hn : n < 16) : (4 ≤ Int32.ofNat n ↔ 4 ≤ n) := bp_le (a := 4) (by omega) (by omega)
theorem c_predicted (N : Nat) {a n : Nat} (ha : bc_isI a = true) (hl : bc_len a = 16) (hn : n < 16) (c : bp_M) : bc_RO_predicted N a (Int32.ofNat n) c = some (pd (c.1 a) n, c) := by
  have s1 : 1 ≤ n → Int32.ofNat n - 1 = Int32.ofNat (n - 1) := fun h => bp_sub (b := 1) h
  have s3 : 3 ≤ n → Int32.ofNat n - 3 = Int32.ofNat (n - 3) := fun h => bp_sub (b := 3) h
  have s4 : 4 ≤ n → Int32.ofNat n - 4 = Int32.ofNat (n - 4) := fun h => bp_sub (b := 4) h
  have s5 : 5 ≤ n → Int32.ofNat n - 5 = Int32.ofNat (n - 5) := fun h => bp_sub (b := 5) h
  have gi : ∀ k, k < 16 → vp_in (Int32.ofNat k) (bc_len a) := fun k hk => by rw [hl]; exact bp_in (by omega) hk
  have tk : ∀ k, k < 16 → (Int32.ofNat k).toNatClampNeg = k := fun k hk => bp_tn (by omega)
  have e15 : ∀ s, bc_RO_predicted_L15 N a (Int32.ofNat n) s c = some (if 4 ≤ n then md3 s (c.1 a (n - 4)) (if n % 4 = 3 then c.1 a (n - 5) else c.1 a (n - 3)) else s, c) := fun s => by
    unfold bc_RO_predicted_L15
    by_cases h4 : 4 ≤ n
    · rw [if_pos ((le_4 hn).mpr h4), if_pos h4, bp_gt ha, s4 h4, bp_git (gi _ (by omega)), tk _ (by omega)]
      simp only [bp_nI]
      by_cases h3 : n % 4 = 3
      · rw [if_neg (fun hn2 => hn2 ((m4_3 hn).mpr h3)), if_pos h3, bp_gt ha, s5 (by omega), bp_git (gi _ (by omega)), tk _ (by omega)]
        rfl
      · rw [if_pos (fun e => h3 ((m4_3 hn).mp e)), if_neg h3, bp_gt ha, s3 (by omega), bp_git (gi _ (by omega)), tk _ (by omega)]
        rfl
    · rw [if_neg (fun e => h4 ((le_4 hn).mp e)), if_neg h4]
  unfold bc_RO_predicted pd
  by_cases h0 : n % 4 = 0
  · rw [if_neg (fun hn2 => hn2 ((m4_z hn).mpr h0)), e15, if_pos h0]
  · rw [if_pos (fun e => h0 ((m4_z hn).mp e)), bp_gt ha, s1 (by omega), bp_git (gi _ (by omega)), tk _ (by omega), e15, if_neg h0]
theorem m_guessed (N : Nat) {n : Nat} (hn : n < 16) (a2 : Int32) {o : Nat} (ho : o = if a2 = 0 then 8 else 9) (m : bp_M) : bm_M_guessed N (Int32.ofNat n) a2 m = some (pd (m.1 o) n, m) := by
  have s1 : 1 ≤ n → Int32.ofNat n - 1 = Int32.ofNat (n - 1) := fun h => bp_sub (b := 1) h
  have s3 : 3 ≤ n → Int32.ofNat n - 3 = Int32.ofNat (n - 3) := fun h => bp_sub (b := 3) h
  have s4 : 4 ≤ n → Int32.ofNat n - 4 = Int32.ofNat (n - 4) := fun h => bp_sub (b := 4) h
  have s5 : 5 ≤ n → Int32.ofNat n - 5 = Int32.ofNat (n - 5) := fun h => bp_sub (b := 5) h
  have gi : ∀ k, k < 16 → vp_in (Int32.ofNat k) 16 := fun k hk => bp_in (by omega) hk
  have tk : ∀ k, k < 16 → (Int32.ofNat k).toNatClampNeg = k := fun k hk => bp_tn (by omega)
  have e82 : ∀ (s b : Int32) (k : Nat), k < 16 → bm_M_guessed_L82 N (Int32.ofNat n) a2 s (Int32.ofNat k) b m = some (md3 s b (m.1 o k), m) := fun s b k hk => by
    unfold bm_M_guessed_L82 bm_M_guessed_L105
    rw [bp_git (gi k hk), bp_git (gi k hk), tk k hk, m_middle, m_middle, ho]
    by_cases h : a2 = 0
    · rw [if_pos h, if_pos h]; rfl
    · rw [if_neg h, if_neg h]; rfl
  have e57 : ∀ (s : Int32) (k : Nat), k < 16 → 4 ≤ n → bm_M_guessed_L57 N (Int32.ofNat n) a2 s (Int32.ofNat k) m = some (md3 s (m.1 o (n - 4)) (m.1 o k), m) := fun s k hk h4 => by
    unfold bm_M_guessed_L57
    rw [s4 h4, bp_git (gi _ (by omega)), bp_git (gi _ (by omega)), tk _ (by omega), e82 _ _ k hk, e82 _ _ k hk, ho]
    by_cases h : a2 = 0
    · rw [if_pos h, if_pos h]
    · rw [if_neg h, if_neg h]
  have e33 : ∀ s, bm_M_guessed_L33 N (Int32.ofNat n) a2 s m = some (if 4 ≤ n then md3 s (m.1 o (n - 4)) (if n % 4 = 3 then m.1 o (n - 5) else m.1 o (n - 3)) else s, m) := fun s => by
    unfold bm_M_guessed_L33
    by_cases h4 : 4 ≤ n
    · rw [if_pos ((le_4 hn).mpr h4), if_pos h4]
      by_cases h3 : n % 4 = 3
      · rw [if_neg (fun hn2 => hn2 ((m4_3 hn).mpr h3)), if_pos h3, s5 (by omega), e57 _ _ (by omega) h4]
      · rw [if_pos (fun e => h3 ((m4_3 hn).mp e)), if_neg h3, s3 (by omega), e57 _ _ (by omega) h4]
    · rw [if_neg (fun e => h4 ((le_4 hn).mp e)), if_neg h4]
  unfold bm_M_guessed pd
  by_cases h0 : n % 4 = 0
  · rw [if_neg (fun hn2 => hn2 ((m4_z hn).mpr h0)), e33, if_pos h0]
  · rw [if_pos (fun e => h0 ((m4_z hn).mp e)), s1 (by omega), bp_git (gi _ (by omega)), bp_git (gi _ (by omega)), tk _ (by omega), e33, e33, if_neg h0, ho]
    by_cases h : a2 = 0
    · rw [if_pos h, if_pos h]
    · rw [if_neg h, if_neg h]
/-- one part of a vector read -/
theorem z_vec (N : Nat) (hN : 4000 ≤ N) {d : Nat} {c m : bp_M} (h : rD d c m) {x : Int32} (hx : jv x) : ∃ u z c1 c2 m1 s, bc_BR_number N 2048 5 c = some (u, c1) ∧ bc_PD_within N (x + sg u) c1 = some (z, c2) ∧ bm_M_signed N m = some (sg u, m1) ∧ s = (if ¬ m1.1 0 12 = 0 then m1.1 0 12 else if ¬ (if (x + sg u) < (-64) then (0 : Int32) else if 64 < (x + sg u) then 0 else 1) = 0 then m1.1 0 12 else 5) ∧ rT d c m c2 (bp_sI m1 0 12 s) ∧ (c2.1 6 3 = 0 → z = x + sg u) ∧ jv z := by
  obtain ⟨u, c1, m1, q1, q2, q3, q4, -, -⟩ := z_sgn N hN h
  have c64 : (64 : Int32).toInt = 64 := rfl
  have n64 : (-64 : Int32).toInt = -64 := by decide
  by_cases h1 : (x + sg u) < (-64)
  · have hf : c1.1 6 3 = 0 := by
      by_cases hz : c1.1 6 3 = 0
      · exact hz
      · rw [q4 hz, sg_0, Int32.add_zero, Int32.lt_iff_toInt_lt, n64] at h1
        have := jv_i hx
        omega
    have hb : m1.1 0 12 = 0 := by rw [← q3.1.2.1]; exact hf
    have R := rT.f q3.1 bp_n50
    rw [if_pos hf, if_pos hb] at R
    refine ⟨u, 0, c1, bp_sI c1 6 3 5, m1, 5, q1, ?_, q2, ?_, q3.tr R, fun hn => ?_, jv_0⟩
    · simp only [bc_PD_within, if_pos h1, bc_PD_within_L12, c_failM, if_pos hf, bp_cV]
    · rw [if_neg (fun hn => hn hb), if_neg (fun hn => hn (if_pos h1))]
    · rw [bp_s1e] at hn; exact absurd hn bp_n50
  · by_cases h2 : 64 < (x + sg u)
    · have hf : c1.1 6 3 = 0 := by
        by_cases hz : c1.1 6 3 = 0
        · exact hz
        · rw [q4 hz, sg_0, Int32.add_zero, Int32.lt_iff_toInt_lt, c64] at h2
          have := jv_i hx
          omega
      have hb : m1.1 0 12 = 0 := by rw [← q3.1.2.1]; exact hf
      have h3 : ¬ (x + sg u) ≤ 64 := fun e => by rw [Int32.le_iff_toInt_le] at e; rw [Int32.lt_iff_toInt_lt] at h2; omega
      have R := rT.f q3.1 bp_n50
      rw [if_pos hf, if_pos hb] at R
      refine ⟨u, 0, c1, bp_sI c1 6 3 5, m1, 5, q1, ?_, q2, ?_, q3.tr R, fun hn => ?_, jv_0⟩
      · simp only [bc_PD_within, if_neg h1, if_neg h3, bc_PD_within_L12, c_failM, if_pos hf, bp_cV]
      · rw [if_neg (fun hn => hn hb), if_neg (fun hn => hn (by rw [if_neg h1, if_pos h2]))]
      · rw [bp_s1e] at hn; exact absurd hn bp_n50
    · have h3 : (x + sg u) ≤ 64 := bp_nlt h2
      refine ⟨u, x + sg u, c1, c1, m1, m1.1 0 12, q1, ?_, q2, ?_, ?_, fun _ => rfl, ?_⟩
      · simp only [bc_PD_within, if_neg h1, if_pos h3]
      · by_cases hb : m1.1 0 12 = 0
        · rw [if_neg (fun hn => hn hb), if_pos (by rw [if_neg h1, if_neg h2]; exact bp_10)]
        · rw [if_pos hb]
      · rw [bp_sid]; exact q3
      · rw [Int32.le_iff_toInt_le, c64] at h3
        rw [Int32.lt_iff_toInt_lt, n64] at h1
        exact jv_of (by omega) h3
theorem hf_1 : ∀ t, t < 129 → ∀ x, x < 16 → (((2 * Int32.ofNat x : Int32) + (Int32.ofNat t - 64) : Int32) >>> (1 &&& 31 : Int32) : Int32) = Int32.ofNat x + ((Int32.ofNat t - 64 : Int32) >>> (1 &&& 31 : Int32) : Int32) ∧ od ((2 * Int32.ofNat x : Int32) + (Int32.ofNat t - 64) : Int32) = od (Int32.ofNat t - 64 : Int32) := by decide +kernel
theorem sS_e {S T : Nat → Int32} (h : ∀ i, i < 256 → S i = T i) (i j : Int32) : sS S i j = sS T i j := h _ (by have := cl_lt i; have := cl_lt j; omega)
theorem hv_e {S T : Nat → Int32} (h : ∀ i, i < 256 → S i = T i) (e f i j : Int32) : hv S e f i j = hv T e f i j := by
  unfold hv hL
  simp only [sS_e h]
theorem hv_y {S : Nat → Int32} (h : ∀ i, i < 256 → jy (S i)) (e f i j : Int32) : jy (hv S e f i j) := by
  unfold hv
  split
  · split
    · exact h _ (by have := cl_lt i; have := cl_lt j; omega)
    · exact li_y _
  · split <;> exact li_y _
/-- the prediction at sample k of block n -/
def hb (S : Nat → Int32) (u v : Int32) (n k : Nat) : Int32 := hv S (od u) (od v) (Int32.ofNat (4 * (n % 4) + k % 4) + (u >>> (1 &&& 31 : Int32))) (Int32.ofNat (4 * (n / 4) + k / 4) + (v >>> (1 &&& 31 : Int32)))
theorem m_169 (N : Nat) (hN : 4000 ≤ N) {n p : Nat} (hn : n < 16) (hp : p < 4) (b : Int32) {u v : Int32} (hu : jv u) (hv' : jv v) : ∀ (j k w : Nat) (m : bp_M), k + j = 16 → j < w → ∃ m1, bm_M_interBlock_L169 N (Int32.ofNat n) b w u v (Int32.ofNat p) (Int32.ofNat k) m = some m1 ∧ cF [5] m m1 ∧ (∀ i, bo i ≠ n → m1.1 5 i = m.1 5 i) ∧ (∀ i, i < k → m1.1 5 (sn n i) = m.1 5 (sn n i)) ∧ ∀ i, k ≤ i → i < 16 → m1.1 5 (sn n i) = li (hb (fun x => m.1 13 (256 * p + x)) u v n i + rA m (i / 4) (i % 4)) := by
  obtain ⟨tu, hu1, hu2⟩ := hu
  obtain ⟨tv, hv1, hv2⟩ := hv'
  intro j
  induction j with
  | zero =>
    intro k w m hk hw
    obtain ⟨w, rfl⟩ := Nat.exists_eq_succ_of_ne_zero (by omega : w ≠ 0)
    obtain rfl : k = 16 := by omega
    refine ⟨m, ?_, cF.rf _ _, fun _ _ => rfl, fun _ _ => rfl, fun i h1 h2 => by omega⟩
    rw [bm_M_interBlock_L169, if_pos (by decide)]
    rfl
  | succ j ih =>
    intro k w m hk hw
    obtain ⟨w, rfl⟩ := Nat.exists_eq_succ_of_ne_zero (by omega : w ≠ 0)
    have hlt := sn_lt hn (show k < 16 by omega)
    have i1 : vp_in (Int32.ofNat (sn n k)) 256 := bp_in (by omega) hlt
    have ek : 16 * (4 * (n / 4) + k / 4) + (4 * (n % 4) + k % 4) = sn n k := by unfold sn; omega
    obtain ⟨m1, q1, q2, q3, q4, q5⟩ := ih (k + 1) w (bp_sI m 5 (sn n k) (li (hb (fun x => m.1 13 (256 * p + x)) u v n k + rA m (k / 4) (k % 4)))) (by omega) (by omega)
    have eh : bm_M_half N (Int32.ofNat p) ((2 * Int32.ofNat (4 * (n % 4) + k % 4) : Int32) + u) ((2 * Int32.ofNat (4 * (n / 4) + k / 4) : Int32) + v) m = some (hb (fun x => m.1 13 (256 * p + x)) u v n k, m) := by
      rw [m_half N hN hp]
      obtain ⟨a1, a2⟩ := hf_1 tu (by omega) (4 * (n % 4) + k % 4) (by omega)
      obtain ⟨b1, b2⟩ := hf_1 tv (by omega) (4 * (n / 4) + k / 4) (by omega)
      rw [← hu2] at a1 a2
      rw [← hv2] at b1 b2
      rw [a1, a2, b1, b2]
      rfl
    refine ⟨m1, ?_, ((cF.rf [5] m).s _ (by decide)).tr q2, fun i hi => ?_, fun i hi => ?_, fun i h1 h2 => ?_⟩
    · rw [bm_M_interBlock_L169, if_neg (ge16 (by omega))]
      simp only [b4 (show k < 100000 by omega), r4 (show k < 100000 by omega), b4 (show n < 100000 by omega), r4 (show n < 100000 by omega), x4, bp_add, bp_nI, eh, bp_cI, m_added N hN (show k / 4 < 4 by omega) (show k % 4 < 4 by omega), m_limit, x16, ek, bp_git i1, bp_tn (show sn n k < 2147483648 by omega), bp_nM, bp_inc]
      exact q1
    · rw [q3 i hi, bp_s1k _ _ _ _ (fun e => hi (by rw [e]; exact bo_sn hn (by omega)))]
    · rw [q4 i (by omega), bp_s1k _ _ _ _ (fun e => by have := sn_in hn (by omega) (by omega) e; omega)]
    · by_cases he : i = k
      · subst he
        rw [q4 i (by omega), bp_s1e]
      · rw [q5 i (by omega) h2, rA_e (m := m) (fun _ => bp_s1o _ _ _ _ (by decide) _) (fun _ => bp_s1o _ _ _ _ (by decide) _)]
        rfl

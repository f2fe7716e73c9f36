/-! The references counted and found; one released; room for one more. -/
theorem m_refl (N : Nat) {h : Nat} (hh : h ≤ 4) {m : bp_M} (hm : m.1 0 34 = Int32.ofNat h) : ∀ (j k w : Nat), k + j = h → j < w → bm_M_references_L4 N w (Int32.ofNat (rl m k).length) (Int32.ofNat k) m = some (Int32.ofNat (rl m h).length, m) := by
  intro j
  induction j with
  | zero =>
    intro k w hk hw
    obtain ⟨w, rfl⟩ := Nat.exists_eq_succ_of_ne_zero (by omega : w ≠ 0)
    obtain rfl : k = h := by omega
    have e : Int32.ofNat k ≤ Int32.ofNat k := (bp_le (by omega) (by omega)).mpr (by omega)
    rw [bm_M_references_L4, hm, if_pos e]
    rfl
  | succ j ih =>
    intro k w hk hw
    obtain ⟨w, rfl⟩ := Nat.exists_eq_succ_of_ne_zero (by omega : w ≠ 0)
    have e : ¬ Int32.ofNat h ≤ Int32.ofNat k := fun e => by have := (bp_le (by omega) (by omega)).mp e; omega
    have i4 : vp_in (Int32.ofNat k) 4 := bp_in (by omega) (by omega)
    rw [bm_M_references_L4, hm, if_neg e, bp_git i4, bp_tn (by omega), ← ih (k + 1) w (by omega) (by omega)]
    by_cases hz : m.1 15 k = 0
    · rw [if_pos hz, show rl m (k + 1) = rl m k by rw [rl, if_pos hz]]
      simp only [bm_M_references_L27, bp_nI, Int32.add_zero, bp_inc]
    · rw [if_neg hz, show rl m (k + 1) = k :: rl m k by rw [rl, if_neg hz]]
      simp only [bm_M_references_L27, bp_nI, bp_inc, List.length_cons]
theorem m_refs (N : Nat) (hN : 4000 ≤ N) {h : Nat} (hh : h ≤ 4) {m : bp_M} (hm : m.1 0 34 = Int32.ofNat h) : bm_M_references N m = some (Int32.ofNat (rl m h).length, m) := m_refl N hh hm h 0 N (by omega) (by omega)
theorem m_refr (N : Nat) (a : Int32) {m : bp_M} : ∀ (k w r i : Nat), k ≤ 4 → k < w → (rl m k)[r]? = some i → bm_M_reference_L9 N a w (Int32.ofNat r) (Int32.ofNat k + (-1)) m = some (Int32.ofNat i, m) := by
  intro k
  induction k with
  | zero =>
    intro w r i hk hw hr
    simp [rl] at hr
  | succ k ih =>
    intro w r i hk hw hr
    obtain ⟨w, rfl⟩ := Nat.exists_eq_succ_of_ne_zero (by omega : w ≠ 0)
    have i4 : vp_in (Int32.ofNat k) 4 := bp_in (by omega) (by omega)
    rw [bm_M_reference_L9, bp_dec, if_neg (bp_nneg (by omega)), bp_git i4, bp_tn (by omega)]
    by_cases hz : m.1 15 k = 0
    · rw [rl, if_pos hz] at hr
      rw [if_pos hz]
      simp only [bm_M_reference_L31, bp_nI]
      exact ih w r i (by omega) (by omega) hr
    · rw [rl, if_neg hz] at hr
      rw [if_neg hz]
      cases r with
      | zero =>
        have hi : k = i := by simpa using hr
        subst hi
        rw [if_neg (fun hn => hn rfl)]
        rfl
      | succ r =>
        have hr2 : (rl m k)[r]? = some i := by simpa using hr
        have hl := rl_len m k
        have hr3 : r < (rl m k).length := by
          rcases Nat.lt_or_ge r (rl m k).length with g | g
          · exact g
          · rw [List.getElem?_eq_none g] at hr2; cases hr2
        rw [if_pos (bp_ne0 (by omega) (by omega))]
        simp only [bm_M_reference_L31, bp_nI, bp_dec]
        exact ih w r i (by omega) (by omega) hr2
theorem m_reference (N : Nat) (hN : 4000 ≤ N) {h : Nat} (hh : h ≤ 4) {m : bp_M} (hm : m.1 0 34 = Int32.ofNat h) {r i : Nat} (hr : (rl m h)[r]? = some i) : bm_M_reference N (Int32.ofNat r) m = some (Int32.ofNat i, m) := by
  unfold bm_M_reference
  rw [hm, bp_sub1]
  simp only [bp_nI]
  exact m_refr N _ h N r i hh (by omega) hr
theorem rl_b {m : bp_M} : ∀ (k r i : Nat), (rl m k)[r]? = some i → i < k ∧ ¬ m.1 15 i = 0 := by
  intro k
  induction k with
  | zero => intro r i hr; simp [rl] at hr
  | succ k ih =>
    intro r i hr
    by_cases hz : m.1 15 k = 0
    · rw [rl, if_pos hz] at hr
      have := ih r i hr
      exact ⟨by omega, this.2⟩
    · rw [rl, if_neg hz] at hr
      cases r with
      | zero =>
        have hi : k = i := by simpa using hr
        subst hi
        exact ⟨by omega, hz⟩
      | succ r =>
        have := ih r i (by simpa using hr)
        exact ⟨by omega, this.2⟩
theorem rl_e {m m1 : bp_M} (h : ∀ y, m1.1 15 y = m.1 15 y) : ∀ k, rl m1 k = rl m k
  | 0 => rfl
  | k + 1 => by rw [rl, rl, h, rl_e h k]
/-- a change of the pictures' marks alone -/
def gF (c c1 : bp_M) : Prop := c1.2 = c.2 ∧ (∀ x, ¬ (11 ≤ x ∧ x < 15) → ∀ y, c1.1 x y = c.1 x y) ∧ ∀ x y, y ≠ 2 → c1.1 x y = c.1 x y
theorem gF.rf (c : bp_M) : gF c c := ⟨rfl, fun _ _ _ => rfl, fun _ _ _ => rfl⟩
theorem gF.tr {a b c : bp_M} (h : gF a b) (g : gF b c) : gF a c := ⟨g.1.trans h.1, fun x hx y => (g.2.1 x hx y).trans (h.2.1 x hx y), fun x y hy => (g.2.2 x y hy).trans (h.2.2 x y hy)⟩
theorem gF.s (c : bp_M) {o : Nat} (ho : 11 ≤ o ∧ o < 15) (v : Int32) : gF c (bp_sI c o 2 v) := ⟨rfl, fun x hx y => bp_s1o _ _ _ _ (by omega) y, fun x y hy => by rw [bp_s1, if_neg (fun e => hy e.2)]⟩
/-- one picture's mark taken on both sides -/
theorem bQ.um {h : Nat} {c m : bp_M} (H : bQ h c m) {i : Nat} (hi : i < h) : bQ h (bp_sI c (c.2 40 i) 2 0) (bp_sI m 15 i 0) := by
  obtain ⟨h4, hc, hm, hQ, hT⟩ := H
  have hTi := hT.1 i (by omega)
  refine ⟨h4, by rw [bp_s1o _ _ _ _ (by omega)]; exact hc, by rw [bp_s1o _ _ _ _ (by decide)]; exact hm, fun k hk => ?_, jT_of hT (fun _ => rfl) (fun _ => rfl)⟩
  have hTk := hT.1 k (by omega)
  obtain ⟨o1, o2, o3, o4, o5, o6, o7⟩ := hQ k hk
  rw [bp_s2, bp_s1o _ _ _ _ (show (14 : Nat) ≠ 15 by decide), bp_s1o _ _ _ _ (show (16 : Nat) ≠ 15 by decide)]
  have e13 : ∀ y, (bp_sI m 15 i 0).1 13 y = m.1 13 y := fun y => bp_s1o _ _ _ _ (by decide) y
  have e24 : ∀ y, (bp_sI c (c.2 40 i) 2 0).1 (c.2 40 k + 24) y = c.1 (c.2 40 k + 24) y := fun y => bp_s1o _ _ _ _ (by omega) y
  simp only [e13, e24]
  by_cases he : k = i
  · subst he
    rw [bp_s1k c _ _ _ (show (1 : Nat) ≠ 2 by decide), bp_s1k c _ _ _ (show (3 : Nat) ≠ 2 by decide), bp_s1e, bp_s1e]
    exact ⟨o1, o2, rfl, Or.inl rfl, o5, o6, o7⟩
  · have hne : c.2 40 k ≠ c.2 40 i := fun e => he (hT.2.1 k (by omega) i (by omega) e)
    rw [bp_s1o _ _ _ _ hne, bp_s1o _ _ _ _ hne, bp_s1o _ _ _ _ hne, bp_s1k _ _ _ _ he]
    exact ⟨o1, o2, o3, o4, o5, o6, o7⟩
/-- release from k on downwards where the one is not met -/
theorem c_relN (N : Nat) (R : Int32) {h : Nat} {c m : bp_M} (H : bQ h c m) : ∀ (k w t : Nat), k ≤ h → k < w → t + k ≤ 100 → (∀ r, r < (rl m k).length → ¬ Int32.ofNat (t + r) = R) → bc_PB_release_L9 N R w (Int32.ofNat t) (Int32.ofNat k + (-1)) c = some c := by
  obtain ⟨h4, hc, hm, hQ, hT⟩ := id H
  intro k
  induction k with
  | zero =>
    intro w t hk hw ht hr
    obtain ⟨w, rfl⟩ := Nat.exists_eq_succ_of_ne_zero (by omega : w ≠ 0)
    rw [bc_PB_release_L9, if_pos (by decide)]
    rfl
  | succ k ih =>
    intro w t hk hw ht hr
    obtain ⟨w, rfl⟩ := Nat.exists_eq_succ_of_ne_zero (by omega : w ≠ 0)
    have i4 : vp_in (Int32.ofNat k) 4 := bp_in (by omega) (by omega)
    have pI := H.pi (show k < 4 by omega)
    obtain ⟨-, -, o3, o4, -⟩ := hQ k (by omega)
    rw [bc_PB_release_L9, bp_dec, if_neg (bp_nneg (by omega)), bp_git i4, bp_tn (by omega)]
    simp only [bp_nN, bp_gt pI, o3]
    by_cases hz : m.1 15 k = 0
    · rw [if_pos hz]
      simp only [bc_PB_release_L47, bp_nI]
      rw [rl, if_pos hz] at hr
      exact ih w t (by omega) (by omega) (by omega) hr
    · rw [rl, if_neg hz] at hr
      have h0 := hr 0 (by simp)
      rw [if_neg hz, bp_git i4, if_neg (by simpa using h0)]
      have h1 : m.1 15 k = 1 := by
        rcases o4 with o | o
        · exact absurd o hz
        · exact o
      have es : bp_sI c (c.2 40 k) 2 1 = c := by
        have := bp_sid c (c.2 40 k) 2
        rw [o3, h1] at this
        exact this
      simp only [bc_PB_release_L41, bp_g, or_true, if_true, bp_nM, es, bp_nI, bc_PB_release_L47, bp_inc]
      exact ih w (t + 1) (by omega) (by omega) (by omega) (fun r hr2 => by
        have := hr (r + 1) (by simp; omega)
        rw [show t + (r + 1) = t + 1 + r by omega] at this
        exact this)
/-- release where it is met -/
theorem c_relY (N : Nat) {h : Nat} {c m : bp_M} (H : bQ h c m) {i : Nat} (hi : i < h) : ∀ (k w t r : Nat), k ≤ h → k < w → t + k ≤ 100 → (rl m k)[r]? = some i → bc_PB_release_L9 N (Int32.ofNat (t + r)) w (Int32.ofNat t) (Int32.ofNat k + (-1)) c = some (bp_sI c (c.2 40 i) 2 0) := by
  obtain ⟨h4, hc, hm, hQ, hT⟩ := id H
  intro k
  induction k with
  | zero =>
    intro w t r hk hw ht hr
    simp [rl] at hr
  | succ k ih =>
    intro w t r hk hw ht hr
    obtain ⟨w, rfl⟩ := Nat.exists_eq_succ_of_ne_zero (by omega : w ≠ 0)
    have i4 : vp_in (Int32.ofNat k) 4 := bp_in (by omega) (by omega)
    have pI := H.pi (show k < 4 by omega)
    obtain ⟨-, -, o3, o4, -⟩ := hQ k (by omega)
    rw [bc_PB_release_L9, bp_dec, if_neg (bp_nneg (by omega)), bp_git i4, bp_tn (by omega)]
    simp only [bp_nN, bp_gt pI, o3]
    by_cases hz : m.1 15 k = 0
    · rw [if_pos hz]
      simp only [bc_PB_release_L47, bp_nI]
      rw [rl, if_pos hz] at hr
      exact ih w t r (by omega) (by omega) (by omega) hr
    · rw [rl, if_neg hz] at hr
      rw [if_neg hz, bp_git i4]
      cases r with
      | zero =>
        have hik : k = i := by simpa using hr
        subst hik
        rw [if_pos (show Int32.ofNat t = Int32.ofNat (t + 0) from rfl)]
        simp only [bc_PB_release_L41, bp_g, true_or, if_true, bp_nM, bp_nI, bc_PB_release_L47, bp_inc]
        -- the rest is met no more
        have H2 := H.um hi
        have hl : rl (bp_sI m 15 k 0) k = rl m k := by
          have : ∀ j, j ≤ k → rl (bp_sI m 15 k 0) j = rl m j := by
            intro j
            induction j with
            | zero => intro _; rfl
            | succ j ihj => intro hj; rw [rl, rl, ihj (by omega), bp_s1k _ _ _ _ (by omega)]
          exact this k (Nat.le_refl k)
        have := c_relN N (Int32.ofNat (t + 0)) H2 k w (t + 1) (by omega) (by omega) (by omega) (fun r hr2 e => by
          have hlen := rl_len m k
          rw [hl] at hr2
          have := (bp_eq (by omega) (by omega)).mp e
          omega)
        exact this
      | succ r =>
        have hr2 : (rl m k)[r]? = some i := by simpa using hr
        have hl := rl_len m k
        have hr3 : r < (rl m k).length := by
          rcases Nat.lt_or_ge r (rl m k).length with g | g
          · exact g
          · rw [List.getElem?_eq_none g] at hr2; cases hr2
        rw [if_neg (fun e => by have := (bp_eq (by omega) (by omega)).mp e; omega)]
        have h1 : m.1 15 k = 1 := by
          rcases o4 with o | o
          · exact absurd o hz
          · exact o
        have es : bp_sI c (c.2 40 k) 2 1 = c := by
          have := bp_sid c (c.2 40 k) 2
          rw [o3, h1] at this
          exact this
        simp only [bc_PB_release_L41, bp_g, or_true, if_true, bp_nM, es, bp_nI, bc_PB_release_L47, bp_inc]
        have := ih w (t + 1) r (by omega) (by omega) (by omega) hr2
        rw [show t + 1 + r = t + (r + 1) by omega] at this
        exact this
/-- the earliest reference found -/
def la (m : bp_M) : Nat → Int32 → Int32
  | 0, x => x
  | k + 1, x => if m.1 15 k = 0 then la m k x else la m k (Int32.ofNat k)
theorem la_0 {m : bp_M} : ∀ k x, rl m k = [] → la m k x = x
  | 0, x, _ => rfl
  | k + 1, x, h => by
    by_cases hz : m.1 15 k = 0
    · rw [rl, if_pos hz] at h
      rw [la, if_pos hz]
      exact la_0 k x h
    · rw [rl, if_neg hz] at h; cases h
theorem la_l {m : bp_M} : ∀ k x i, (rl m k)[(rl m k).length - 1]? = some i → la m k x = Int32.ofNat i
  | 0, x, i, h => by simp [rl] at h
  | k + 1, x, i, h => by
    by_cases hz : m.1 15 k = 0
    · rw [rl, if_pos hz] at h
      rw [la, if_pos hz]
      exact la_l k x i h
    · rw [rl, if_neg hz] at h
      rw [la, if_neg hz]
      by_cases he : rl m k = []
      · rw [he] at h
        have : k = i := by simpa using h
        rw [la_0 k _ he, this]
      · have hpos : 0 < (rl m k).length := List.length_pos_iff.mpr he
        have h2 : (rl m k)[(rl m k).length - 1]? = some i := by
          rw [List.length_cons, Nat.add_sub_cancel] at h
          obtain ⟨n, hn⟩ : ∃ n, (rl m k).length = n + 1 := ⟨(rl m k).length - 1, by omega⟩
          rw [hn] at h ⊢
          simpa using h
        exact la_l k _ i h2
theorem c_room (N : Nat) {h : Nat} {c m : bp_M} (H : bQ h c m) : ∀ (k w f : Nat) (x : Int32), k ≤ h → k < w → f + k ≤ 100 → bc_PB_makeRoomForReference_L11 N w x (Int32.ofNat f) (Int32.ofNat k + (-1)) c = bc_PB_makeRoomForReference_L38 N (la m k x) (Int32.ofNat (f + (rl m k).length)) c := by
  obtain ⟨h4, hc, hm, hQ, hT⟩ := id H
  intro k
  induction k with
  | zero =>
    intro w f x hk hw hf
    obtain ⟨w, rfl⟩ := Nat.exists_eq_succ_of_ne_zero (by omega : w ≠ 0)
    rw [bc_PB_makeRoomForReference_L11, if_pos (by decide)]
    rfl
  | succ k ih =>
    intro w f x hk hw hf
    obtain ⟨w, rfl⟩ := Nat.exists_eq_succ_of_ne_zero (by omega : w ≠ 0)
    have i4 : vp_in (Int32.ofNat k) 4 := bp_in (by omega) (by omega)
    have pI := H.pi (show k < 4 by omega)
    obtain ⟨-, -, o3, o4, -⟩ := hQ k (by omega)
    rw [bc_PB_makeRoomForReference_L11, bp_dec, if_neg (bp_nneg (by omega)), bp_git i4, bp_tn (by omega)]
    simp only [bp_nN, bp_gt pI, o3]
    by_cases hz : m.1 15 k = 0
    · rw [if_pos hz, rl, if_pos hz, la, if_pos hz]
      simp only [bc_PB_makeRoomForReference_L32, bp_nI]
      exact ih w f x (by omega) (by omega) (by omega)
    · rw [if_neg hz, rl, if_neg hz, la, if_neg hz]
      simp only [bc_PB_makeRoomForReference_L32, bp_nI, bp_inc, List.length_cons]
      rw [ih w (f + 1) (Int32.ofNat k) (by omega) (by omega) (by omega), show f + 1 + (rl m k).length = f + ((rl m k).length + 1) by omega]

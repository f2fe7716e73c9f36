theorem tw_84 : Cond.classLink "BlockPicturesLaw" 7 "BlockPictures" ∈ bp_tb := bp_gd (List.mem_of_getElem? (i := 84) (by decide +kernel)) rfl
theorem tw_85 : Cond.instantiable "BlockPictures" 7 ∈ bp_tb := bp_gd (List.mem_of_getElem? (i := 85) (by decide +kernel)) rfl
theorem tw_86 : Cond.methodLink "BlockPicturesLaw" 9 ⟨"BlockPictures", "<init>", "()V"⟩ ∈ bp_tb := bp_gd (List.mem_of_getElem? (i := 86) (by decide +kernel)) rfl
theorem tw_87 : Cond.instanceMethod ⟨"BlockPictures", "<init>", "()V"⟩ ∈ bp_tb := bp_gd (List.mem_of_getElem? (i := 87) (by decide +kernel)) rfl
theorem tw_88 : Cond.code ⟨"BlockPictures", "<init>", "()V"⟩ prog_1_method_1_code 1 (Option.none : Option Jvm.ClassFile.FieldType) ∈ bp_tb := bp_gd (List.mem_of_getElem? (i := 88) (by decide +kernel)) rfl
theorem tw_758 : Cond.classLink "BlockPicturesLaw" 10 "BlockPicturesModel" ∈ bp_tb := bp_gd (List.mem_of_getElem? (i := 758) (by decide +kernel)) rfl
theorem tw_759 : Cond.instantiable "BlockPicturesModel" 48 ∈ bp_tb := bp_gd (List.mem_of_getElem? (i := 759) (by decide +kernel)) rfl
theorem tw_760 : Cond.methodLink "BlockPicturesLaw" 12 ⟨"BlockPicturesModel", "<init>", "()V"⟩ ∈ bp_tb := bp_gd (List.mem_of_getElem? (i := 760) (by decide +kernel)) rfl
theorem tw_761 : Cond.instanceMethod ⟨"BlockPicturesModel", "<init>", "()V"⟩ ∈ bp_tb := bp_gd (List.mem_of_getElem? (i := 761) (by decide +kernel)) rfl
theorem tw_762 : Cond.code ⟨"BlockPicturesModel", "<init>", "()V"⟩ prog_13_method_1_code 1 (Option.none : Option Jvm.ClassFile.FieldType) ∈ bp_tb := bp_gd (List.mem_of_getElem? (i := 762) (by decide +kernel)) rfl
def lw_c0 : bp_M := (fun _ _ => 0, fun o k => if o = 3 then (if k = 2 then 8 else 9) else if o = 39 then 10 else k + 11)
theorem lw_nest : ∀ q ∈ bp_nest, Cond.methodLinkNest q.1 q.2.1 q.2.2 "BlockPictures" ∈ lw_tbl := by decide +kernel
theorem lw_over : Cond.arrayOver (.object "BlockPictures$Picture") ∈ lw_tbl := by decide +kernel
theorem lw_stS : Cond.laysStatic "BlockPictures$PictureDecoder" "STANDS" "[I" ∈ lw_tbl := by decide +kernel
theorem lw_stT : Cond.laysStatic "BlockPictures$PictureDecoder" "TRANSFORM" "[I" ∈ lw_tbl := by decide +kernel
theorem lw_elS : ∀ j, j < 16 → Cond.eq (.elem (.static "BlockPictures$PictureDecoder" "STANDS" "[I") (.int (Int32.ofNat j))) (.int (st_S j)) ∈ flatC (.and given_1 narrow_1) := by decide +kernel
theorem lw_elT : ∀ j, j < 16 → Cond.eq (.elem (.static "BlockPictures$PictureDecoder" "TRANSFORM" "[I") (.int (Int32.ofNat j))) (.int (st_T j)) ∈ flatC (.and given_1 narrow_1) := by decide +kernel
theorem lw_cut {D : va_G} {cl : List vw_C} {A : Nat → Prop} {ws : va_W} {x : Nat × va_E} {H : Heap} (hP : va_P D cl (ws ++ [x]) H) (hD : va_D A (ws ++ [x])) : va_P D cl ws H ∧ va_P D cl [x] H ∧ va_D A ws ∧ va_D A [x] ∧ ∀ (i : Nat) (p : Nat × va_E), ws[i]? = some p → p.1 ≠ x.1 := by
  have gl : ∀ (i : Nat) (p : Nat × va_E), ws[i]? = some p → (ws ++ [x])[i]? = some p := fun i p h => by rw [List.getElem?_append_left (List.getElem?_eq_some_iff.mp h).1]; exact h
  have gx : (ws ++ [x])[ws.length]? = some x := by rw [List.getElem?_append_right (Nat.le_refl _)]; simp
  have g1 : ∀ (i : Nat) (p : Nat × va_E), [x][i]? = some p → p = x ∧ i = 0 := fun i p h => by
    have hz : i < 1 := (List.getElem?_eq_some_iff.mp h).1
    have h0 : i = 0 := by omega
    subst h0
    cases h
    exact ⟨rfl, rfl⟩
  refine ⟨fun i p h => hP i p (gl i p h), fun i p h => ?_, ⟨fun i j p q h1 h2 e => hD.1 i j p q (gl i p h1) (gl j q h2) e, fun i p h => hD.2 i p (gl i p h)⟩, ⟨fun i j p q h1 h2 _ => ?_, fun i p h => ?_⟩, fun i p h e => ?_⟩
  · rw [(g1 i p h).1]; exact hP _ x gx
  · rw [(g1 i p h1).2, (g1 j q h2).2]
  · rw [(g1 i p h).1]; exact hD.2 _ x gx
  · have := hD.1 i ws.length p x (gl i p h) gx e
    have h2 := (List.getElem?_eq_some_iff.mp h).1
    omega
set_option maxHeartbeats 8000000 in
set_option maxRecDepth 100000 in
theorem lw_known {s : State} {args : Array Value} (htb : ∀ w ∈ bp_tb, w.before args s = true) (hts : ∀ w ∈ lw_tbl, w.before args s = true) : ∃ (DD : va_G) (tI tZ tP : ClassId), va_K DD bp_cl [(tI, .int), (tZ, .boolean), (tP, .object "BlockPictures$Picture")] s := by
  obtain ⟨k0, i0, u0⟩ := u_known (T := bF_BP) (N := 7) htb bc_in_BP (htb _ tw_85)
  obtain ⟨k1, i1, u1⟩ := u_known (T := bF_UI) (N := 6) htb bc_in_UI (htb _ tw_93)
  obtain ⟨k2, i2, u2⟩ := u_known (T := bF_PA) (N := 6) htb bc_in_PA (htb _ tw_122)
  obtain ⟨k3, i3, u3⟩ := u_known (T := bF_PD) (N := 11) htb bc_in_PD (htb _ tw_150)
  obtain ⟨k4, i4, u4⟩ := u_known (T := bF_PB) (N := 6) htb bc_in_PB (htb _ tw_300)
  obtain ⟨k5, i5, u5⟩ := u_known (T := bF_UW) (N := 6) htb bc_in_UW (htb _ tw_332)
  obtain ⟨k6, i6, u6⟩ := u_known (T := bF_BR) (N := 4) htb bc_in_BR (htb _ tw_156)
  obtain ⟨k7, i7, u7⟩ := u_known (T := bF_MO) (N := 2) htb bc_in_MO (htb _ tw_247)
  obtain ⟨k8, i8, u8⟩ := u_known (T := bF_RO) (N := 6) htb bc_in_RO (htb _ tw_210)
  obtain ⟨k9, i9, u9⟩ := u_known (T := bF_PI) (N := 4) htb bc_in_PI (htb _ tw_178)
  obtain ⟨k10, i10, u10⟩ := u_known (T := bF_M) (N := 48) htb bm_in_M (htb _ tw_759)
  obtain ⟨tI, kI, pI, fI, gI, eI⟩ := Cond.arrayClass_spec (htb _ tw_120)
  obtain ⟨tZ, kZ, pZ, fZ, gZ, eZ⟩ := Cond.arrayClass_spec (htb _ tw_244)
  obtain ⟨pP, tP, kP, fP, jP, gP, eP, nP⟩ := Cond.arrayOver_spec (hts _ lw_over)
  refine ⟨(fun c => [k0, k1, k2, k3, k4, k5, k6, k7, k8, k9, k10].getD c 0, fun c => [i0, i1, i2, i3, i4, i5, i6, i7, i8, i9, i10].getD c (fun _ => 0)), tI, tZ, tP, fun c q hc => ?_, fun k q hk => ?_⟩
  · have hlt : c < 11 := (List.getElem?_eq_some_iff.mp hc).1
    rcases (show c = 0 ∨ c = 1 ∨ c = 2 ∨ c = 3 ∨ c = 4 ∨ c = 5 ∨ c = 6 ∨ c = 7 ∨ c = 8 ∨ c = 9 ∨ c = 10 by omega) with rfl | rfl | rfl | rfl | rfl | rfl | rfl | rfl | rfl | rfl | rfl
    · cases hc; exact u0
    · cases hc; exact u1
    · cases hc; exact u2
    · cases hc; exact u3
    · cases hc; exact u4
    · cases hc; exact u5
    · cases hc; exact u6
    · cases hc; exact u7
    · cases hc; exact u8
    · cases hc; exact u9
    · cases hc; exact u10
  · have hlt : k < 3 := (List.getElem?_eq_some_iff.mp hk).1
    rcases (show k = 0 ∨ k = 1 ∨ k = 2 by omega) with rfl | rfl | rfl
    · cases hk; exact ⟨fun n z => ⟨fun k h => (by cases h), kI, gI, pI, eI⟩, fI⟩
    · cases hk; exact ⟨fun n z => ⟨fun k h => (by cases h), kZ, gZ, pZ, eZ⟩, fZ⟩
    · cases hk; exact ⟨fun n z => ⟨fun k h => (by cases h), kP, gP, pP, eP⟩, kP, pP, gP, eP, fP, nP⟩
set_option maxHeartbeats 8000000 in
set_option maxRecDepth 100000 in
theorem lw_start {p : Program} {e : Env} {s : State} {mt : MethodId} {below : List Frame} {meth : Method} {c : Code} (l : Launch) {b L : Nat} {xs : Nat → Int32} (hL : L ≤ 2048) (C0 : lw_At p s mt meth c b L xs) (N : Nat) (J : Nat → bp_M → bp_M → Prop) (hup : ∀ k c m, J k c m → J (k + 1) c m) (hfeed : lk_feed N J) (hend : lk_end N J) (hreset : lk_reset N J) (hfault : lk_fault N J) (hunits : lk_units N J) (hshown : lk_shown N J) (horder : lk_order N J) (hsample : lk_sample N J) (hheld : lk_held N J) (hheldState : lk_heldState N J) (hheldSample : lk_heldSample N J) (hvector : lk_vector N J) (hsmoothed : lk_smoothed N J) (hdraw : lk_draw N J) (hwrite : lk_write N J) (hwritten : lk_written N J) (hpass : lk_pass N J) (m1 : bp_M) (hm : bm_M_clearLatest N im_0 = some m1) (hJ0 : J 0 lw_c0 m1) : W p l e room_1 s mt #[Value.ref b] below meth c s.heap [] 0 0 (lw_Z below #[Value.ref b] s) (entryFrame mt ([Value.ref b] : List Value).toArray 4) := by
  obtain ⟨hx, hb, hr, hml, hown, hts, hX, hbl, hlocks, hgv⟩ := C0
  have hown : s.vm.findClass "BlockPicturesLaw" = some mt.cls := hown
  have htb : ∀ w ∈ bp_tb, w.before #[Value.ref b] s = true := fun w hw => hts w (List.mem_filter.mp hw).1
  have hnw : bc_Nw s := fun q hq => va_Nw.of rfl (hts _ (lw_nest q hq))
  have hao : va_AO "BlockPictures$Picture" s := va_AO.of (hts _ lw_over)
  obtain ⟨DD, tI, tZ, tP, hK0⟩ := lw_known htb hts
  obtain ⟨A, hAd⟩ : ∃ A : Nat → Prop, ∀ q, A q ↔ s.heap.size ≤ q := ⟨fun q => s.heap.size ≤ q, fun _ => Iff.rfl⟩
  have hAn : ∀ a : Nat, a < s.heap.size → ¬ A a := fun a h h2 => absurd h (Nat.not_lt.mpr ((hAd a).mp h2))
  have hA : ∀ q, s.heap.size ≤ q → A q := fun q h => (hAd q).mpr h
  have hs := flat_of_before _ hgv
  obtain ⟨tS, eS, TS⟩ := va_Tof (A := A) (N := 16) (f := fun j => .int (st_S j)) (by decide) (hs (.arrayOf (.static "BlockPictures$PictureDecoder" "STANDS" "[I") .int) (by decide +kernel)) (va_eqt (hs (.eq (.length (.static "BlockPictures$PictureDecoder" "STANDS" "[I")) (.int 16)) (by decide +kernel))) (fun j hj => va_eqt (hs _ (lw_elS j hj))) hAn
  obtain ⟨tT, eT, TT⟩ := va_Tof (A := A) (N := 16) (f := fun j => .int (st_T j)) (by decide) (hs (.arrayOf (.static "BlockPictures$PictureDecoder" "TRANSFORM" "[I") .int) (by decide +kernel)) (va_eqt (hs (.eq (.length (.static "BlockPictures$PictureDecoder" "TRANSFORM" "[I")) (.int 16)) (by decide +kernel))) (fun j hj => va_eqt (hs _ (lw_elT j hj))) hAn
  have ZS := va_Zof (A := A) (hts _ lw_stS) (htb _ tw_72) eS hAn
  have ZT := va_Zof (A := A) (hts _ lw_stT) (htb _ tw_72) eT hAn
  have hP : va_P DD bp_cl [] s.heap := fun k q h => by cases h
  have hD : va_D A [] := ⟨fun i j p q h => (by cases h), fun k q h => (by cases h)⟩
  have hS : va_S A s.heap s.heap [] := va_S.rf
  have hl := lv_entry ([Value.ref b]) (n := 4) (Nat.le_of_ble_eq_true rfl)
  rw [lg_entry_eq]
  generalize (lg_sl ([Value.ref b]) ++ List.replicate (4 - (lg_sl ([Value.ref b])).length) Slot.unset).toArray = ls at hl ⊢
  have hl : lv_has ls 4 [(0, .ref b)] := hl
  refine va_new (ci := 0) (fs := [.null, .null, .null, .null, .null, .int 0, .int 0]) (C := "BlockPictures") (T := bF_BP) (N := 7) hx hb htb bc_in_BP bt_BP bt_BP_ok hown (htb _ tw_84) (htb _ tw_85) (htb _ tw_69) hK0 hP hD hS hA rfl (fun j hj => by rcases (show j = 0 ∨ j = 1 ∨ j = 2 ∨ j = 3 ∨ j = 4 ∨ j = 5 ∨ j = 6 by omega) with rfl | rfl | rfl | rfl | rfl | rfl | rfl <;> rfl) (Nat.le_of_ble_eq_true rfl) (Nat.le_of_ble_eq_true rfl) (dt_law0 0 rfl) (fun q1 H hP hD hS => ?_)
  have hP : va_P DD bp_cl [(q1, .inr (0, [.null, .null, .null, .null, .null, .int 0, .int 0]))] H := hP
  have hD : va_D A [(q1, .inr (0, [.null, .null, .null, .null, .null, .int 0, .int 0]))] := hD
  refine W.widen (k := 1) (n := 7) (Nat.le_of_ble_eq_true rfl) (Nat.le_of_ble_eq_true rfl) ?_
  refine lv_dup hx hb (dt_law0 1 rfl) rfl ?_
  have hFc := va_free (wc := [(q1, .inr (0, [.null, .null, .null, .null, .null, .int 0, .int 0]))]) hD hS hA [0] rfl
  obtain ⟨E0, hE0⟩ : ∃ E0 : bc_E, E0 = (DD, (fun _ => 0), tI, tZ, tP, tS, tT) := ⟨_, rfl⟩
  have hK1 : va_K E0.1 bp_cl (bc_ty E0) s := by rw [hE0]; exact hK0
  refine va_callv (va_runI (As := []) (rest := [.ref q1]) ⟨hx, hb, hml, hown, htb⟩ (i_BP l E0 q1 H.size) (cwI 0 htb (bp_good tw_88) rfl rfl rfl (htb _ tw_69) (htb _ tw_86) (htb _ tw_87) rfl hd_i_BP ⟨(Nat.le_of_ble_eq_true rfl), (Nat.le_of_ble_eq_true rfl)⟩) (ic_pre E0 hK1 (by rw [hE0]; exact hP) hD hnw hao) rfl rfl hl.1 rfl (lv_room (Nat.le_of_ble_eq_true rfl)) (dt_law0 2 rfl) ⟨(Nat.le_of_ble_eq_true rfl), (Nat.le_of_ble_eq_true rfl)⟩) hS (fun q _ h => hFc q h) hFc (fun u t H1 locs ht hvm _ hB hz1 hk1 hS => ?_)
  obtain ⟨hP1, -, hD1⟩ := hB
  rw [ht] at hP1
  have hD1 := hD1.weaken (fun _ q _ h => hFc q.1 h)
  clear hk1 hz1 ht hFc hP hD
  generalize H1 = H at hP1 hS ⊢
  refine W.widen (k := 41) (n := 3221) (Nat.le_of_ble_eq_true rfl) (Nat.le_of_ble_eq_true rfl) ?_
  subst hE0
  have hP1 := bp_Pq hP1 15 (fun j => some ([q1, (u 0), (u 2), (u 3), (u 25), (u 37), (u 4), (u 21), (u 8), (u 15), (u 6), (u 29), (u 31), (u 33), (u 35), (u 1), (u 5), (u 22), (u 23), (u 24), (u 27), (u 28), (u 38), (u 39), (u 9), (u 10), (u 11), (u 12), (u 13), (u 16), (u 17), (u 18), (u 19), (u 20), (u 7), (u 30), (u 32), (u 34), (u 36), (u 14), (u 26)].getD 10 0)) rfl (fun j hj => by rcases (show j = 0 ∨ j = 1 ∨ j = 2 ∨ j = 3 by omega) with rfl | rfl | rfl | rfl <;> rfl)
  have hP1 := bp_Pq hP1 27 (fun j => some ([q1, (u 0), (u 2), (u 3), (u 25), (u 37), (u 4), (u 21), (u 8), (u 15), (u 6), (u 29), (u 31), (u 33), (u 35), (u 1), (u 5), (u 22), (u 23), (u 24), (u 27), (u 28), (u 38), (u 39), (u 9), (u 10), (u 11), (u 12), (u 13), (u 16), (u 17), (u 18), (u 19), (u 20), (u 7), (u 30), (u 32), (u 34), (u 36), (u 14), (u 26)].getD (j + 11) 0)) rfl (fun j hj => by rcases (show j = 0 ∨ j = 1 ∨ j = 2 ∨ j = 3 by omega) with rfl | rfl | rfl | rfl <;> rfl)
  have hD1 := va_D.set (p := 15) (e := .inl (tP, 4, .inr (.inr (.inr (.inr (fun j => some ([q1, (u 0), (u 2), (u 3), (u 25), (u 37), (u 4), (u 21), (u 8), (u 15), (u 6), (u 29), (u 31), (u 33), (u 35), (u 1), (u 5), (u 22), (u 23), (u 24), (u 27), (u 28), (u 38), (u 39), (u 9), (u 10), (u 11), (u 12), (u 13), (u 16), (u 17), (u 18), (u 19), (u 20), (u 7), (u 30), (u 32), (u 34), (u 36), (u 14), (u 26)].getD 10 0))))))) hD1 rfl
  have hD1 := va_D.set (p := 27) (e := .inl (tP, 4, .inr (.inr (.inr (.inr (fun j => some ([q1, (u 0), (u 2), (u 3), (u 25), (u 37), (u 4), (u 21), (u 8), (u 15), (u 6), (u 29), (u 31), (u 33), (u 35), (u 1), (u 5), (u 22), (u 23), (u 24), (u 27), (u 28), (u 38), (u 39), (u 9), (u 10), (u 11), (u 12), (u 13), (u 16), (u 17), (u 18), (u 19), (u 20), (u 7), (u 30), (u 32), (u 34), (u 36), (u 14), (u 26)].getD (j + 11) 0))))))) hD1 rfl
  obtain ⟨hP, hD⟩ := bc_of (DD, (fun o => [q1, (u 0), (u 2), (u 3), (u 25), (u 37), (u 4), (u 21), (u 8), (u 15), (u 6), (u 29), (u 31), (u 33), (u 35), (u 1), (u 5), (u 22), (u 23), (u 24), (u 27), (u 28), (u 38), (u 39), (u 9), (u 10), (u 11), (u 12), (u 13), (u 16), (u 17), (u 18), (u 19), (u 20), (u 7), (u 30), (u 32), (u 34), (u 36), (u 14), (u 26)].getD o 0), tI, tZ, tP, tS, tT) lw_c0 [0, 1, 3, 4, 26, 38, 5, 22, 9, 16, 7, 30, 32, 34, 36, 2, 6, 23, 24, 25, 28, 29, 39, 40, 10, 11, 12, 13, 14, 17, 18, 19, 20, 21, 8, 31, 33, 35, 37, 15, 27] (by decide) (fun o ho => by
    rcases (show o = 0 ∨ o = 1 ∨ o = 2 ∨ o = 3 ∨ o = 4 ∨ o = 5 ∨ o = 6 ∨ o = 7 ∨ o = 8 ∨ o = 9 ∨ o = 10 ∨ o = 11 ∨ o = 12 ∨ o = 13 ∨ o = 14 ∨ o = 15 ∨ o = 16 ∨ o = 17 ∨ o = 18 ∨ o = 19 ∨ o = 20 ∨ o = 21 ∨ o = 22 ∨ o = 23 ∨ o = 24 ∨ o = 25 ∨ o = 26 ∨ o = 27 ∨ o = 28 ∨ o = 29 ∨ o = 30 ∨ o = 31 ∨ o = 32 ∨ o = 33 ∨ o = 34 ∨ o = 35 ∨ o = 36 ∨ o = 37 ∨ o = 38 ∨ o = 39 ∨ o = 40 by omega) with rfl | rfl | rfl | rfl | rfl | rfl | rfl | rfl | rfl | rfl | rfl | rfl | rfl | rfl | rfl | rfl | rfl | rfl | rfl | rfl | rfl | rfl | rfl | rfl | rfl | rfl | rfl | rfl | rfl | rfl | rfl | rfl | rfl | rfl | rfl | rfl | rfl | rfl | rfl | rfl | rfl
    · exact rfl
    · exact rfl
    · exact rfl
    · exact rfl
    · exact rfl
    · exact rfl
    · exact rfl
    · exact rfl
    · exact rfl
    · exact rfl
    · exact rfl
    · exact rfl
    · exact rfl
    · exact rfl
    · exact rfl
    · rw [(bc_ga15 _).2]; exact rfl
    · rw [(bc_ga16 _).2]; exact rfl
    · rw [(bc_ga17 _).2]; exact rfl
    · rw [(bc_ga18 _).2]; exact rfl
    · rw [(bc_ga19 _).2]; exact rfl
    · rw [(bc_ga20 _).2]; exact rfl
    · rw [(bc_ga21 _).2]; exact rfl
    · rw [(bc_ga22 _).2]; exact rfl
    · rw [(bc_ga23 _).2]; exact rfl
    · rw [(bc_ga24 _).2]; exact rfl
    · rw [(bc_ga25 _).2]; exact rfl
    · rw [(bc_ga26 _).2]; exact rfl
    · rw [(bc_ga27 _).2]; exact rfl
    · rw [(bc_ga28 _).2]; exact rfl
    · rw [(bc_ga29 _).2]; exact rfl
    · rw [(bc_ga30 _).2]; exact rfl
    · rw [(bc_ga31 _).2]; exact rfl
    · rw [(bc_ga32 _).2]; exact rfl
    · rw [(bc_ga33 _).2]; exact rfl
    · rw [(bc_ga34 _).2]; exact rfl
    · rw [(bc_ga35 _).2]; exact rfl
    · rw [(bc_ga36 _).2]; exact rfl
    · rw [(bc_ga37 _).2]; exact rfl
    · rw [(bc_ga38 _).2]; exact rfl
    · rw [(bc_ga39 _).2]; exact rfl
    · rw [(bc_ga40 _).2]; exact rfl) hP1 hD1
  clear hP1 hD1 hK1
  obtain ⟨E, hE⟩ : ∃ E : bc_E, E = (DD, (fun o => [q1, (u 0), (u 2), (u 3), (u 25), (u 37), (u 4), (u 21), (u 8), (u 15), (u 6), (u 29), (u 31), (u 33), (u 35), (u 1), (u 5), (u 22), (u 23), (u 24), (u 27), (u 28), (u 38), (u 39), (u 9), (u 10), (u 11), (u 12), (u 13), (u 16), (u 17), (u 18), (u 19), (u 20), (u 7), (u 30), (u 32), (u 34), (u 36), (u 14), (u 26)].getD o 0), tI, tZ, tP, tS, tT) := ⟨_, rfl⟩
  have hP : va_P E.1 bp_cl (bc_W E lw_c0) H := by rw [hE]; exact hP
  have hD : va_D A (bc_W E lw_c0) := by rw [hE]; exact hD
  have hK0 : va_K E.1 bp_cl (bc_ty E) s := by rw [hE]; exact hK0
  have hst : bc_St E A s s.heap := by rw [hE]; exact ⟨hnw, ZS, TS, ZT, TT⟩
  have hq1 : q1 = E.2.1 0 := by rw [hE]; rfl
  clear hE
  refine lv_astore_n hx hb (dt_law0 3 rfl) rfl hl (Nat.le_of_ble_eq_true rfl) rfl (fun ls hl => ?_)
  have hl : lv_has ls 4 [(1, .ref q1), (0, .ref b)] := hl
  refine va_new (ci := 10) (fs := [.null, .null, .null, .null, .int 0, .int 0, .int 0, .int 0, .int 0, .int 0, .int 0, .int 0, .int 0, .int 0, .int 0, .int 0, .int 0, .int 0, .int 0, .int 0, .int 0, .int 0, .int 0, .null, .null, .null, .null, .null, .null, .null, .int 0, .null, .int 0, .int 0, .int 0, .null, .null, .null, .null, .int 0, .null, .null, .null, .null, .int 0, .int 0, .int 0, .int 0]) (C := "BlockPicturesModel") (T := bF_M) (N := 48) hx hb htb bm_in_M bt_M bt_M_ok hown (htb _ tw_758) (htb _ tw_759) (htb _ tw_79) hK0 hP hD hS hA rfl (fun j hj => by rcases (show j = 0 ∨ j = 1 ∨ j = 2 ∨ j = 3 ∨ j = 4 ∨ j = 5 ∨ j = 6 ∨ j = 7 ∨ j = 8 ∨ j = 9 ∨ j = 10 ∨ j = 11 ∨ j = 12 ∨ j = 13 ∨ j = 14 ∨ j = 15 ∨ j = 16 ∨ j = 17 ∨ j = 18 ∨ j = 19 ∨ j = 20 ∨ j = 21 ∨ j = 22 ∨ j = 23 ∨ j = 24 ∨ j = 25 ∨ j = 26 ∨ j = 27 ∨ j = 28 ∨ j = 29 ∨ j = 30 ∨ j = 31 ∨ j = 32 ∨ j = 33 ∨ j = 34 ∨ j = 35 ∨ j = 36 ∨ j = 37 ∨ j = 38 ∨ j = 39 ∨ j = 40 ∨ j = 41 ∨ j = 42 ∨ j = 43 ∨ j = 44 ∨ j = 45 ∨ j = 46 ∨ j = 47 by omega) with rfl | rfl | rfl | rfl | rfl | rfl | rfl | rfl | rfl | rfl | rfl | rfl | rfl | rfl | rfl | rfl | rfl | rfl | rfl | rfl | rfl | rfl | rfl | rfl | rfl | rfl | rfl | rfl | rfl | rfl | rfl | rfl | rfl | rfl | rfl | rfl | rfl | rfl | rfl | rfl | rfl | rfl | rfl | rfl | rfl | rfl | rfl | rfl <;> rfl) (Nat.le_of_ble_eq_true rfl) (Nat.le_of_ble_eq_true rfl) (dt_law0 4 rfl) (fun q2 H hP hD hS => ?_)
  obtain ⟨hPc, hP, hDc, hD, hne⟩ := lw_cut hP hD
  have hP : va_P E.1 bp_cl [(q2, .inr (10, [.null, .null, .null, .null, .int 0, .int 0, .int 0, .int 0, .int 0, .int 0, .int 0, .int 0, .int 0, .int 0, .int 0, .int 0, .int 0, .int 0, .int 0, .int 0, .int 0, .int 0, .int 0, .null, .null, .null, .null, .null, .null, .null, .int 0, .null, .int 0, .int 0, .int 0, .null, .null, .null, .null, .int 0, .null, .null, .null, .null, .int 0, .int 0, .int 0, .int 0]))] H := hP
  have hD : va_D A [(q2, .inr (10, [.null, .null, .null, .null, .int 0, .int 0, .int 0, .int 0, .int 0, .int 0, .int 0, .int 0, .int 0, .int 0, .int 0, .int 0, .int 0, .int 0, .int 0, .int 0, .int 0, .int 0, .int 0, .null, .null, .null, .null, .null, .null, .null, .int 0, .null, .int 0, .int 0, .int 0, .null, .null, .null, .null, .int 0, .null, .null, .null, .null, .int 0, .int 0, .int 0, .int 0]))] := hD
  refine W.widen (k := 42) (n := 3269) (Nat.le_of_ble_eq_true rfl) (Nat.le_of_ble_eq_true rfl) ?_
  refine lv_dup hx hb (dt_law0 5 rfl) rfl ?_
  have hFc := va_free (wc := [(q2, .inr (10, [.null, .null, .null, .null, .int 0, .int 0, .int 0, .int 0, .int 0, .int 0, .int 0, .int 0, .int 0, .int 0, .int 0, .int 0, .int 0, .int 0, .int 0, .int 0, .int 0, .int 0, .int 0, .null, .null, .null, .null, .null, .null, .null, .int 0, .null, .int 0, .int 0, .int 0, .null, .null, .null, .null, .int 0, .null, .null, .null, .null, .int 0, .int 0, .int 0, .int 0]))]) hD hS hA [0] rfl
  refine va_callv (va_runI (As := []) (rest := [.ref q2]) ⟨hx, hb, hml, hown, htb⟩ (i_M l E N m1 hm q2 H.size) (cwI 0 htb (bp_good tw_762) rfl rfl rfl (htb _ tw_79) (htb _ tw_760) (htb _ tw_761) rfl hd_i_M ⟨(Nat.le_of_ble_eq_true rfl), (Nat.le_of_ble_eq_true rfl)⟩) (ic_pre E hK0 hP hD hnw hao) rfl rfl hl.1 rfl (lv_room (Nat.le_of_ble_eq_true rfl)) (dt_law0 6 rfl) ⟨(Nat.le_of_ble_eq_true rfl), (Nat.le_of_ble_eq_true rfl)⟩) hS (fun q _ h => hFc q h) hFc (fun fm t H1 locs ht hvm hf0 hB hz1 hk1 hS => ?_)
  obtain ⟨hPm1, -, hDm1⟩ := hB
  rw [ht] at hPm1
  have hPc1 := lw_keep hPc (wa := [(q2, .inr (10, [.null, .null, .null, .null, .int 0, .int 0, .int 0, .int 0, .int 0, .int 0, .int 0, .int 0, .int 0, .int 0, .int 0, .int 0, .int 0, .int 0, .int 0, .int 0, .int 0, .int 0, .int 0, .null, .null, .null, .null, .null, .null, .null, .int 0, .null, .int 0, .int 0, .int 0, .null, .null, .null, .null, .int 0, .null, .null, .null, .null, .int 0, .int 0, .int 0, .int 0]))]) (fun i j p q h1 h2 => by
    have hz : i < 1 := (List.getElem?_eq_some_iff.mp h1).1
    have h0 : i = 0 := by omega
    subst h0
    cases h1
    exact Ne.symm (hne j q h2)) hk1
  have hdis : ∀ i j, i < 41 → j < 21 → E.2.1 i ≠ (lw_F E fm).2.1 j := by
    intro i j hi hj he
    have g1 := bc_get E lw_c0 hi
    have g2 := hDm1.2 j _ (bm_get (lw_F E fm) m1 hj)
    rcases g2 with ⟨k, x, hk⟩ | hge
    · have hz : k < 1 := (List.getElem?_eq_some_iff.mp hk).1
      have h0 : k = 0 := by omega
      subst h0
      have h3 : q2 = (lw_F E fm).2.1 j := congrArg Prod.fst (Option.some.inj hk)
      exact hne i _ g1 (he.trans h3.symm)
    · have h3 := (hPc i _ g1).lt
      have h4 : E.2.1 i < H.size := h3
      rw [he] at h4
      exact absurd h4 (Nat.not_lt.mpr hge)
  have hDm := hDm1.weaken (fun _ q _ h => hFc q.1 h)
  refine W.widen (k := 62) (n := 5981) (Nat.le_of_ble_eq_true rfl) (Nat.le_of_ble_eq_true rfl) ?_
  refine lv_astore_n hx hb (dt_law0 7 rfl) rfl hl (Nat.le_of_ble_eq_true rfl) rfl (fun ls hl => ?_)
  have hl : lv_has ls 4 [(2, .ref q2), (1, .ref q1), (0, .ref b)] := hl
  refine lv_iconst (v := 0) hx hb (dt_law0 8 rfl) (by decide) ?_
  refine lv_istore_n hx hb (dt_law0 9 rfl) rfl hl (Nat.le_of_ble_eq_true rfl) rfl (fun ls hl => ?_)
  have hl : lv_has ls 4 [(3, .int 0), (2, .ref q2), (1, .ref q1), (0, .ref b)] := hl
  subst hq1
  subst hf0
  exact lw_loop l hL N J hup hfeed hend hreset hfault hunits hshown horder hsample hheld hheldState hheldSample hvector hsmoothed hdraw hwrite hwritten hpass E fm hAd hx hb hr hml hown htb hX hbl hlocks hst hK0 hdis 513 0 lw_c0 m1 ls H1 locs (by omega) hJ0 (lv_sub hl [3, 2, 1, 0] rfl) hPc1 hDc hPm1 hDm hS

set_option maxHeartbeats 4000000 in
set_option maxRecDepth 100000 in
theorem wbm_M_written (l : Launch) (E : bm_E) (N : Nat) (a1 : Int32) (m : bp_M) (sz : Nat) (r : Int32) (mr : bp_M)  (h : bm_M_written N a1 m = some (r, mr)) : Met l y_bm_M_written (Cond.code y_bm_M_written prog_13_method_60_code 2 (some .int) :: bp_tb) ({ frames := 1, cells := 0, slots := 0, locals := 22 }) (bm_Pc E m sz [.ref (E.2.1 0), .int a1]) (bm_Qi E m sz r mr) 0 0 (va_A (bm_W E m) sz) := by
  refine Met.ofW (cc := prog_13_method_60_code) (maxL := 2) (ret := (some .int)) (by decide) rfl ?_
  intro p e s mt args below meth c s₁ B hml hv
  obtain ⟨rfl, hsz, hP, hK, hD0, hst⟩ := hv
  have hx := B.exec
  have hb := B.bytes
  have hr := B.returns
  have htb : ∀ w ∈ bp_tb, w.before _ s = true := fun w hw => atoms_spec (ws := Cond.code y_bm_M_written prog_13_method_60_code 2 (some .int) :: bp_tb) B.pre w (List.mem_cons_of_mem _ hw)
  have hown : s.vm.findClass "BlockPicturesModel" = some mt.cls := findClass_of_methodNamed B.named
  have hlocks := B.notSynchronized
  subst hsz
  have hD := hD0.self (sz := s.heap.size)
  generalize hAe : va_A (bm_W E m) s.heap.size = A at hD hst ⊢
  have hsub : ∀ (u : bp_M) (z q : Nat), s.heap.size ≤ z → va_A (bm_W E u) z q → A q := bm_sub hAe
  have hS : va_S A s.heap s.heap [] := va_S.rf
  have hl := lv_entry ([.ref (E.2.1 0), .int a1]) (n := 2) (Nat.le_of_ble_eq_true rfl)
  rw [lg_entry_eq]
  generalize (lg_sl ([.ref (E.2.1 0), .int a1]) ++ List.replicate (2 - (lg_sl ([.ref (E.2.1 0), .int a1])).length) Slot.unset).toArray = ls at hl ⊢
  have hl : lv_has ls 2 [(0, .ref (E.2.1 0)), (1, .int a1)] := hl
  refine bm_keyI (R := ({ frames := 1, cells := 0, slots := 0, locals := 22 })) E hx hb hr hlocks hK hAe (fun Q hret => ?_)
  clear B hD0 hlocks hr
  generalize ([.ref (E.2.1 0), .int a1] : List Value).toArray = args at htb hret ⊢
  clear hAe
  have hL24 : ∀ (s0 : Int32) (m : bp_M), bm_M_written_L24 N a1 s0 m = some (r, mr) → ∀ (ls : Array Slot) (H : Heap) (locs : List Loc), lv_has ls 2 [] → va_P E.1 bp_cl (bm_W E m) H → va_D A (bm_W E m) → va_S A s.heap H locs → W p l e ({ frames := 1, cells := 0, slots := 0, locals := 22 }) s mt args below meth c H locs 0 0 Q (F0 mt 24 ls [.int s0]) := by
    intro s0 m h ls H locs hl hP hD hS
    rw [bm_M_written_L24] at h
    exact hret _ _ _ _ _ _ h hP hD hS (dt_bm_M_written 14 rfl)
  suffices hgo : ∀ (H : Heap) (locs : List Loc), va_P E.1 bp_cl (bm_W E m) H → va_D A (bm_W E m) → va_S A s.heap H locs → W p l e ({ frames := 1, cells := 0, slots := 0, locals := 22 }) s mt args below meth c H locs 0 0 Q (F0 mt 0 ls []) from hgo _ _ hP hD hS
  clear hP hD hS
  intro H locs hP hD hS
  unfold bm_M_written at h
  refine lv_iload_n hx hb (dt_bm_M_written 0 rfl) rfl (lv_at hl 1 rfl) ?_
  refine lv_iconst (v := 0) hx hb (dt_bm_M_written 1 rfl) (by decide) ?_
  refine lv_aload_n hx hb (dt_bm_M_written 2 rfl) rfl (lv_at hl 0 rfl) ?_
  refine va_get (D := E.1) (ci := 10) (v := .int (m.1 0 44)) (C := "BlockPicturesModel") (T := bF_M) (N := 48) hx hb htb bm_in_M hown hK hP 0 (bm_gM E m) rfl 44 (by decide) (htb _ tw_812) (fun _ h9 => h9) rfl (dt_bm_M_written 3 rfl) ?_
  refine lv_iconst (v := 1) hx hb (dt_bm_M_written 4 rfl) (by decide) ?_
  refine lv_isub hx hb (dt_bm_M_written 5 rfl) ?_
  obtain ⟨z2, m1, hm1, h⟩ := bp_cI_s h
  refine bm_callI E hsub hS (va_runS (As := [.int a1, .int 0, .int ((m.1 0 44) - 1 : Int32)]) (rest := []) ⟨hx, hb, hml, hown, htb⟩ (wbm_M_within l E N a1 0 ((m.1 0 44) - 1 : Int32) m H.size z2 m1 hm1) (va_cwS 3 htb (bp_goodW tw_917 tw_918 tw_79 tw_919) rfl rfl rfl hd_bm_M_within ⟨Nat.le_of_ble_eq_true rfl, Nat.le_of_ble_eq_true rfl⟩) (bm_preS E hsub hst hK hP hD hS _) rfl rfl hl.1 rfl (lv_room (Nat.le_of_ble_eq_true rfl)) (dt_bm_M_written 6 rfl) ⟨Nat.zero_le _, Nat.zero_le _⟩) (fun H locs hP hD hS => ?_)
  refine lv_if_eq (tgt := 23) hx hb (dt_bm_M_written 7 rfl) (by decide) (fun hc => ?_) (fun hc => ?_)
  · replace h := (if_pos hc).symm.trans h
    refine lv_iconst (v := (-1)) hx hb (dt_bm_M_written 13 rfl) (by decide) ?_
    exact hL24 _ _ h ls H locs (lv_sub hl [] rfl) hP hD hS
  · replace h := (if_neg hc).symm.trans h
    refine lv_aload_n hx hb (dt_bm_M_written 8 rfl) rfl (lv_at hl 0 rfl) ?_
    refine va_get (D := E.1) (ci := 10) (v := .ref (E.2.1 20)) (C := "BlockPicturesModel") (T := bF_M) (N := 48) hx hb htb bm_in_M hown hK hP 0 (bm_gM E m1) rfl 43 (by decide) (htb _ tw_811) (fun _ h9 => h9) rfl (dt_bm_M_written 9 rfl) ?_
    refine lv_iload_n hx hb (dt_bm_M_written 10 rfl) rfl (lv_at hl 1 rfl) ?_
    obtain ⟨hg3, h⟩ := bp_gi_s h
    refine bm_lI E hx hb hK hP (bm_ga20 E) hg3 (dt_bm_M_written 11 rfl) ?_
    refine lv_goto (tgt := 24) hx hb (dt_bm_M_written 12 rfl) (by decide) ?_
    exact hL24 _ _ h ls H locs (lv_sub hl [] rfl) hP hD hS

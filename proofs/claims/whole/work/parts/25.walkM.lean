set_option maxHeartbeats 4000000 in
set_option maxRecDepth 100000 in
theorem wbm_M_fault (l : Launch) (E : bm_E) (N : Nat)  (m : bp_M) (sz : Nat) (r : Int32) (mr : bp_M)  (h : bm_M_fault N m = some (r, mr)) : Met l y_bm_M_fault (Cond.code y_bm_M_fault prog_13_method_45_code 1 (some .int) :: bp_tb) ({ frames := 0, cells := 0, slots := 0, locals := 0 }) (bm_Pc E m sz [.ref (E.2.1 0)]) (bm_Qi E m sz r mr) 0 0 (va_A (bm_W E m) sz) := by
  refine Met.ofW (cc := prog_13_method_45_code) (maxL := 1) (ret := (some .int)) (by decide) rfl ?_
  intro p e s mt args below meth c s₁ B hml hv
  obtain ⟨rfl, hsz, hP, hK, hD0, hst⟩ := hv
  have hx := B.exec
  have hb := B.bytes
  have hr := B.returns
  have htb : ∀ w ∈ bp_tb, w.before _ s = true := fun w hw => atoms_spec (ws := Cond.code y_bm_M_fault prog_13_method_45_code 1 (some .int) :: bp_tb) B.pre w (List.mem_cons_of_mem _ hw)
  have hown : s.vm.findClass "BlockPicturesModel" = some mt.cls := findClass_of_methodNamed B.named
  have hlocks := B.notSynchronized
  subst hsz
  have hD := hD0.self (sz := s.heap.size)
  generalize hAe : va_A (bm_W E m) s.heap.size = A at hD hst ⊢
  have hsub : ∀ (u : bp_M) (z q : Nat), s.heap.size ≤ z → va_A (bm_W E u) z q → A q := bm_sub hAe
  have hS : va_S A s.heap s.heap [] := va_S.rf
  have hl := lv_entry ([.ref (E.2.1 0)]) (n := 1) (Nat.le_of_ble_eq_true rfl)
  rw [lg_entry_eq]
  generalize (lg_sl ([.ref (E.2.1 0)]) ++ List.replicate (1 - (lg_sl ([.ref (E.2.1 0)])).length) Slot.unset).toArray = ls at hl ⊢
  have hl : lv_has ls 1 [(0, .ref (E.2.1 0))] := hl
  refine bm_keyI (R := ({ frames := 0, cells := 0, slots := 0, locals := 0 })) E hx hb hr hlocks hK hAe (fun Q hret => ?_)
  clear B hD0 hlocks hr
  generalize ([.ref (E.2.1 0)] : List Value).toArray = args at htb hret ⊢
  clear hAe
  suffices hgo : ∀ (H : Heap) (locs : List Loc), va_P E.1 bp_cl (bm_W E m) H → va_D A (bm_W E m) → va_S A s.heap H locs → W p l e ({ frames := 0, cells := 0, slots := 0, locals := 0 }) s mt args below meth c H locs 0 0 Q (F0 mt 0 ls []) from hgo _ _ hP hD hS
  clear hP hD hS
  intro H locs hP hD hS
  unfold bm_M_fault at h
  refine lv_aload_n hx hb (dt_bm_M_fault 0 rfl) rfl (lv_at hl 0 rfl) ?_
  refine va_get (D := E.1) (ci := 10) (v := .int (m.1 0 8)) (C := "BlockPicturesModel") (T := bF_M) (N := 48) hx hb htb bm_in_M hown hK hP 0 (bm_gM E m) rfl 8 (by decide) (htb _ tw_776) (fun _ h9 => h9) rfl (dt_bm_M_fault 1 rfl) ?_
  exact hret _ _ _ _ _ _ h hP hD hS (dt_bm_M_fault 2 rfl)
set_option maxHeartbeats 4000000 in
set_option maxRecDepth 100000 in
theorem wbm_M_units (l : Launch) (E : bm_E) (N : Nat)  (m : bp_M) (sz : Nat) (r : Int32) (mr : bp_M)  (h : bm_M_units N m = some (r, mr)) : Met l y_bm_M_units (Cond.code y_bm_M_units prog_13_method_46_code 1 (some .int) :: bp_tb) ({ frames := 0, cells := 0, slots := 0, locals := 0 }) (bm_Pc E m sz [.ref (E.2.1 0)]) (bm_Qi E m sz r mr) 0 0 (va_A (bm_W E m) sz) := by
  refine Met.ofW (cc := prog_13_method_46_code) (maxL := 1) (ret := (some .int)) (by decide) rfl ?_
  intro p e s mt args below meth c s₁ B hml hv
  obtain ⟨rfl, hsz, hP, hK, hD0, hst⟩ := hv
  have hx := B.exec
  have hb := B.bytes
  have hr := B.returns
  have htb : ∀ w ∈ bp_tb, w.before _ s = true := fun w hw => atoms_spec (ws := Cond.code y_bm_M_units prog_13_method_46_code 1 (some .int) :: bp_tb) B.pre w (List.mem_cons_of_mem _ hw)
  have hown : s.vm.findClass "BlockPicturesModel" = some mt.cls := findClass_of_methodNamed B.named
  have hlocks := B.notSynchronized
  subst hsz
  have hD := hD0.self (sz := s.heap.size)
  generalize hAe : va_A (bm_W E m) s.heap.size = A at hD hst ⊢
  have hsub : ∀ (u : bp_M) (z q : Nat), s.heap.size ≤ z → va_A (bm_W E u) z q → A q := bm_sub hAe
  have hS : va_S A s.heap s.heap [] := va_S.rf
  have hl := lv_entry ([.ref (E.2.1 0)]) (n := 1) (Nat.le_of_ble_eq_true rfl)
  rw [lg_entry_eq]
  generalize (lg_sl ([.ref (E.2.1 0)]) ++ List.replicate (1 - (lg_sl ([.ref (E.2.1 0)])).length) Slot.unset).toArray = ls at hl ⊢
  have hl : lv_has ls 1 [(0, .ref (E.2.1 0))] := hl
  refine bm_keyI (R := ({ frames := 0, cells := 0, slots := 0, locals := 0 })) E hx hb hr hlocks hK hAe (fun Q hret => ?_)
  clear B hD0 hlocks hr
  generalize ([.ref (E.2.1 0)] : List Value).toArray = args at htb hret ⊢
  clear hAe
  suffices hgo : ∀ (H : Heap) (locs : List Loc), va_P E.1 bp_cl (bm_W E m) H → va_D A (bm_W E m) → va_S A s.heap H locs → W p l e ({ frames := 0, cells := 0, slots := 0, locals := 0 }) s mt args below meth c H locs 0 0 Q (F0 mt 0 ls []) from hgo _ _ hP hD hS
  clear hP hD hS
  intro H locs hP hD hS
  unfold bm_M_units at h
  refine lv_aload_n hx hb (dt_bm_M_units 0 rfl) rfl (lv_at hl 0 rfl) ?_
  refine va_get (D := E.1) (ci := 10) (v := .int (m.1 0 9)) (C := "BlockPicturesModel") (T := bF_M) (N := 48) hx hb htb bm_in_M hown hK hP 0 (bm_gM E m) rfl 9 (by decide) (htb _ tw_777) (fun _ h9 => h9) rfl (dt_bm_M_units 1 rfl) ?_
  exact hret _ _ _ _ _ _ h hP hD hS (dt_bm_M_units 2 rfl)
set_option maxHeartbeats 4000000 in
set_option maxRecDepth 100000 in
theorem wbm_M_shown (l : Launch) (E : bm_E) (N : Nat)  (m : bp_M) (sz : Nat) (r : Int32) (mr : bp_M)  (h : bm_M_shown N m = some (r, mr)) : Met l y_bm_M_shown (Cond.code y_bm_M_shown prog_13_method_47_code 1 (some .int) :: bp_tb) ({ frames := 0, cells := 0, slots := 0, locals := 0 }) (bm_Pc E m sz [.ref (E.2.1 0)]) (bm_Qi E m sz r mr) 0 0 (va_A (bm_W E m) sz) := by
  refine Met.ofW (cc := prog_13_method_47_code) (maxL := 1) (ret := (some .int)) (by decide) rfl ?_
  intro p e s mt args below meth c s₁ B hml hv
  obtain ⟨rfl, hsz, hP, hK, hD0, hst⟩ := hv
  have hx := B.exec
  have hb := B.bytes
  have hr := B.returns
  have htb : ∀ w ∈ bp_tb, w.before _ s = true := fun w hw => atoms_spec (ws := Cond.code y_bm_M_shown prog_13_method_47_code 1 (some .int) :: bp_tb) B.pre w (List.mem_cons_of_mem _ hw)
  have hown : s.vm.findClass "BlockPicturesModel" = some mt.cls := findClass_of_methodNamed B.named
  have hlocks := B.notSynchronized
  subst hsz
  have hD := hD0.self (sz := s.heap.size)
  generalize hAe : va_A (bm_W E m) s.heap.size = A at hD hst ⊢
  have hsub : ∀ (u : bp_M) (z q : Nat), s.heap.size ≤ z → va_A (bm_W E u) z q → A q := bm_sub hAe
  have hS : va_S A s.heap s.heap [] := va_S.rf
  have hl := lv_entry ([.ref (E.2.1 0)]) (n := 1) (Nat.le_of_ble_eq_true rfl)
  rw [lg_entry_eq]
  generalize (lg_sl ([.ref (E.2.1 0)]) ++ List.replicate (1 - (lg_sl ([.ref (E.2.1 0)])).length) Slot.unset).toArray = ls at hl ⊢
  have hl : lv_has ls 1 [(0, .ref (E.2.1 0))] := hl
  refine bm_keyI (R := ({ frames := 0, cells := 0, slots := 0, locals := 0 })) E hx hb hr hlocks hK hAe (fun Q hret => ?_)
  clear B hD0 hlocks hr
  generalize ([.ref (E.2.1 0)] : List Value).toArray = args at htb hret ⊢
  clear hAe
  suffices hgo : ∀ (H : Heap) (locs : List Loc), va_P E.1 bp_cl (bm_W E m) H → va_D A (bm_W E m) → va_S A s.heap H locs → W p l e ({ frames := 0, cells := 0, slots := 0, locals := 0 }) s mt args below meth c H locs 0 0 Q (F0 mt 0 ls []) from hgo _ _ hP hD hS
  clear hP hD hS
  intro H locs hP hD hS
  unfold bm_M_shown at h
  refine lv_aload_n hx hb (dt_bm_M_shown 0 rfl) rfl (lv_at hl 0 rfl) ?_
  refine va_get (D := E.1) (ci := 10) (v := .int (m.1 0 39)) (C := "BlockPicturesModel") (T := bF_M) (N := 48) hx hb htb bm_in_M hown hK hP 0 (bm_gM E m) rfl 39 (by decide) (htb _ tw_807) (fun _ h9 => h9) rfl (dt_bm_M_shown 1 rfl) ?_
  exact hret _ _ _ _ _ _ h hP hD hS (dt_bm_M_shown 2 rfl)
set_option maxHeartbeats 4000000 in
set_option maxRecDepth 100000 in
theorem wbm_M_order (l : Launch) (E : bm_E) (N : Nat) (a1 : Int32) (m : bp_M) (sz : Nat) (r : Int32) (mr : bp_M)  (h : bm_M_order N a1 m = some (r, mr)) : Met l y_bm_M_order (Cond.code y_bm_M_order prog_13_method_48_code 2 (some .int) :: bp_tb) ({ frames := 1, cells := 0, slots := 0, locals := 22 }) (bm_Pc E m sz [.ref (E.2.1 0), .int a1]) (bm_Qi E m sz r mr) 0 0 (va_A (bm_W E m) sz) := by
  refine Met.ofW (cc := prog_13_method_48_code) (maxL := 2) (ret := (some .int)) (by decide) rfl ?_
  intro p e s mt args below meth c s₁ B hml hv
  obtain ⟨rfl, hsz, hP, hK, hD0, hst⟩ := hv
  have hx := B.exec
  have hb := B.bytes
  have hr := B.returns
  have htb : ∀ w ∈ bp_tb, w.before _ s = true := fun w hw => atoms_spec (ws := Cond.code y_bm_M_order prog_13_method_48_code 2 (some .int) :: bp_tb) B.pre w (List.mem_cons_of_mem _ hw)
  have hown : s.vm.findClass "BlockPicturesModel" = some mt.cls := findClass_of_methodNamed B.named
  have hlocks := B.notSynchronized
  subst hsz
  have hD := hD0.self (sz := s.heap.size)
  generalize hAe : va_A (bm_W E m) s.heap.size = A at hD hst ⊢
  have hsub : ∀ (u : bp_M) (z q : Nat), s.heap.size ≤ z → va_A (bm_W E u) z q → A q := bm_sub hAe
  have hS : va_S A s.heap s.heap [] := va_S.rf
  have hl := lv_entry ([.ref (E.2.1 0), .int a1]) (n := 2) (Nat.le_of_ble_eq_true rfl)
  rw [lg_entry_eq]
  generalize (lg_sl ([.ref (E.2.1 0), .int a1]) ++ List.replicate (2 - (lg_sl ([.ref (E.2.1 0), .int a1])).length) Slot.unset).toArray = ls at hl ⊢
  have hl : lv_has ls 2 [(0, .ref (E.2.1 0)), (1, .int a1)] := hl
  refine bm_keyI (R := ({ frames := 1, cells := 0, slots := 0, locals := 22 })) E hx hb hr hlocks hK hAe (fun Q hret => ?_)
  clear B hD0 hlocks hr
  generalize ([.ref (E.2.1 0), .int a1] : List Value).toArray = args at htb hret ⊢
  clear hAe
  have hL28 : ∀ (s0 : Int32) (m : bp_M), bm_M_order_L28 N a1 s0 m = some (r, mr) → ∀ (ls : Array Slot) (H : Heap) (locs : List Loc), lv_has ls 2 [] → va_P E.1 bp_cl (bm_W E m) H → va_D A (bm_W E m) → va_S A s.heap H locs → W p l e ({ frames := 1, cells := 0, slots := 0, locals := 22 }) s mt args below meth c H locs 0 0 Q (F0 mt 28 ls [.int s0]) := by
    intro s0 m h ls H locs hl hP hD hS
    rw [bm_M_order_L28] at h
    exact hret _ _ _ _ _ _ h hP hD hS (dt_bm_M_order 15 rfl)
  have hL27 : ∀ (m : bp_M), bm_M_order_L27 N a1 m = some (r, mr) → ∀ (ls : Array Slot) (H : Heap) (locs : List Loc), lv_has ls 2 [] → va_P E.1 bp_cl (bm_W E m) H → va_D A (bm_W E m) → va_S A s.heap H locs → W p l e ({ frames := 1, cells := 0, slots := 0, locals := 22 }) s mt args below meth c H locs 0 0 Q (F0 mt 27 ls []) := by
    intro m h ls H locs hl hP hD hS
    rw [bm_M_order_L27] at h
    refine lv_iconst (v := (-1)) hx hb (dt_bm_M_order 14 rfl) (by decide) ?_
    exact hL28 _ _ h ls H locs (lv_sub hl [] rfl) hP hD hS
  suffices hgo : ∀ (H : Heap) (locs : List Loc), va_P E.1 bp_cl (bm_W E m) H → va_D A (bm_W E m) → va_S A s.heap H locs → W p l e ({ frames := 1, cells := 0, slots := 0, locals := 22 }) s mt args below meth c H locs 0 0 Q (F0 mt 0 ls []) from hgo _ _ hP hD hS
  clear hP hD hS
  intro H locs hP hD hS
  unfold bm_M_order at h
  refine lv_iload_n hx hb (dt_bm_M_order 0 rfl) rfl (lv_at hl 1 rfl) ?_
  refine lv_iconst (v := 0) hx hb (dt_bm_M_order 1 rfl) (by decide) ?_
  refine lv_bipush (v := 7) hx hb (dt_bm_M_order 2 rfl) (by decide) ?_
  obtain ⟨z2, m1, hm1, h⟩ := bp_cI_s h
  refine bm_callI E hsub hS (va_runS (As := [.int a1, .int 0, .int 7]) (rest := []) ⟨hx, hb, hml, hown, htb⟩ (wbm_M_within l E N a1 0 7 m H.size z2 m1 hm1) (va_cwS 3 htb (bp_goodW tw_917 tw_918 tw_79 tw_919) rfl rfl rfl hd_bm_M_within ⟨Nat.le_of_ble_eq_true rfl, Nat.le_of_ble_eq_true rfl⟩) (bm_preS E hsub hst hK hP hD hS _) rfl rfl hl.1 rfl (lv_room (Nat.le_of_ble_eq_true rfl)) (dt_bm_M_order 3 rfl) ⟨Nat.zero_le _, Nat.zero_le _⟩) (fun H locs hP hD hS => ?_)
  refine lv_if_eq (tgt := 27) hx hb (dt_bm_M_order 4 rfl) (by decide) (fun hc => ?_) (fun hc => ?_)
  · replace h := (if_pos hc).symm.trans h
    exact hL27 _ h ls H locs (lv_sub hl [] rfl) hP hD hS
  · replace h := (if_neg hc).symm.trans h
    refine lv_iload_n hx hb (dt_bm_M_order 5 rfl) rfl (lv_at hl 1 rfl) ?_
    refine lv_aload_n hx hb (dt_bm_M_order 6 rfl) rfl (lv_at hl 0 rfl) ?_
    refine va_get (D := E.1) (ci := 10) (v := .int (m1.1 0 39)) (C := "BlockPicturesModel") (T := bF_M) (N := 48) hx hb htb bm_in_M hown hK hP 0 (bm_gM E m1) rfl 39 (by decide) (htb _ tw_807) (fun _ h9 => h9) rfl (dt_bm_M_order 7 rfl) ?_
    refine lv_icmp_ge (tgt := 27) hx hb (dt_bm_M_order 8 rfl) (by decide) (fun hc => ?_) (fun hc => ?_)
    · replace h := (if_pos hc).symm.trans h
      exact hL27 _ h ls H locs (lv_sub hl [] rfl) hP hD hS
    · replace h := (if_neg hc).symm.trans h
      refine lv_aload_n hx hb (dt_bm_M_order 9 rfl) rfl (lv_at hl 0 rfl) ?_
      refine va_get (D := E.1) (ci := 10) (v := .ref (E.2.1 17)) (C := "BlockPicturesModel") (T := bF_M) (N := 48) hx hb htb bm_in_M hown hK hP 0 (bm_gM E m1) rfl 40 (by decide) (htb _ tw_808) (fun _ h9 => h9) rfl (dt_bm_M_order 10 rfl) ?_
      refine lv_iload_n hx hb (dt_bm_M_order 11 rfl) rfl (lv_at hl 1 rfl) ?_
      obtain ⟨hg3, h⟩ := bp_gi_s h
      refine bm_lI E hx hb hK hP (bm_ga17 E) hg3 (dt_bm_M_order 12 rfl) ?_
      refine lv_goto (tgt := 28) hx hb (dt_bm_M_order 13 rfl) (by decide) ?_
      exact hL28 _ _ h ls H locs (lv_sub hl [] rfl) hP hD hS
set_option maxHeartbeats 4000000 in
set_option maxRecDepth 100000 in
theorem wbm_M_sample (l : Launch) (E : bm_E) (N : Nat) (a1 : Int32) (m : bp_M) (sz : Nat) (r : Int32) (mr : bp_M)  (h : bm_M_sample N a1 m = some (r, mr)) : Met l y_bm_M_sample (Cond.code y_bm_M_sample prog_13_method_49_code 2 (some .int) :: bp_tb) ({ frames := 1, cells := 0, slots := 0, locals := 22 }) (bm_Pc E m sz [.ref (E.2.1 0), .int a1]) (bm_Qi E m sz r mr) 0 0 (va_A (bm_W E m) sz) := by
  refine Met.ofW (cc := prog_13_method_49_code) (maxL := 2) (ret := (some .int)) (by decide) rfl ?_
  intro p e s mt args below meth c s₁ B hml hv
  obtain ⟨rfl, hsz, hP, hK, hD0, hst⟩ := hv
  have hx := B.exec
  have hb := B.bytes
  have hr := B.returns
  have htb : ∀ w ∈ bp_tb, w.before _ s = true := fun w hw => atoms_spec (ws := Cond.code y_bm_M_sample prog_13_method_49_code 2 (some .int) :: bp_tb) B.pre w (List.mem_cons_of_mem _ hw)
  have hown : s.vm.findClass "BlockPicturesModel" = some mt.cls := findClass_of_methodNamed B.named
  have hlocks := B.notSynchronized
  subst hsz
  have hD := hD0.self (sz := s.heap.size)
  generalize hAe : va_A (bm_W E m) s.heap.size = A at hD hst ⊢
  have hsub : ∀ (u : bp_M) (z q : Nat), s.heap.size ≤ z → va_A (bm_W E u) z q → A q := bm_sub hAe
  have hS : va_S A s.heap s.heap [] := va_S.rf
  have hl := lv_entry ([.ref (E.2.1 0), .int a1]) (n := 2) (Nat.le_of_ble_eq_true rfl)
  rw [lg_entry_eq]
  generalize (lg_sl ([.ref (E.2.1 0), .int a1]) ++ List.replicate (2 - (lg_sl ([.ref (E.2.1 0), .int a1])).length) Slot.unset).toArray = ls at hl ⊢
  have hl : lv_has ls 2 [(0, .ref (E.2.1 0)), (1, .int a1)] := hl
  refine bm_keyI (R := ({ frames := 1, cells := 0, slots := 0, locals := 22 })) E hx hb hr hlocks hK hAe (fun Q hret => ?_)
  clear B hD0 hlocks hr
  generalize ([.ref (E.2.1 0), .int a1] : List Value).toArray = args at htb hret ⊢
  clear hAe
  have hL28 : ∀ (s0 : Int32) (m : bp_M), bm_M_sample_L28 N a1 s0 m = some (r, mr) → ∀ (ls : Array Slot) (H : Heap) (locs : List Loc), lv_has ls 2 [] → va_P E.1 bp_cl (bm_W E m) H → va_D A (bm_W E m) → va_S A s.heap H locs → W p l e ({ frames := 1, cells := 0, slots := 0, locals := 22 }) s mt args below meth c H locs 0 0 Q (F0 mt 28 ls [.int s0]) := by
    intro s0 m h ls H locs hl hP hD hS
    rw [bm_M_sample_L28] at h
    exact hret _ _ _ _ _ _ h hP hD hS (dt_bm_M_sample 14 rfl)
  have hL27 : ∀ (m : bp_M), bm_M_sample_L27 N a1 m = some (r, mr) → ∀ (ls : Array Slot) (H : Heap) (locs : List Loc), lv_has ls 2 [] → va_P E.1 bp_cl (bm_W E m) H → va_D A (bm_W E m) → va_S A s.heap H locs → W p l e ({ frames := 1, cells := 0, slots := 0, locals := 22 }) s mt args below meth c H locs 0 0 Q (F0 mt 27 ls []) := by
    intro m h ls H locs hl hP hD hS
    rw [bm_M_sample_L27] at h
    refine lv_iconst (v := (-1)) hx hb (dt_bm_M_sample 13 rfl) (by decide) ?_
    exact hL28 _ _ h ls H locs (lv_sub hl [] rfl) hP hD hS
  suffices hgo : ∀ (H : Heap) (locs : List Loc), va_P E.1 bp_cl (bm_W E m) H → va_D A (bm_W E m) → va_S A s.heap H locs → W p l e ({ frames := 1, cells := 0, slots := 0, locals := 22 }) s mt args below meth c H locs 0 0 Q (F0 mt 0 ls []) from hgo _ _ hP hD hS
  clear hP hD hS
  intro H locs hP hD hS
  unfold bm_M_sample at h
  refine lv_aload_n hx hb (dt_bm_M_sample 0 rfl) rfl (lv_at hl 0 rfl) ?_
  refine va_get (D := E.1) (ci := 10) (v := .int (m.1 0 39)) (C := "BlockPicturesModel") (T := bF_M) (N := 48) hx hb htb bm_in_M hown hK hP 0 (bm_gM E m) rfl 39 (by decide) (htb _ tw_807) (fun _ h9 => h9) rfl (dt_bm_M_sample 1 rfl) ?_
  refine lv_if_le (tgt := 27) hx hb (dt_bm_M_sample 2 rfl) (by decide) (fun hc => ?_) (fun hc => ?_)
  · replace h := (if_pos hc).symm.trans h
    exact hL27 _ h ls H locs (lv_sub hl [] rfl) hP hD hS
  · replace h := (if_neg hc).symm.trans h
    refine lv_iload_n hx hb (dt_bm_M_sample 3 rfl) rfl (lv_at hl 1 rfl) ?_
    refine lv_iconst (v := 0) hx hb (dt_bm_M_sample 4 rfl) (by decide) ?_
    refine lv_sipush (v := 255) hx hb (dt_bm_M_sample 5 rfl) (by decide) ?_
    obtain ⟨z2, m1, hm1, h⟩ := bp_cI_s h
    refine bm_callI E hsub hS (va_runS (As := [.int a1, .int 0, .int 255]) (rest := []) ⟨hx, hb, hml, hown, htb⟩ (wbm_M_within l E N a1 0 255 m H.size z2 m1 hm1) (va_cwS 3 htb (bp_goodW tw_917 tw_918 tw_79 tw_919) rfl rfl rfl hd_bm_M_within ⟨Nat.le_of_ble_eq_true rfl, Nat.le_of_ble_eq_true rfl⟩) (bm_preS E hsub hst hK hP hD hS _) rfl rfl hl.1 rfl (lv_room (Nat.le_of_ble_eq_true rfl)) (dt_bm_M_sample 6 rfl) ⟨Nat.zero_le _, Nat.zero_le _⟩) (fun H locs hP hD hS => ?_)
    refine lv_if_eq (tgt := 27) hx hb (dt_bm_M_sample 7 rfl) (by decide) (fun hc => ?_) (fun hc => ?_)
    · replace h := (if_pos hc).symm.trans h
      exact hL27 _ h ls H locs (lv_sub hl [] rfl) hP hD hS
    · replace h := (if_neg hc).symm.trans h
      refine lv_aload_n hx hb (dt_bm_M_sample 8 rfl) rfl (lv_at hl 0 rfl) ?_
      refine va_get (D := E.1) (ci := 10) (v := .ref (E.2.1 18)) (C := "BlockPicturesModel") (T := bF_M) (N := 48) hx hb htb bm_in_M hown hK hP 0 (bm_gM E m1) rfl 41 (by decide) (htb _ tw_809) (fun _ h9 => h9) rfl (dt_bm_M_sample 9 rfl) ?_
      refine lv_iload_n hx hb (dt_bm_M_sample 10 rfl) rfl (lv_at hl 1 rfl) ?_
      obtain ⟨hg3, h⟩ := bp_gi_s h
      refine bm_lI E hx hb hK hP (bm_ga18 E) hg3 (dt_bm_M_sample 11 rfl) ?_
      refine lv_goto (tgt := 28) hx hb (dt_bm_M_sample 12 rfl) (by decide) ?_
      exact hL28 _ _ h ls H locs (lv_sub hl [] rfl) hP hD hS
set_option maxHeartbeats 4000000 in
set_option maxRecDepth 100000 in
theorem wbm_M_held (l : Launch) (E : bm_E) (N : Nat)  (m : bp_M) (sz : Nat) (r : Int32) (mr : bp_M)  (h : bm_M_held N m = some (r, mr)) : Met l y_bm_M_held (Cond.code y_bm_M_held prog_13_method_50_code 1 (some .int) :: bp_tb) ({ frames := 0, cells := 0, slots := 0, locals := 0 }) (bm_Pc E m sz [.ref (E.2.1 0)]) (bm_Qi E m sz r mr) 0 0 (va_A (bm_W E m) sz) := by
  refine Met.ofW (cc := prog_13_method_50_code) (maxL := 1) (ret := (some .int)) (by decide) rfl ?_
  intro p e s mt args below meth c s₁ B hml hv
  obtain ⟨rfl, hsz, hP, hK, hD0, hst⟩ := hv
  have hx := B.exec
  have hb := B.bytes
  have hr := B.returns
  have htb : ∀ w ∈ bp_tb, w.before _ s = true := fun w hw => atoms_spec (ws := Cond.code y_bm_M_held prog_13_method_50_code 1 (some .int) :: bp_tb) B.pre w (List.mem_cons_of_mem _ hw)
  have hown : s.vm.findClass "BlockPicturesModel" = some mt.cls := findClass_of_methodNamed B.named
  have hlocks := B.notSynchronized
  subst hsz
  have hD := hD0.self (sz := s.heap.size)
  generalize hAe : va_A (bm_W E m) s.heap.size = A at hD hst ⊢
  have hsub : ∀ (u : bp_M) (z q : Nat), s.heap.size ≤ z → va_A (bm_W E u) z q → A q := bm_sub hAe
  have hS : va_S A s.heap s.heap [] := va_S.rf
  have hl := lv_entry ([.ref (E.2.1 0)]) (n := 1) (Nat.le_of_ble_eq_true rfl)
  rw [lg_entry_eq]
  generalize (lg_sl ([.ref (E.2.1 0)]) ++ List.replicate (1 - (lg_sl ([.ref (E.2.1 0)])).length) Slot.unset).toArray = ls at hl ⊢
  have hl : lv_has ls 1 [(0, .ref (E.2.1 0))] := hl
  refine bm_keyI (R := ({ frames := 0, cells := 0, slots := 0, locals := 0 })) E hx hb hr hlocks hK hAe (fun Q hret => ?_)
  clear B hD0 hlocks hr
  generalize ([.ref (E.2.1 0)] : List Value).toArray = args at htb hret ⊢
  clear hAe
  suffices hgo : ∀ (H : Heap) (locs : List Loc), va_P E.1 bp_cl (bm_W E m) H → va_D A (bm_W E m) → va_S A s.heap H locs → W p l e ({ frames := 0, cells := 0, slots := 0, locals := 0 }) s mt args below meth c H locs 0 0 Q (F0 mt 0 ls []) from hgo _ _ hP hD hS
  clear hP hD hS
  intro H locs hP hD hS
  unfold bm_M_held at h
  refine lv_aload_n hx hb (dt_bm_M_held 0 rfl) rfl (lv_at hl 0 rfl) ?_
  refine va_get (D := E.1) (ci := 10) (v := .int (m.1 0 34)) (C := "BlockPicturesModel") (T := bF_M) (N := 48) hx hb htb bm_in_M hown hK hP 0 (bm_gM E m) rfl 34 (by decide) (htb _ tw_802) (fun _ h9 => h9) rfl (dt_bm_M_held 1 rfl) ?_
  exact hret _ _ _ _ _ _ h hP hD hS (dt_bm_M_held 2 rfl)
set_option maxHeartbeats 4000000 in
set_option maxRecDepth 100000 in
theorem wbm_M_heldState (l : Launch) (E : bm_E) (N : Nat) (a1 : Int32) (m : bp_M) (sz : Nat) (r : Int32) (mr : bp_M)  (h : bm_M_heldState N a1 m = some (r, mr)) : Met l y_bm_M_heldState (Cond.code y_bm_M_heldState prog_13_method_51_code 2 (some .int) :: bp_tb) ({ frames := 1, cells := 0, slots := 0, locals := 22 }) (bm_Pc E m sz [.ref (E.2.1 0), .int a1]) (bm_Qi E m sz r mr) 0 0 (va_A (bm_W E m) sz) := by
  refine Met.ofW (cc := prog_13_method_51_code) (maxL := 2) (ret := (some .int)) (by decide) rfl ?_
  intro p e s mt args below meth c s₁ B hml hv
  obtain ⟨rfl, hsz, hP, hK, hD0, hst⟩ := hv
  have hx := B.exec
  have hb := B.bytes
  have hr := B.returns
  have htb : ∀ w ∈ bp_tb, w.before _ s = true := fun w hw => atoms_spec (ws := Cond.code y_bm_M_heldState prog_13_method_51_code 2 (some .int) :: bp_tb) B.pre w (List.mem_cons_of_mem _ hw)
  have hown : s.vm.findClass "BlockPicturesModel" = some mt.cls := findClass_of_methodNamed B.named
  have hlocks := B.notSynchronized
  subst hsz
  have hD := hD0.self (sz := s.heap.size)
  generalize hAe : va_A (bm_W E m) s.heap.size = A at hD hst ⊢
  have hsub : ∀ (u : bp_M) (z q : Nat), s.heap.size ≤ z → va_A (bm_W E u) z q → A q := bm_sub hAe
  have hS : va_S A s.heap s.heap [] := va_S.rf
  have hl := lv_entry ([.ref (E.2.1 0), .int a1]) (n := 2) (Nat.le_of_ble_eq_true rfl)
  rw [lg_entry_eq]
  generalize (lg_sl ([.ref (E.2.1 0), .int a1]) ++ List.replicate (2 - (lg_sl ([.ref (E.2.1 0), .int a1])).length) Slot.unset).toArray = ls at hl ⊢
  have hl : lv_has ls 2 [(0, .ref (E.2.1 0)), (1, .int a1)] := hl
  refine bm_keyI (R := ({ frames := 1, cells := 0, slots := 0, locals := 22 })) E hx hb hr hlocks hK hAe (fun Q hret => ?_)
  clear B hD0 hlocks hr
  generalize ([.ref (E.2.1 0), .int a1] : List Value).toArray = args at htb hret ⊢
  clear hAe
  have hL56 : ∀ (s0 : Int32) (m : bp_M), bm_M_heldState_L56 N a1 s0 m = some (r, mr) → ∀ (ls : Array Slot) (H : Heap) (locs : List Loc), lv_has ls 2 [] → va_P E.1 bp_cl (bm_W E m) H → va_D A (bm_W E m) → va_S A s.heap H locs → W p l e ({ frames := 1, cells := 0, slots := 0, locals := 22 }) s mt args below meth c H locs 0 0 Q (F0 mt 56 ls [.int s0]) := by
    intro s0 m h ls H locs hl hP hD hS
    rw [bm_M_heldState_L56] at h
    exact hret _ _ _ _ _ _ h hP hD hS (dt_bm_M_heldState 34 rfl)
  have hL51 : ∀ (s0 : Int32) (s1 : Int32) (m : bp_M), bm_M_heldState_L51 N a1 s0 s1 m = some (r, mr) → ∀ (ls : Array Slot) (H : Heap) (locs : List Loc), lv_has ls 2 [] → va_P E.1 bp_cl (bm_W E m) H → va_D A (bm_W E m) → va_S A s.heap H locs → W p l e ({ frames := 1, cells := 0, slots := 0, locals := 22 }) s mt args below meth c H locs 0 0 Q (F0 mt 51 ls [.int s0, .int s1]) := by
    intro s0 s1 m h ls H locs hl hP hD hS
    rw [bm_M_heldState_L51] at h
    refine lv_iadd hx hb (dt_bm_M_heldState 31 rfl) ?_
    refine lv_goto (tgt := 56) hx hb (dt_bm_M_heldState 32 rfl) (by decide) ?_
    exact hL56 _ _ h ls H locs (lv_sub hl [] rfl) hP hD hS
  have hL36 : ∀ (s0 : Int32) (s1 : Int32) (m : bp_M), bm_M_heldState_L36 N a1 s0 s1 m = some (r, mr) → ∀ (ls : Array Slot) (H : Heap) (locs : List Loc), lv_has ls 2 [(0, .ref (E.2.1 0)), (1, .int a1)] → va_P E.1 bp_cl (bm_W E m) H → va_D A (bm_W E m) → va_S A s.heap H locs → W p l e ({ frames := 1, cells := 0, slots := 0, locals := 22 }) s mt args below meth c H locs 0 0 Q (F0 mt 36 ls [.int s0, .int s1]) := by
    intro s0 s1 m h ls H locs hl hP hD hS
    rw [bm_M_heldState_L36] at h
    refine lv_iadd hx hb (dt_bm_M_heldState 22 rfl) ?_
    refine lv_aload_n hx hb (dt_bm_M_heldState 23 rfl) rfl (lv_at hl 0 rfl) ?_
    refine va_get (D := E.1) (ci := 10) (v := .ref (E.2.1 16)) (C := "BlockPicturesModel") (T := bF_M) (N := 48) hx hb htb bm_in_M hown hK hP 0 (bm_gM E m) rfl 38 (by decide) (htb _ tw_806) (fun _ h9 => h9) rfl (dt_bm_M_heldState 24 rfl) ?_
    refine lv_iload_n hx hb (dt_bm_M_heldState 25 rfl) rfl (lv_at hl 1 rfl) ?_
    obtain ⟨hg1, h⟩ := bp_gi_s h
    refine bm_lZ E hx hb hK hP (bm_ga16 E) hg1 (dt_bm_M_heldState 26 rfl) ?_
    refine lv_if_eq (tgt := 50) hx hb (dt_bm_M_heldState 27 rfl) (by decide) (fun hc => ?_) (fun hc => ?_)
    · replace h := (if_pos hc).symm.trans h
      refine lv_iconst (v := 0) hx hb (dt_bm_M_heldState 30 rfl) (by decide) ?_
      exact hL51 _ _ _ h ls H locs (lv_sub hl [] rfl) hP hD hS
    · replace h := (if_neg hc).symm.trans h
      refine lv_iconst (v := 2) hx hb (dt_bm_M_heldState 28 rfl) (by decide) ?_
      refine lv_goto (tgt := 51) hx hb (dt_bm_M_heldState 29 rfl) (by decide) ?_
      exact hL51 _ _ _ h ls H locs (lv_sub hl [] rfl) hP hD hS
  suffices hgo : ∀ (H : Heap) (locs : List Loc), va_P E.1 bp_cl (bm_W E m) H → va_D A (bm_W E m) → va_S A s.heap H locs → W p l e ({ frames := 1, cells := 0, slots := 0, locals := 22 }) s mt args below meth c H locs 0 0 Q (F0 mt 0 ls []) from hgo _ _ hP hD hS
  clear hP hD hS
  intro H locs hP hD hS
  unfold bm_M_heldState at h
  refine lv_iload_n hx hb (dt_bm_M_heldState 0 rfl) rfl (lv_at hl 1 rfl) ?_
  refine lv_iconst (v := 0) hx hb (dt_bm_M_heldState 1 rfl) (by decide) ?_
  refine lv_aload_n hx hb (dt_bm_M_heldState 2 rfl) rfl (lv_at hl 0 rfl) ?_
  refine va_get (D := E.1) (ci := 10) (v := .int (m.1 0 34)) (C := "BlockPicturesModel") (T := bF_M) (N := 48) hx hb htb bm_in_M hown hK hP 0 (bm_gM E m) rfl 34 (by decide) (htb _ tw_802) (fun _ h9 => h9) rfl (dt_bm_M_heldState 3 rfl) ?_
  refine lv_iconst (v := 1) hx hb (dt_bm_M_heldState 4 rfl) (by decide) ?_
  refine lv_isub hx hb (dt_bm_M_heldState 5 rfl) ?_
  obtain ⟨z2, m1, hm1, h⟩ := bp_cI_s h
  refine bm_callI E hsub hS (va_runS (As := [.int a1, .int 0, .int ((m.1 0 34) - 1 : Int32)]) (rest := []) ⟨hx, hb, hml, hown, htb⟩ (wbm_M_within l E N a1 0 ((m.1 0 34) - 1 : Int32) m H.size z2 m1 hm1) (va_cwS 3 htb (bp_goodW tw_917 tw_918 tw_79 tw_919) rfl rfl rfl hd_bm_M_within ⟨Nat.le_of_ble_eq_true rfl, Nat.le_of_ble_eq_true rfl⟩) (bm_preS E hsub hst hK hP hD hS _) rfl rfl hl.1 rfl (lv_room (Nat.le_of_ble_eq_true rfl)) (dt_bm_M_heldState 6 rfl) ⟨Nat.zero_le _, Nat.zero_le _⟩) (fun H locs hP hD hS => ?_)
  refine lv_if_eq (tgt := 55) hx hb (dt_bm_M_heldState 7 rfl) (by decide) (fun hc => ?_) (fun hc => ?_)
  · replace h := (if_pos hc).symm.trans h
    refine lv_iconst (v := (-1)) hx hb (dt_bm_M_heldState 33 rfl) (by decide) ?_
    exact hL56 _ _ h ls H locs (lv_sub hl [] rfl) hP hD hS
  · replace h := (if_neg hc).symm.trans h
    refine lv_iconst (v := 4) hx hb (dt_bm_M_heldState 8 rfl) (by decide) ?_
    refine lv_aload_n hx hb (dt_bm_M_heldState 9 rfl) rfl (lv_at hl 0 rfl) ?_
    refine va_get (D := E.1) (ci := 10) (v := .ref (E.2.1 14)) (C := "BlockPicturesModel") (T := bF_M) (N := 48) hx hb htb bm_in_M hown hK hP 0 (bm_gM E m1) rfl 36 (by decide) (htb _ tw_804) (fun _ h9 => h9) rfl (dt_bm_M_heldState 10 rfl) ?_
    refine lv_iload_n hx hb (dt_bm_M_heldState 11 rfl) rfl (lv_at hl 1 rfl) ?_
    obtain ⟨hg3, h⟩ := bp_gi_s h
    refine bm_lI E hx hb hK hP (bm_ga14 E) hg3 (dt_bm_M_heldState 12 rfl) ?_
    refine lv_imul hx hb (dt_bm_M_heldState 13 rfl) ?_
    refine lv_aload_n hx hb (dt_bm_M_heldState 14 rfl) rfl (lv_at hl 0 rfl) ?_
    refine va_get (D := E.1) (ci := 10) (v := .ref (E.2.1 15)) (C := "BlockPicturesModel") (T := bF_M) (N := 48) hx hb htb bm_in_M hown hK hP 0 (bm_gM E m1) rfl 37 (by decide) (htb _ tw_805) (fun _ h9 => h9) rfl (dt_bm_M_heldState 15 rfl) ?_
    refine lv_iload_n hx hb (dt_bm_M_heldState 16 rfl) rfl (lv_at hl 1 rfl) ?_
    obtain ⟨hg4, h⟩ := bp_gi_s h
    refine bm_lZ E hx hb hK hP (bm_ga15 E) hg4 (dt_bm_M_heldState 17 rfl) ?_
    refine lv_if_eq (tgt := 35) hx hb (dt_bm_M_heldState 18 rfl) (by decide) (fun hc => ?_) (fun hc => ?_)
    · replace h := (if_pos hc).symm.trans h
      refine lv_iconst (v := 0) hx hb (dt_bm_M_heldState 21 rfl) (by decide) ?_
      exact hL36 _ _ _ h ls H locs (lv_sub hl [0, 1] rfl) hP hD hS
    · replace h := (if_neg hc).symm.trans h
      refine lv_iconst (v := 1) hx hb (dt_bm_M_heldState 19 rfl) (by decide) ?_
      refine lv_goto (tgt := 36) hx hb (dt_bm_M_heldState 20 rfl) (by decide) ?_
      exact hL36 _ _ _ h ls H locs (lv_sub hl [0, 1] rfl) hP hD hS
set_option maxHeartbeats 4000000 in
set_option maxRecDepth 100000 in
theorem wbm_M_heldSample (l : Launch) (E : bm_E) (N : Nat) (a1 : Int32) (a2 : Int32) (m : bp_M) (sz : Nat) (r : Int32) (mr : bp_M)  (h : bm_M_heldSample N a1 a2 m = some (r, mr)) : Met l y_bm_M_heldSample (Cond.code y_bm_M_heldSample prog_13_method_52_code 3 (some .int) :: bp_tb) ({ frames := 1, cells := 0, slots := 0, locals := 22 }) (bm_Pc E m sz [.ref (E.2.1 0), .int a1, .int a2]) (bm_Qi E m sz r mr) 0 0 (va_A (bm_W E m) sz) := by
  refine Met.ofW (cc := prog_13_method_52_code) (maxL := 3) (ret := (some .int)) (by decide) rfl ?_
  intro p e s mt args below meth c s₁ B hml hv
  obtain ⟨rfl, hsz, hP, hK, hD0, hst⟩ := hv
  have hx := B.exec
  have hb := B.bytes
  have hr := B.returns
  have htb : ∀ w ∈ bp_tb, w.before _ s = true := fun w hw => atoms_spec (ws := Cond.code y_bm_M_heldSample prog_13_method_52_code 3 (some .int) :: bp_tb) B.pre w (List.mem_cons_of_mem _ hw)
  have hown : s.vm.findClass "BlockPicturesModel" = some mt.cls := findClass_of_methodNamed B.named
  have hlocks := B.notSynchronized
  subst hsz
  have hD := hD0.self (sz := s.heap.size)
  generalize hAe : va_A (bm_W E m) s.heap.size = A at hD hst ⊢
  have hsub : ∀ (u : bp_M) (z q : Nat), s.heap.size ≤ z → va_A (bm_W E u) z q → A q := bm_sub hAe
  have hS : va_S A s.heap s.heap [] := va_S.rf
  have hl := lv_entry ([.ref (E.2.1 0), .int a1, .int a2]) (n := 3) (Nat.le_of_ble_eq_true rfl)
  rw [lg_entry_eq]
  generalize (lg_sl ([.ref (E.2.1 0), .int a1, .int a2]) ++ List.replicate (3 - (lg_sl ([.ref (E.2.1 0), .int a1, .int a2])).length) Slot.unset).toArray = ls at hl ⊢
  have hl : lv_has ls 3 [(0, .ref (E.2.1 0)), (1, .int a1), (2, .int a2)] := hl
  refine bm_keyI (R := ({ frames := 1, cells := 0, slots := 0, locals := 22 })) E hx hb hr hlocks hK hAe (fun Q hret => ?_)
  clear B hD0 hlocks hr
  generalize ([.ref (E.2.1 0), .int a1, .int a2] : List Value).toArray = args at htb hret ⊢
  clear hAe
  have hL41 : ∀ (s0 : Int32) (m : bp_M), bm_M_heldSample_L41 N a1 a2 s0 m = some (r, mr) → ∀ (ls : Array Slot) (H : Heap) (locs : List Loc), lv_has ls 3 [] → va_P E.1 bp_cl (bm_W E m) H → va_D A (bm_W E m) → va_S A s.heap H locs → W p l e ({ frames := 1, cells := 0, slots := 0, locals := 22 }) s mt args below meth c H locs 0 0 Q (F0 mt 41 ls [.int s0]) := by
    intro s0 m h ls H locs hl hP hD hS
    rw [bm_M_heldSample_L41] at h
    exact hret _ _ _ _ _ _ h hP hD hS (dt_bm_M_heldSample 23 rfl)
  have hL40 : ∀ (m : bp_M), bm_M_heldSample_L40 N a1 a2 m = some (r, mr) → ∀ (ls : Array Slot) (H : Heap) (locs : List Loc), lv_has ls 3 [] → va_P E.1 bp_cl (bm_W E m) H → va_D A (bm_W E m) → va_S A s.heap H locs → W p l e ({ frames := 1, cells := 0, slots := 0, locals := 22 }) s mt args below meth c H locs 0 0 Q (F0 mt 40 ls []) := by
    intro m h ls H locs hl hP hD hS
    rw [bm_M_heldSample_L40] at h
    refine lv_iconst (v := (-1)) hx hb (dt_bm_M_heldSample 22 rfl) (by decide) ?_
    exact hL41 _ _ h ls H locs (lv_sub hl [] rfl) hP hD hS
  suffices hgo : ∀ (H : Heap) (locs : List Loc), va_P E.1 bp_cl (bm_W E m) H → va_D A (bm_W E m) → va_S A s.heap H locs → W p l e ({ frames := 1, cells := 0, slots := 0, locals := 22 }) s mt args below meth c H locs 0 0 Q (F0 mt 0 ls []) from hgo _ _ hP hD hS
  clear hP hD hS
  intro H locs hP hD hS
  unfold bm_M_heldSample at h
  refine lv_iload_n hx hb (dt_bm_M_heldSample 0 rfl) rfl (lv_at hl 1 rfl) ?_
  refine lv_iconst (v := 0) hx hb (dt_bm_M_heldSample 1 rfl) (by decide) ?_
  refine lv_aload_n hx hb (dt_bm_M_heldSample 2 rfl) rfl (lv_at hl 0 rfl) ?_
  refine va_get (D := E.1) (ci := 10) (v := .int (m.1 0 34)) (C := "BlockPicturesModel") (T := bF_M) (N := 48) hx hb htb bm_in_M hown hK hP 0 (bm_gM E m) rfl 34 (by decide) (htb _ tw_802) (fun _ h9 => h9) rfl (dt_bm_M_heldSample 3 rfl) ?_
  refine lv_iconst (v := 1) hx hb (dt_bm_M_heldSample 4 rfl) (by decide) ?_
  refine lv_isub hx hb (dt_bm_M_heldSample 5 rfl) ?_
  obtain ⟨z2, m1, hm1, h⟩ := bp_cI_s h
  refine bm_callI E hsub hS (va_runS (As := [.int a1, .int 0, .int ((m.1 0 34) - 1 : Int32)]) (rest := []) ⟨hx, hb, hml, hown, htb⟩ (wbm_M_within l E N a1 0 ((m.1 0 34) - 1 : Int32) m H.size z2 m1 hm1) (va_cwS 3 htb (bp_goodW tw_917 tw_918 tw_79 tw_919) rfl rfl rfl hd_bm_M_within ⟨Nat.le_of_ble_eq_true rfl, Nat.le_of_ble_eq_true rfl⟩) (bm_preS E hsub hst hK hP hD hS _) rfl rfl hl.1 rfl (lv_room (Nat.le_of_ble_eq_true rfl)) (dt_bm_M_heldSample 6 rfl) ⟨Nat.zero_le _, Nat.zero_le _⟩) (fun H locs hP hD hS => ?_)
  refine lv_if_eq (tgt := 40) hx hb (dt_bm_M_heldSample 7 rfl) (by decide) (fun hc => ?_) (fun hc => ?_)
  · replace h := (if_pos hc).symm.trans h
    exact hL40 _ h ls H locs (lv_sub hl [] rfl) hP hD hS
  · replace h := (if_neg hc).symm.trans h
    refine lv_iload_n hx hb (dt_bm_M_heldSample 8 rfl) rfl (lv_at hl 2 rfl) ?_
    refine lv_iconst (v := 0) hx hb (dt_bm_M_heldSample 9 rfl) (by decide) ?_
    refine lv_sipush (v := 255) hx hb (dt_bm_M_heldSample 10 rfl) (by decide) ?_
    obtain ⟨z4, m3, hm3, h⟩ := bp_cI_s h
    refine bm_callI E hsub hS (va_runS (As := [.int a2, .int 0, .int 255]) (rest := []) ⟨hx, hb, hml, hown, htb⟩ (wbm_M_within l E N a2 0 255 m1 H.size z4 m3 hm3) (va_cwS 3 htb (bp_goodW tw_917 tw_918 tw_79 tw_919) rfl rfl rfl hd_bm_M_within ⟨Nat.le_of_ble_eq_true rfl, Nat.le_of_ble_eq_true rfl⟩) (bm_preS E hsub hst hK hP hD hS _) rfl rfl hl.1 rfl (lv_room (Nat.le_of_ble_eq_true rfl)) (dt_bm_M_heldSample 11 rfl) ⟨Nat.zero_le _, Nat.zero_le _⟩) (fun H locs hP hD hS => ?_)
    refine lv_if_eq (tgt := 40) hx hb (dt_bm_M_heldSample 12 rfl) (by decide) (fun hc => ?_) (fun hc => ?_)
    · replace h := (if_pos hc).symm.trans h
      exact hL40 _ h ls H locs (lv_sub hl [] rfl) hP hD hS
    · replace h := (if_neg hc).symm.trans h
      refine lv_aload_n hx hb (dt_bm_M_heldSample 13 rfl) rfl (lv_at hl 0 rfl) ?_
      refine va_get (D := E.1) (ci := 10) (v := .ref (E.2.1 13)) (C := "BlockPicturesModel") (T := bF_M) (N := 48) hx hb htb bm_in_M hown hK hP 0 (bm_gM E m3) rfl 35 (by decide) (htb _ tw_803) (fun _ h9 => h9) rfl (dt_bm_M_heldSample 14 rfl) ?_
      refine lv_sipush (v := 256) hx hb (dt_bm_M_heldSample 15 rfl) (by decide) ?_
      refine lv_iload_n hx hb (dt_bm_M_heldSample 16 rfl) rfl (lv_at hl 1 rfl) ?_
      refine lv_imul hx hb (dt_bm_M_heldSample 17 rfl) ?_
      refine lv_iload_n hx hb (dt_bm_M_heldSample 18 rfl) rfl (lv_at hl 2 rfl) ?_
      refine lv_iadd hx hb (dt_bm_M_heldSample 19 rfl) ?_
      obtain ⟨hg5, h⟩ := bp_gi_s h
      refine bm_lI E hx hb hK hP (bm_ga13 E) hg5 (dt_bm_M_heldSample 20 rfl) ?_
      refine lv_goto (tgt := 41) hx hb (dt_bm_M_heldSample 21 rfl) (by decide) ?_
      exact hL41 _ _ h ls H locs (lv_sub hl [] rfl) hP hD hS
set_option maxHeartbeats 4000000 in
set_option maxRecDepth 100000 in
theorem wbm_M_vector (l : Launch) (E : bm_E) (N : Nat) (a1 : Int32) (m : bp_M) (sz : Nat) (r : Int32) (mr : bp_M)  (h : bm_M_vector N a1 m = some (r, mr)) : Met l y_bm_M_vector (Cond.code y_bm_M_vector prog_13_method_53_code 2 (some .int) :: bp_tb) ({ frames := 1, cells := 0, slots := 0, locals := 22 }) (bm_Pc E m sz [.ref (E.2.1 0), .int a1]) (bm_Qi E m sz r mr) 0 0 (va_A (bm_W E m) sz) := by
  refine Met.ofW (cc := prog_13_method_53_code) (maxL := 2) (ret := (some .int)) (by decide) rfl ?_
  intro p e s mt args below meth c s₁ B hml hv
  obtain ⟨rfl, hsz, hP, hK, hD0, hst⟩ := hv
  have hx := B.exec
  have hb := B.bytes
  have hr := B.returns
  have htb : ∀ w ∈ bp_tb, w.before _ s = true := fun w hw => atoms_spec (ws := Cond.code y_bm_M_vector prog_13_method_53_code 2 (some .int) :: bp_tb) B.pre w (List.mem_cons_of_mem _ hw)
  have hown : s.vm.findClass "BlockPicturesModel" = some mt.cls := findClass_of_methodNamed B.named
  have hlocks := B.notSynchronized
  subst hsz
  have hD := hD0.self (sz := s.heap.size)
  generalize hAe : va_A (bm_W E m) s.heap.size = A at hD hst ⊢
  have hsub : ∀ (u : bp_M) (z q : Nat), s.heap.size ≤ z → va_A (bm_W E u) z q → A q := bm_sub hAe
  have hS : va_S A s.heap s.heap [] := va_S.rf
  have hl := lv_entry ([.ref (E.2.1 0), .int a1]) (n := 2) (Nat.le_of_ble_eq_true rfl)
  rw [lg_entry_eq]
  generalize (lg_sl ([.ref (E.2.1 0), .int a1]) ++ List.replicate (2 - (lg_sl ([.ref (E.2.1 0), .int a1])).length) Slot.unset).toArray = ls at hl ⊢
  have hl : lv_has ls 2 [(0, .ref (E.2.1 0)), (1, .int a1)] := hl
  refine bm_keyI (R := ({ frames := 1, cells := 0, slots := 0, locals := 22 })) E hx hb hr hlocks hK hAe (fun Q hret => ?_)
  clear B hD0 hlocks hr
  generalize ([.ref (E.2.1 0), .int a1] : List Value).toArray = args at htb hret ⊢
  clear hAe
  have hL20 : ∀ (s0 : Int32) (m : bp_M), bm_M_vector_L20 N a1 s0 m = some (r, mr) → ∀ (ls : Array Slot) (H : Heap) (locs : List Loc), lv_has ls 2 [] → va_P E.1 bp_cl (bm_W E m) H → va_D A (bm_W E m) → va_S A s.heap H locs → W p l e ({ frames := 1, cells := 0, slots := 0, locals := 22 }) s mt args below meth c H locs 0 0 Q (F0 mt 20 ls [.int s0]) := by
    intro s0 m h ls H locs hl hP hD hS
    rw [bm_M_vector_L20] at h
    exact hret _ _ _ _ _ _ h hP hD hS (dt_bm_M_vector 11 rfl)
  suffices hgo : ∀ (H : Heap) (locs : List Loc), va_P E.1 bp_cl (bm_W E m) H → va_D A (bm_W E m) → va_S A s.heap H locs → W p l e ({ frames := 1, cells := 0, slots := 0, locals := 22 }) s mt args below meth c H locs 0 0 Q (F0 mt 0 ls []) from hgo _ _ hP hD hS
  clear hP hD hS
  intro H locs hP hD hS
  unfold bm_M_vector at h
  refine lv_iload_n hx hb (dt_bm_M_vector 0 rfl) rfl (lv_at hl 1 rfl) ?_
  refine lv_iconst (v := 0) hx hb (dt_bm_M_vector 1 rfl) (by decide) ?_
  refine lv_bipush (v := 15) hx hb (dt_bm_M_vector 2 rfl) (by decide) ?_
  obtain ⟨z2, m1, hm1, h⟩ := bp_cI_s h
  refine bm_callI E hsub hS (va_runS (As := [.int a1, .int 0, .int 15]) (rest := []) ⟨hx, hb, hml, hown, htb⟩ (wbm_M_within l E N a1 0 15 m H.size z2 m1 hm1) (va_cwS 3 htb (bp_goodW tw_917 tw_918 tw_79 tw_919) rfl rfl rfl hd_bm_M_within ⟨Nat.le_of_ble_eq_true rfl, Nat.le_of_ble_eq_true rfl⟩) (bm_preS E hsub hst hK hP hD hS _) rfl rfl hl.1 rfl (lv_room (Nat.le_of_ble_eq_true rfl)) (dt_bm_M_vector 3 rfl) ⟨Nat.zero_le _, Nat.zero_le _⟩) (fun H locs hP hD hS => ?_)
  refine lv_if_eq (tgt := 19) hx hb (dt_bm_M_vector 4 rfl) (by decide) (fun hc => ?_) (fun hc => ?_)
  · replace h := (if_pos hc).symm.trans h
    refine lv_iconst (v := (-1)) hx hb (dt_bm_M_vector 10 rfl) (by decide) ?_
    exact hL20 _ _ h ls H locs (lv_sub hl [] rfl) hP hD hS
  · replace h := (if_neg hc).symm.trans h
    refine lv_aload_n hx hb (dt_bm_M_vector 5 rfl) rfl (lv_at hl 0 rfl) ?_
    refine va_get (D := E.1) (ci := 10) (v := .ref (E.2.1 12)) (C := "BlockPicturesModel") (T := bF_M) (N := 48) hx hb htb bm_in_M hown hK hP 0 (bm_gM E m1) rfl 31 (by decide) (htb _ tw_799) (fun _ h9 => h9) rfl (dt_bm_M_vector 6 rfl) ?_
    refine lv_iload_n hx hb (dt_bm_M_vector 7 rfl) rfl (lv_at hl 1 rfl) ?_
    obtain ⟨hg3, h⟩ := bp_gi_s h
    refine bm_lI E hx hb hK hP (bm_ga12 E) hg3 (dt_bm_M_vector 8 rfl) ?_
    refine lv_goto (tgt := 20) hx hb (dt_bm_M_vector 9 rfl) (by decide) ?_
    exact hL20 _ _ h ls H locs (lv_sub hl [] rfl) hP hD hS
set_option maxHeartbeats 4000000 in
set_option maxRecDepth 100000 in
theorem wbm_M_smoothed (l : Launch) (E : bm_E) (N : Nat)  (m : bp_M) (sz : Nat) (r : Int32) (mr : bp_M)  (h : bm_M_smoothed N m = some (r, mr)) : Met l y_bm_M_smoothed (Cond.code y_bm_M_smoothed prog_13_method_54_code 1 (some .int) :: bp_tb) ({ frames := 0, cells := 0, slots := 0, locals := 0 }) (bm_Pc E m sz [.ref (E.2.1 0)]) (bm_Qi E m sz r mr) 0 0 (va_A (bm_W E m) sz) := by
  refine Met.ofW (cc := prog_13_method_54_code) (maxL := 1) (ret := (some .int)) (by decide) rfl ?_
  intro p e s mt args below meth c s₁ B hml hv
  obtain ⟨rfl, hsz, hP, hK, hD0, hst⟩ := hv
  have hx := B.exec
  have hb := B.bytes
  have hr := B.returns
  have htb : ∀ w ∈ bp_tb, w.before _ s = true := fun w hw => atoms_spec (ws := Cond.code y_bm_M_smoothed prog_13_method_54_code 1 (some .int) :: bp_tb) B.pre w (List.mem_cons_of_mem _ hw)
  have hown : s.vm.findClass "BlockPicturesModel" = some mt.cls := findClass_of_methodNamed B.named
  have hlocks := B.notSynchronized
  subst hsz
  have hD := hD0.self (sz := s.heap.size)
  generalize hAe : va_A (bm_W E m) s.heap.size = A at hD hst ⊢
  have hsub : ∀ (u : bp_M) (z q : Nat), s.heap.size ≤ z → va_A (bm_W E u) z q → A q := bm_sub hAe
  have hS : va_S A s.heap s.heap [] := va_S.rf
  have hl := lv_entry ([.ref (E.2.1 0)]) (n := 1) (Nat.le_of_ble_eq_true rfl)
  rw [lg_entry_eq]
  generalize (lg_sl ([.ref (E.2.1 0)]) ++ List.replicate (1 - (lg_sl ([.ref (E.2.1 0)])).length) Slot.unset).toArray = ls at hl ⊢
  have hl : lv_has ls 1 [(0, .ref (E.2.1 0))] := hl
  refine bm_keyI (R := ({ frames := 0, cells := 0, slots := 0, locals := 0 })) E hx hb hr hlocks hK hAe (fun Q hret => ?_)
  clear B hD0 hlocks hr
  generalize ([.ref (E.2.1 0)] : List Value).toArray = args at htb hret ⊢
  clear hAe
  have hL15 : ∀ (s0 : Int32) (m : bp_M), bm_M_smoothed_L15 N s0 m = some (r, mr) → ∀ (ls : Array Slot) (H : Heap) (locs : List Loc), lv_has ls 1 [] → va_P E.1 bp_cl (bm_W E m) H → va_D A (bm_W E m) → va_S A s.heap H locs → W p l e ({ frames := 0, cells := 0, slots := 0, locals := 0 }) s mt args below meth c H locs 0 0 Q (F0 mt 15 ls [.int s0]) := by
    intro s0 m h ls H locs hl hP hD hS
    rw [bm_M_smoothed_L15] at h
    exact hret _ _ _ _ _ _ h hP hD hS (dt_bm_M_smoothed 7 rfl)
  suffices hgo : ∀ (H : Heap) (locs : List Loc), va_P E.1 bp_cl (bm_W E m) H → va_D A (bm_W E m) → va_S A s.heap H locs → W p l e ({ frames := 0, cells := 0, slots := 0, locals := 0 }) s mt args below meth c H locs 0 0 Q (F0 mt 0 ls []) from hgo _ _ hP hD hS
  clear hP hD hS
  intro H locs hP hD hS
  unfold bm_M_smoothed at h
  refine lv_aload_n hx hb (dt_bm_M_smoothed 0 rfl) rfl (lv_at hl 0 rfl) ?_
  refine va_get (D := E.1) (ci := 10) (v := .int (m.1 0 33)) (C := "BlockPicturesModel") (T := bF_M) (N := 48) hx hb htb bm_in_M hown hK hP 0 (bm_gM E m) rfl 33 (by decide) (htb _ tw_801) (fun _ h9 => h9) rfl (dt_bm_M_smoothed 1 rfl) ?_
  refine lv_if_eq (tgt := 14) hx hb (dt_bm_M_smoothed 2 rfl) (by decide) (fun hc => ?_) (fun hc => ?_)
  · replace h := (if_pos hc).symm.trans h
    refine lv_iconst (v := 0) hx hb (dt_bm_M_smoothed 6 rfl) (by decide) ?_
    exact hL15 _ _ h ls H locs (lv_sub hl [] rfl) hP hD hS
  · replace h := (if_neg hc).symm.trans h
    refine lv_aload_n hx hb (dt_bm_M_smoothed 3 rfl) rfl (lv_at hl 0 rfl) ?_
    refine va_get (D := E.1) (ci := 10) (v := .int (m.1 0 32)) (C := "BlockPicturesModel") (T := bF_M) (N := 48) hx hb htb bm_in_M hown hK hP 0 (bm_gM E m) rfl 32 (by decide) (htb _ tw_800) (fun _ h9 => h9) rfl (dt_bm_M_smoothed 4 rfl) ?_
    refine lv_goto (tgt := 15) hx hb (dt_bm_M_smoothed 5 rfl) (by decide) ?_
    exact hL15 _ _ h ls H locs (lv_sub hl [] rfl) hP hD hS
set_option maxHeartbeats 4000000 in
set_option maxRecDepth 100000 in
theorem wbm_M_draw (l : Launch) (E : bm_E) (N : Nat) (a1 : Int32) (a2 : Int32) (m : bp_M) (sz : Nat) (r : Int32) (mr : bp_M)  (h : bm_M_draw N a1 a2 m = some (r, mr)) : Met l y_bm_M_draw (Cond.code y_bm_M_draw prog_13_method_55_code 3 (some .boolean) :: bp_tb) ({ frames := 1, cells := 0, slots := 0, locals := 22 }) (bm_Pc E m sz [.ref (E.2.1 0), .int a1, .int a2]) (bm_Qi E m sz r mr) 0 0 (va_A (bm_W E m) sz) := by
  refine Met.ofW (cc := prog_13_method_55_code) (maxL := 3) (ret := (some .boolean)) (by decide) rfl ?_
  intro p e s mt args below meth c s₁ B hml hv
  obtain ⟨rfl, hsz, hP, hK, hD0, hst⟩ := hv
  have hx := B.exec
  have hb := B.bytes
  have hr := B.returns
  have htb : ∀ w ∈ bp_tb, w.before _ s = true := fun w hw => atoms_spec (ws := Cond.code y_bm_M_draw prog_13_method_55_code 3 (some .boolean) :: bp_tb) B.pre w (List.mem_cons_of_mem _ hw)
  have hown : s.vm.findClass "BlockPicturesModel" = some mt.cls := findClass_of_methodNamed B.named
  have hlocks := B.notSynchronized
  subst hsz
  have hD := hD0.self (sz := s.heap.size)
  generalize hAe : va_A (bm_W E m) s.heap.size = A at hD hst ⊢
  have hsub : ∀ (u : bp_M) (z q : Nat), s.heap.size ≤ z → va_A (bm_W E u) z q → A q := bm_sub hAe
  have hS : va_S A s.heap s.heap [] := va_S.rf
  have hl := lv_entry ([.ref (E.2.1 0), .int a1, .int a2]) (n := 3) (Nat.le_of_ble_eq_true rfl)
  rw [lg_entry_eq]
  generalize (lg_sl ([.ref (E.2.1 0), .int a1, .int a2]) ++ List.replicate (3 - (lg_sl ([.ref (E.2.1 0), .int a1, .int a2])).length) Slot.unset).toArray = ls at hl ⊢
  have hl : lv_has ls 3 [(0, .ref (E.2.1 0)), (1, .int a1), (2, .int a2)] := hl
  refine bm_keyZ (R := ({ frames := 1, cells := 0, slots := 0, locals := 22 })) E hx hb hr hlocks hK hAe (fun Q hret => ?_)
  clear B hD0 hlocks hr
  generalize ([.ref (E.2.1 0), .int a1, .int a2] : List Value).toArray = args at htb hret ⊢
  clear hAe
  have hL22 : ∀ (m : bp_M), bm_M_draw_L22 N a1 a2 m = some (r, mr) → ∀ (ls : Array Slot) (H : Heap) (locs : List Loc), lv_has ls 3 [] → va_P E.1 bp_cl (bm_W E m) H → va_D A (bm_W E m) → va_S A s.heap H locs → W p l e ({ frames := 1, cells := 0, slots := 0, locals := 22 }) s mt args below meth c H locs 0 0 Q (F0 mt 22 ls []) := by
    intro m h ls H locs hl hP hD hS
    rw [bm_M_draw_L22] at h
    refine lv_iconst (v := 0) hx hb (dt_bm_M_draw 10 rfl) (by decide) ?_
    obtain ⟨hg1, h⟩ := bp_g_s h
    exact hret _ _ _ _ _ _ hg1 h hP hD hS (dt_bm_M_draw 11 rfl)
  suffices hgo : ∀ (H : Heap) (locs : List Loc), va_P E.1 bp_cl (bm_W E m) H → va_D A (bm_W E m) → va_S A s.heap H locs → W p l e ({ frames := 1, cells := 0, slots := 0, locals := 22 }) s mt args below meth c H locs 0 0 Q (F0 mt 0 ls []) from hgo _ _ hP hD hS
  clear hP hD hS
  intro H locs hP hD hS
  unfold bm_M_draw at h
  refine lv_iload_n hx hb (dt_bm_M_draw 0 rfl) rfl (lv_at hl 1 rfl) ?_
  refine lv_iconst (v := 0) hx hb (dt_bm_M_draw 1 rfl) (by decide) ?_
  refine lv_sipush (v := 255) hx hb (dt_bm_M_draw 2 rfl) (by decide) ?_
  obtain ⟨z2, m1, hm1, h⟩ := bp_cI_s h
  refine bm_callI E hsub hS (va_runS (As := [.int a1, .int 0, .int 255]) (rest := []) ⟨hx, hb, hml, hown, htb⟩ (wbm_M_within l E N a1 0 255 m H.size z2 m1 hm1) (va_cwS 3 htb (bp_goodW tw_917 tw_918 tw_79 tw_919) rfl rfl rfl hd_bm_M_within ⟨Nat.le_of_ble_eq_true rfl, Nat.le_of_ble_eq_true rfl⟩) (bm_preS E hsub hst hK hP hD hS _) rfl rfl hl.1 rfl (lv_room (Nat.le_of_ble_eq_true rfl)) (dt_bm_M_draw 3 rfl) ⟨Nat.zero_le _, Nat.zero_le _⟩) (fun H locs hP hD hS => ?_)
  refine lv_if_eq (tgt := 22) hx hb (dt_bm_M_draw 4 rfl) (by decide) (fun hc => ?_) (fun hc => ?_)
  · replace h := (if_pos hc).symm.trans h
    exact hL22 _ h ls H locs (lv_sub hl [] rfl) hP hD hS
  · replace h := (if_neg hc).symm.trans h
    refine lv_iload_n hx hb (dt_bm_M_draw 5 rfl) rfl (lv_at hl 2 rfl) ?_
    refine lv_iconst (v := 0) hx hb (dt_bm_M_draw 6 rfl) (by decide) ?_
    refine lv_sipush (v := 255) hx hb (dt_bm_M_draw 7 rfl) (by decide) ?_
    obtain ⟨z4, m3, hm3, h⟩ := bp_cI_s h
    refine bm_callI E hsub hS (va_runS (As := [.int a2, .int 0, .int 255]) (rest := []) ⟨hx, hb, hml, hown, htb⟩ (wbm_M_within l E N a2 0 255 m1 H.size z4 m3 hm3) (va_cwS 3 htb (bp_goodW tw_917 tw_918 tw_79 tw_919) rfl rfl rfl hd_bm_M_within ⟨Nat.le_of_ble_eq_true rfl, Nat.le_of_ble_eq_true rfl⟩) (bm_preS E hsub hst hK hP hD hS _) rfl rfl hl.1 rfl (lv_room (Nat.le_of_ble_eq_true rfl)) (dt_bm_M_draw 8 rfl) ⟨Nat.zero_le _, Nat.zero_le _⟩) (fun H locs hP hD hS => ?_)
    refine lv_if_ne (tgt := 24) hx hb (dt_bm_M_draw 9 rfl) (by decide) (fun hc => ?_) (fun hc => ?_)
    · replace h := (if_pos hc).symm.trans h
      refine lv_aload_n hx hb (dt_bm_M_draw 12 rfl) rfl (lv_at hl 0 rfl) ?_
      refine va_get (D := E.1) (ci := 10) (v := .ref (E.2.1 19)) (C := "BlockPicturesModel") (T := bF_M) (N := 48) hx hb htb bm_in_M hown hK hP 0 (bm_gM E m3) rfl 42 (by decide) (htb _ tw_810) (fun _ h9 => h9) rfl (dt_bm_M_draw 13 rfl) ?_
      refine lv_iload_n hx hb (dt_bm_M_draw 14 rfl) rfl (lv_at hl 1 rfl) ?_
      refine lv_iload_n hx hb (dt_bm_M_draw 15 rfl) rfl (lv_at hl 2 rfl) ?_
      obtain ⟨hg5, h⟩ := bp_gi_s h
      refine bm_sI E hx hb hK hP hD hS (bm_ga19 E) hg5 (dt_bm_M_draw 16 rfl) (fun m6 em6 H locs hP hD hS => ?_)
      replace h := bp_nM_s h em6
      refine lv_iconst (v := 1) hx hb (dt_bm_M_draw 17 rfl) (by decide) ?_
      obtain ⟨hg7, h⟩ := bp_g_s h
      exact hret _ _ _ _ _ _ hg7 h hP hD hS (dt_bm_M_draw 18 rfl)
    · replace h := (if_neg (fun hn => hn hc)).symm.trans h
      exact hL22 _ h ls H locs (lv_sub hl [] rfl) hP hD hS
set_option maxHeartbeats 4000000 in
set_option maxRecDepth 100000 in
theorem wbm_M_byteOut (l : Launch) (E : bm_E) (N : Nat) (a1 : Int32) (m : bp_M) (sz : Nat) (mr : bp_M)  (h : bm_M_byteOut N a1 m = some mr) : Met l y_bm_M_byteOut (Cond.code y_bm_M_byteOut prog_13_method_56_code 2 none :: bp_tb) ({ frames := 0, cells := 0, slots := 0, locals := 0 }) (bm_Pc E m sz [.ref (E.2.1 0), .int a1]) (bm_Qv E m sz mr) 0 0 (va_A (bm_W E m) sz) := by
  refine Met.ofW (cc := prog_13_method_56_code) (maxL := 2) (ret := none) (by decide) rfl ?_
  intro p e s mt args below meth c s₁ B hml hv
  obtain ⟨rfl, hsz, hP, hK, hD0, hst⟩ := hv
  have hx := B.exec
  have hb := B.bytes
  have hr := B.returns
  have htb : ∀ w ∈ bp_tb, w.before _ s = true := fun w hw => atoms_spec (ws := Cond.code y_bm_M_byteOut prog_13_method_56_code 2 none :: bp_tb) B.pre w (List.mem_cons_of_mem _ hw)
  have hown : s.vm.findClass "BlockPicturesModel" = some mt.cls := findClass_of_methodNamed B.named
  have hlocks := B.notSynchronized
  subst hsz
  have hD := hD0.self (sz := s.heap.size)
  generalize hAe : va_A (bm_W E m) s.heap.size = A at hD hst ⊢
  have hsub : ∀ (u : bp_M) (z q : Nat), s.heap.size ≤ z → va_A (bm_W E u) z q → A q := bm_sub hAe
  have hS : va_S A s.heap s.heap [] := va_S.rf
  have hl := lv_entry ([.ref (E.2.1 0), .int a1]) (n := 2) (Nat.le_of_ble_eq_true rfl)
  rw [lg_entry_eq]
  generalize (lg_sl ([.ref (E.2.1 0), .int a1]) ++ List.replicate (2 - (lg_sl ([.ref (E.2.1 0), .int a1])).length) Slot.unset).toArray = ls at hl ⊢
  have hl : lv_has ls 2 [(0, .ref (E.2.1 0)), (1, .int a1)] := hl
  refine bm_keyV (R := ({ frames := 0, cells := 0, slots := 0, locals := 0 })) E hx hb hr hlocks hK hAe (fun Q hret => ?_)
  clear B hD0 hlocks hr
  generalize ([.ref (E.2.1 0), .int a1] : List Value).toArray = args at htb hret ⊢
  clear hAe
  have hL73 : ∀ (s0 : Int32) (m : bp_M), bm_M_byteOut_L73 N a1 s0 m = some mr → ∀ (ls : Array Slot) (H : Heap) (locs : List Loc), lv_has ls 2 [] → va_P E.1 bp_cl (bm_W E m) H → va_D A (bm_W E m) → va_S A s.heap H locs → W p l e ({ frames := 0, cells := 0, slots := 0, locals := 0 }) s mt args below meth c H locs 0 0 Q (F0 mt 73 ls [.int s0, .ref (E.2.1 0)]) := by
    intro s0 m h ls H locs hl hP hD hS
    rw [bm_M_byteOut_L73] at h
    refine bm_pM_45 E hx hb htb hown hK hP hD hS (htb _ tw_813) (dt_bm_M_byteOut 43 rfl) (fun m1 em1 H locs hP hD hS => ?_)
    replace h := bp_nM_s h em1
    exact hret _ _ _ _ _ h hP hD hS (dt_bm_M_byteOut 44 rfl)
  have hL38 : ∀ (m : bp_M), bm_M_byteOut_L38 N a1 m = some mr → ∀ (ls : Array Slot) (H : Heap) (locs : List Loc), lv_has ls 2 [(0, .ref (E.2.1 0)), (1, .int a1)] → va_P E.1 bp_cl (bm_W E m) H → va_D A (bm_W E m) → va_S A s.heap H locs → W p l e ({ frames := 0, cells := 0, slots := 0, locals := 0 }) s mt args below meth c H locs 0 0 Q (F0 mt 38 ls []) := by
    intro m h ls H locs hl hP hD hS
    rw [bm_M_byteOut_L38] at h
    refine lv_aload_n hx hb (dt_bm_M_byteOut 22 rfl) rfl (lv_at hl 0 rfl) ?_
    refine va_get (D := E.1) (ci := 10) (v := .ref (E.2.1 20)) (C := "BlockPicturesModel") (T := bF_M) (N := 48) hx hb htb bm_in_M hown hK hP 0 (bm_gM E m) rfl 43 (by decide) (htb _ tw_811) (fun _ h9 => h9) rfl (dt_bm_M_byteOut 23 rfl) ?_
    refine lv_aload_n hx hb (dt_bm_M_byteOut 24 rfl) rfl (lv_at hl 0 rfl) ?_
    refine va_get (D := E.1) (ci := 10) (v := .int (m.1 0 44)) (C := "BlockPicturesModel") (T := bF_M) (N := 48) hx hb htb bm_in_M hown hK hP 0 (bm_gM E m) rfl 44 (by decide) (htb _ tw_812) (fun _ h9 => h9) rfl (dt_bm_M_byteOut 25 rfl) ?_
    refine lv_iload_n hx hb (dt_bm_M_byteOut 26 rfl) rfl (lv_at hl 1 rfl) ?_
    obtain ⟨hg1, h⟩ := bp_gi_s h
    refine bm_sI E hx hb hK hP hD hS (bm_ga20 E) hg1 (dt_bm_M_byteOut 27 rfl) (fun m2 em2 H locs hP hD hS => ?_)
    replace h := bp_nM_s h em2
    refine lv_aload_n hx hb (dt_bm_M_byteOut 28 rfl) rfl (lv_at hl 0 rfl) ?_
    refine lv_dup hx hb (dt_bm_M_byteOut 29 rfl) rfl ?_
    refine va_get (D := E.1) (ci := 10) (v := .int (m2.1 0 44)) (C := "BlockPicturesModel") (T := bF_M) (N := 48) hx hb htb bm_in_M hown hK hP 0 (bm_gM E m2) rfl 44 (by decide) (htb _ tw_812) (fun _ h9 => h9) rfl (dt_bm_M_byteOut 30 rfl) ?_
    refine lv_iconst (v := 1) hx hb (dt_bm_M_byteOut 31 rfl) (by decide) ?_
    refine lv_iadd hx hb (dt_bm_M_byteOut 32 rfl) ?_
    refine bm_pM_44 E hx hb htb hown hK hP hD hS (htb _ tw_812) (dt_bm_M_byteOut 33 rfl) (fun m3 em3 H locs hP hD hS => ?_)
    replace h := bp_nM_s h em3
    refine lv_aload_n hx hb (dt_bm_M_byteOut 34 rfl) rfl (lv_at hl 0 rfl) ?_
    refine lv_iload_n hx hb (dt_bm_M_byteOut 35 rfl) rfl (lv_at hl 1 rfl) ?_
    refine lv_if_ne (tgt := 72) hx hb (dt_bm_M_byteOut 36 rfl) (by decide) (fun hc => ?_) (fun hc => ?_)
    · replace h := (if_pos hc).symm.trans h
      refine lv_iconst (v := 0) hx hb (dt_bm_M_byteOut 42 rfl) (by decide) ?_
      exact hL73 _ _ h ls H locs (lv_sub hl [] rfl) hP hD hS
    · replace h := (if_neg (fun hn => hn hc)).symm.trans h
      refine lv_aload_n hx hb (dt_bm_M_byteOut 37 rfl) rfl (lv_at hl 0 rfl) ?_
      refine va_get (D := E.1) (ci := 10) (v := .int (m3.1 0 45)) (C := "BlockPicturesModel") (T := bF_M) (N := 48) hx hb htb bm_in_M hown hK hP 0 (bm_gM E m3) rfl 45 (by decide) (htb _ tw_813) (fun _ h9 => h9) rfl (dt_bm_M_byteOut 38 rfl) ?_
      refine lv_iconst (v := 1) hx hb (dt_bm_M_byteOut 39 rfl) (by decide) ?_
      refine lv_iadd hx hb (dt_bm_M_byteOut 40 rfl) ?_
      refine lv_goto (tgt := 73) hx hb (dt_bm_M_byteOut 41 rfl) (by decide) ?_
      exact hL73 _ _ h ls H locs (lv_sub hl [] rfl) hP hD hS
  suffices hgo : ∀ (H : Heap) (locs : List Loc), va_P E.1 bp_cl (bm_W E m) H → va_D A (bm_W E m) → va_S A s.heap H locs → W p l e ({ frames := 0, cells := 0, slots := 0, locals := 0 }) s mt args below meth c H locs 0 0 Q (F0 mt 0 ls []) from hgo _ _ hP hD hS
  clear hP hD hS
  intro H locs hP hD hS
  unfold bm_M_byteOut at h
  refine lv_aload_n hx hb (dt_bm_M_byteOut 0 rfl) rfl (lv_at hl 0 rfl) ?_
  refine va_get (D := E.1) (ci := 10) (v := .int (m.1 0 45)) (C := "BlockPicturesModel") (T := bF_M) (N := 48) hx hb htb bm_in_M hown hK hP 0 (bm_gM E m) rfl 45 (by decide) (htb _ tw_813) (fun _ h9 => h9) rfl (dt_bm_M_byteOut 1 rfl) ?_
  refine lv_iconst (v := 2) hx hb (dt_bm_M_byteOut 2 rfl) (by decide) ?_
  refine lv_icmp_ne (tgt := 38) hx hb (dt_bm_M_byteOut 3 rfl) (by decide) (fun hc => ?_) (fun hc => ?_)
  · replace h := (if_pos hc).symm.trans h
    exact hL38 _ h ls H locs (lv_sub hl [0, 1] rfl) hP hD hS
  · replace h := (if_neg (fun hn => hn hc)).symm.trans h
    refine lv_iload_n hx hb (dt_bm_M_byteOut 4 rfl) rfl (lv_at hl 1 rfl) ?_
    refine lv_iconst (v := 3) hx hb (dt_bm_M_byteOut 5 rfl) (by decide) ?_
    refine lv_icmp_gt (tgt := 38) hx hb (dt_bm_M_byteOut 6 rfl) (by decide) (fun hc => ?_) (fun hc => ?_)
    · replace h := (if_pos hc).symm.trans h
      exact hL38 _ h ls H locs (lv_sub hl [0, 1] rfl) hP hD hS
    · replace h := (if_neg hc).symm.trans h
      refine lv_aload_n hx hb (dt_bm_M_byteOut 7 rfl) rfl (lv_at hl 0 rfl) ?_
      refine va_get (D := E.1) (ci := 10) (v := .ref (E.2.1 20)) (C := "BlockPicturesModel") (T := bF_M) (N := 48) hx hb htb bm_in_M hown hK hP 0 (bm_gM E m) rfl 43 (by decide) (htb _ tw_811) (fun _ h9 => h9) rfl (dt_bm_M_byteOut 8 rfl) ?_
      refine lv_aload_n hx hb (dt_bm_M_byteOut 9 rfl) rfl (lv_at hl 0 rfl) ?_
      refine va_get (D := E.1) (ci := 10) (v := .int (m.1 0 44)) (C := "BlockPicturesModel") (T := bF_M) (N := 48) hx hb htb bm_in_M hown hK hP 0 (bm_gM E m) rfl 44 (by decide) (htb _ tw_812) (fun _ h9 => h9) rfl (dt_bm_M_byteOut 10 rfl) ?_
      refine lv_iconst (v := 3) hx hb (dt_bm_M_byteOut 11 rfl) (by decide) ?_
      obtain ⟨hg1, h⟩ := bp_gi_s h
      refine bm_sI E hx hb hK hP hD hS (bm_ga20 E) hg1 (dt_bm_M_byteOut 12 rfl) (fun m2 em2 H locs hP hD hS => ?_)
      replace h := bp_nM_s h em2
      refine lv_aload_n hx hb (dt_bm_M_byteOut 13 rfl) rfl (lv_at hl 0 rfl) ?_
      refine lv_dup hx hb (dt_bm_M_byteOut 14 rfl) rfl ?_
      refine va_get (D := E.1) (ci := 10) (v := .int (m2.1 0 44)) (C := "BlockPicturesModel") (T := bF_M) (N := 48) hx hb htb bm_in_M hown hK hP 0 (bm_gM E m2) rfl 44 (by decide) (htb _ tw_812) (fun _ h9 => h9) rfl (dt_bm_M_byteOut 15 rfl) ?_
      refine lv_iconst (v := 1) hx hb (dt_bm_M_byteOut 16 rfl) (by decide) ?_
      refine lv_iadd hx hb (dt_bm_M_byteOut 17 rfl) ?_
      refine bm_pM_44 E hx hb htb hown hK hP hD hS (htb _ tw_812) (dt_bm_M_byteOut 18 rfl) (fun m3 em3 H locs hP hD hS => ?_)
      replace h := bp_nM_s h em3
      refine lv_aload_n hx hb (dt_bm_M_byteOut 19 rfl) rfl (lv_at hl 0 rfl) ?_
      refine lv_iconst (v := 0) hx hb (dt_bm_M_byteOut 20 rfl) (by decide) ?_
      refine bm_pM_45 E hx hb htb hown hK hP hD hS (htb _ tw_813) (dt_bm_M_byteOut 21 rfl) (fun m4 em4 H locs hP hD hS => ?_)
      replace h := bp_nM_s h em4
      exact hL38 _ h ls H locs (lv_sub hl [0, 1] rfl) hP hD hS
set_option maxHeartbeats 4000000 in
set_option maxRecDepth 100000 in
theorem wbm_M_bitsOut (l : Launch) (E : bm_E) (N : Nat) (a1 : Int32) (a2 : Int32) (m : bp_M) (sz : Nat) (mr : bp_M)  (h : bm_M_bitsOut N a1 a2 m = some mr) : Met l y_bm_M_bitsOut (Cond.code y_bm_M_bitsOut prog_13_method_57_code 4 none :: bp_tb) ({ frames := 1, cells := 0, slots := 0, locals := 21 }) (bm_Pc E m sz [.ref (E.2.1 0), .int a1, .int a2]) (bm_Qv E m sz mr) 0 0 (va_A (bm_W E m) sz) := by
  refine Met.ofW (cc := prog_13_method_57_code) (maxL := 4) (ret := none) (by decide) rfl ?_
  intro p e s mt args below meth c s₁ B hml hv
  obtain ⟨rfl, hsz, hP, hK, hD0, hst⟩ := hv
  have hx := B.exec
  have hb := B.bytes
  have hr := B.returns
  have htb : ∀ w ∈ bp_tb, w.before _ s = true := fun w hw => atoms_spec (ws := Cond.code y_bm_M_bitsOut prog_13_method_57_code 4 none :: bp_tb) B.pre w (List.mem_cons_of_mem _ hw)
  have hown : s.vm.findClass "BlockPicturesModel" = some mt.cls := findClass_of_methodNamed B.named
  have hlocks := B.notSynchronized
  subst hsz
  have hD := hD0.self (sz := s.heap.size)
  generalize hAe : va_A (bm_W E m) s.heap.size = A at hD hst ⊢
  have hsub : ∀ (u : bp_M) (z q : Nat), s.heap.size ≤ z → va_A (bm_W E u) z q → A q := bm_sub hAe
  have hS : va_S A s.heap s.heap [] := va_S.rf
  have hl := lv_entry ([.ref (E.2.1 0), .int a1, .int a2]) (n := 4) (Nat.le_of_ble_eq_true rfl)
  rw [lg_entry_eq]
  generalize (lg_sl ([.ref (E.2.1 0), .int a1, .int a2]) ++ List.replicate (4 - (lg_sl ([.ref (E.2.1 0), .int a1, .int a2])).length) Slot.unset).toArray = ls at hl ⊢
  have hl : lv_has ls 4 [(0, .ref (E.2.1 0)), (1, .int a1), (2, .int a2)] := hl
  refine bm_keyV (R := ({ frames := 1, cells := 0, slots := 0, locals := 21 })) E hx hb hr hlocks hK hAe (fun Q hret => ?_)
  clear B hD0 hlocks hr
  generalize ([.ref (E.2.1 0), .int a1, .int a2] : List Value).toArray = args at htb hret ⊢
  clear hAe
  have hL67 : ∀ (m : bp_M), bm_M_bitsOut_L67 N a1 a2 m = some mr → ∀ (ls : Array Slot) (H : Heap) (locs : List Loc), lv_has ls 4 [] → va_P E.1 bp_cl (bm_W E m) H → va_D A (bm_W E m) → va_S A s.heap H locs → W p l e ({ frames := 1, cells := 0, slots := 0, locals := 21 }) s mt args below meth c H locs 0 0 Q (F0 mt 67 ls []) := by
    intro m h ls H locs hl hP hD hS
    rw [bm_M_bitsOut_L67] at h
    exact hret _ _ _ _ _ h hP hD hS (dt_bm_M_bitsOut 40 rfl)
  have hL4 : ∀ (n4 : Nat) (x3 : Int32) (m : bp_M), bm_M_bitsOut_L4 N a1 a2 n4 x3 m = some mr → ∀ (ls : Array Slot) (H : Heap) (locs : List Loc), lv_has ls 4 [(0, .ref (E.2.1 0)), (1, .int a1), (3, .int x3)] → va_P E.1 bp_cl (bm_W E m) H → va_D A (bm_W E m) → va_S A s.heap H locs → W p l e ({ frames := 1, cells := 0, slots := 0, locals := 21 }) s mt args below meth c H locs 0 0 Q (F0 mt 4 ls []) := by
    intro n4
    induction n4 with
    | zero =>
      intro x3 m h ls H locs hl hP hD hS
      rw [bm_M_bitsOut_L4] at h
      cases h
    | succ n4 ih4 =>
      have hL61 : ∀ (x3 : Int32) (m : bp_M), bm_M_bitsOut_L61 (bm_M_bitsOut_L4 N a1 a2 n4) N a1 a2 x3 m = some mr → ∀ (ls : Array Slot) (H : Heap) (locs : List Loc), lv_has ls 4 [(0, .ref (E.2.1 0)), (1, .int a1), (3, .int x3)] → va_P E.1 bp_cl (bm_W E m) H → va_D A (bm_W E m) → va_S A s.heap H locs → W p l e ({ frames := 1, cells := 0, slots := 0, locals := 21 }) s mt args below meth c H locs 0 0 Q (F0 mt 61 ls []) := by
        intro x3 m h ls H locs hl hP hD hS
        rw [bm_M_bitsOut_L61] at h
        obtain ⟨y1, ey1⟩ : ∃ z : Int32, z = x3 + (-1) := ⟨_, rfl⟩
        replace h := bp_nI_s h ey1
        refine lv_iinc (k := 2) (v := y1) hx hb (dt_bm_M_bitsOut 38 rfl) hl rfl (by rw [ey1]; rfl) (Nat.le_of_ble_eq_true rfl) rfl (fun ls hl => ?_)
        have hl : lv_has ls 4 [(3, .int y1), (0, .ref (E.2.1 0)), (1, .int a1)] := hl
        refine lv_goto (tgt := 4) hx hb (dt_bm_M_bitsOut 39 rfl) (by decide) ?_
        exact ih4 _ _ h ls H locs (lv_sub hl [1, 2, 0] rfl) hP hD hS
      intro x3 m h ls H locs hl hP hD hS
      rw [bm_M_bitsOut_L4] at h
      refine lv_iload_n hx hb (dt_bm_M_bitsOut 4 rfl) rfl (lv_at hl 2 rfl) ?_
      refine lv_if_lt (tgt := 67) hx hb (dt_bm_M_bitsOut 5 rfl) (by decide) (fun hc => ?_) (fun hc => ?_)
      · replace h := (if_pos hc).symm.trans h
        exact hL67 _ h ls H locs (lv_sub hl [] rfl) hP hD hS
      · replace h := (if_neg hc).symm.trans h
        refine lv_aload_n hx hb (dt_bm_M_bitsOut 6 rfl) rfl (lv_at hl 0 rfl) ?_
        refine lv_iconst (v := 2) hx hb (dt_bm_M_bitsOut 7 rfl) (by decide) ?_
        refine lv_aload_n hx hb (dt_bm_M_bitsOut 8 rfl) rfl (lv_at hl 0 rfl) ?_
        refine va_get (D := E.1) (ci := 10) (v := .int (m.1 0 46)) (C := "BlockPicturesModel") (T := bF_M) (N := 48) hx hb htb bm_in_M hown hK hP 0 (bm_gM E m) rfl 46 (by decide) (htb _ tw_814) (fun _ h9 => h9) rfl (dt_bm_M_bitsOut 9 rfl) ?_
        refine lv_imul hx hb (dt_bm_M_bitsOut 10 rfl) ?_
        refine lv_iload_n hx hb (dt_bm_M_bitsOut 11 rfl) rfl (lv_at hl 1 rfl) ?_
        refine lv_iload_n hx hb (dt_bm_M_bitsOut 12 rfl) rfl (lv_at hl 2 rfl) ?_
        refine lv_ishr hx hb (dt_bm_M_bitsOut 13 rfl) ?_
        refine lv_iconst (v := 1) hx hb (dt_bm_M_bitsOut 14 rfl) (by decide) ?_
        refine lv_iand hx hb (dt_bm_M_bitsOut 15 rfl) ?_
        refine lv_iadd hx hb (dt_bm_M_bitsOut 16 rfl) ?_
        refine bm_pM_46 E hx hb htb hown hK hP hD hS (htb _ tw_814) (dt_bm_M_bitsOut 17 rfl) (fun m1 em1 H locs hP hD hS => ?_)
        replace h := bp_nM_s h em1
        refine lv_aload_n hx hb (dt_bm_M_bitsOut 18 rfl) rfl (lv_at hl 0 rfl) ?_
        refine lv_dup hx hb (dt_bm_M_bitsOut 19 rfl) rfl ?_
        refine va_get (D := E.1) (ci := 10) (v := .int (m1.1 0 47)) (C := "BlockPicturesModel") (T := bF_M) (N := 48) hx hb htb bm_in_M hown hK hP 0 (bm_gM E m1) rfl 47 (by decide) (htb _ tw_815) (fun _ h9 => h9) rfl (dt_bm_M_bitsOut 20 rfl) ?_
        refine lv_iconst (v := 1) hx hb (dt_bm_M_bitsOut 21 rfl) (by decide) ?_
        refine lv_iadd hx hb (dt_bm_M_bitsOut 22 rfl) ?_
        refine bm_pM_47 E hx hb htb hown hK hP hD hS (htb _ tw_815) (dt_bm_M_bitsOut 23 rfl) (fun m2 em2 H locs hP hD hS => ?_)
        replace h := bp_nM_s h em2
        refine lv_aload_n hx hb (dt_bm_M_bitsOut 24 rfl) rfl (lv_at hl 0 rfl) ?_
        refine va_get (D := E.1) (ci := 10) (v := .int (m2.1 0 47)) (C := "BlockPicturesModel") (T := bF_M) (N := 48) hx hb htb bm_in_M hown hK hP 0 (bm_gM E m2) rfl 47 (by decide) (htb _ tw_815) (fun _ h9 => h9) rfl (dt_bm_M_bitsOut 25 rfl) ?_
        refine lv_bipush (v := 8) hx hb (dt_bm_M_bitsOut 26 rfl) (by decide) ?_
        refine lv_icmp_ne (tgt := 61) hx hb (dt_bm_M_bitsOut 27 rfl) (by decide) (fun hc => ?_) (fun hc => ?_)
        · replace h := (if_pos hc).symm.trans h
          exact hL61 _ _ h ls H locs (lv_sub hl [0, 1, 2] rfl) hP hD hS
        · replace h := (if_neg (fun hn => hn hc)).symm.trans h
          refine lv_aload_n hx hb (dt_bm_M_bitsOut 28 rfl) rfl (lv_at hl 0 rfl) ?_
          refine lv_aload_n hx hb (dt_bm_M_bitsOut 29 rfl) rfl (lv_at hl 0 rfl) ?_
          refine va_get (D := E.1) (ci := 10) (v := .int (m2.1 0 46)) (C := "BlockPicturesModel") (T := bF_M) (N := 48) hx hb htb bm_in_M hown hK hP 0 (bm_gM E m2) rfl 46 (by decide) (htb _ tw_814) (fun _ h9 => h9) rfl (dt_bm_M_bitsOut 30 rfl) ?_
          obtain ⟨m3, hm3, h⟩ := bp_cV_s h
          refine bm_callV E hsub hS (va_runV (As := [.int (m2.1 0 46)]) (rest := []) ⟨hx, hb, hml, hown, htb⟩ (wbm_M_byteOut l E N (m2.1 0 46) m2 H.size m3 hm3) (cwV 1 htb (bp_goodV tw_1123 tw_1125 tw_65 tw_79 tw_1126) rfl rfl rfl ⟨rfl, hd_bm_M_byteOut⟩ ⟨Nat.le_of_ble_eq_true rfl, Nat.le_of_ble_eq_true rfl⟩) (bm_preV E hsub hst hK hP hD hS (bm_gM E m2) rfl rfl _) rfl rfl hl.1 rfl (lv_room (Nat.le_of_ble_eq_true rfl)) (dt_bm_M_bitsOut 31 rfl) ⟨Nat.zero_le _, Nat.zero_le _⟩) (fun H locs hP hD hS => ?_)
          refine lv_aload_n hx hb (dt_bm_M_bitsOut 32 rfl) rfl (lv_at hl 0 rfl) ?_
          refine lv_iconst (v := 0) hx hb (dt_bm_M_bitsOut 33 rfl) (by decide) ?_
          refine bm_pM_46 E hx hb htb hown hK hP hD hS (htb _ tw_814) (dt_bm_M_bitsOut 34 rfl) (fun m4 em4 H locs hP hD hS => ?_)
          replace h := bp_nM_s h em4
          refine lv_aload_n hx hb (dt_bm_M_bitsOut 35 rfl) rfl (lv_at hl 0 rfl) ?_
          refine lv_iconst (v := 0) hx hb (dt_bm_M_bitsOut 36 rfl) (by decide) ?_
          refine bm_pM_47 E hx hb htb hown hK hP hD hS (htb _ tw_815) (dt_bm_M_bitsOut 37 rfl) (fun m5 em5 H locs hP hD hS => ?_)
          replace h := bp_nM_s h em5
          exact hL61 _ _ h ls H locs (lv_sub hl [0, 1, 2] rfl) hP hD hS
  suffices hgo : ∀ (H : Heap) (locs : List Loc), va_P E.1 bp_cl (bm_W E m) H → va_D A (bm_W E m) → va_S A s.heap H locs → W p l e ({ frames := 1, cells := 0, slots := 0, locals := 21 }) s mt args below meth c H locs 0 0 Q (F0 mt 0 ls []) from hgo _ _ hP hD hS
  clear hP hD hS
  intro H locs hP hD hS
  unfold bm_M_bitsOut at h
  refine lv_iload_n hx hb (dt_bm_M_bitsOut 0 rfl) rfl (lv_at hl 2 rfl) ?_
  refine lv_iconst (v := 1) hx hb (dt_bm_M_bitsOut 1 rfl) (by decide) ?_
  refine lv_isub hx hb (dt_bm_M_bitsOut 2 rfl) ?_
  refine lv_topi (fun y1 ey1 => ?_)
  replace h := bp_nI_s h ey1
  refine lv_istore_n hx hb (dt_bm_M_bitsOut 3 rfl) rfl hl (Nat.le_of_ble_eq_true rfl) rfl (fun ls hl => ?_)
  have hl : lv_has ls 4 [(3, .int y1), (0, .ref (E.2.1 0)), (1, .int a1), (2, .int a2)] := hl
  exact hL4 _ _ _ h ls H locs (lv_sub hl [1, 2, 0] rfl) hP hD hS
set_option maxHeartbeats 4000000 in
set_option maxRecDepth 100000 in
theorem wbm_M_numberOut (l : Launch) (E : bm_E) (N : Nat) (a1 : Int32) (m : bp_M) (sz : Nat) (mr : bp_M)  (h : bm_M_numberOut N a1 m = some mr) : Met l y_bm_M_numberOut (Cond.code y_bm_M_numberOut prog_13_method_58_code 3 none :: bp_tb) ({ frames := 2, cells := 0, slots := 0, locals := 44 }) (bm_Pc E m sz [.ref (E.2.1 0), .int a1]) (bm_Qv E m sz mr) 0 0 (va_A (bm_W E m) sz) := by
  refine Met.ofW (cc := prog_13_method_58_code) (maxL := 3) (ret := none) (by decide) rfl ?_
  intro p e s mt args below meth c s₁ B hml hv
  obtain ⟨rfl, hsz, hP, hK, hD0, hst⟩ := hv
  have hx := B.exec
  have hb := B.bytes
  have hr := B.returns
  have htb : ∀ w ∈ bp_tb, w.before _ s = true := fun w hw => atoms_spec (ws := Cond.code y_bm_M_numberOut prog_13_method_58_code 3 none :: bp_tb) B.pre w (List.mem_cons_of_mem _ hw)
  have hown : s.vm.findClass "BlockPicturesModel" = some mt.cls := findClass_of_methodNamed B.named
  have hlocks := B.notSynchronized
  subst hsz
  have hD := hD0.self (sz := s.heap.size)
  generalize hAe : va_A (bm_W E m) s.heap.size = A at hD hst ⊢
  have hsub : ∀ (u : bp_M) (z q : Nat), s.heap.size ≤ z → va_A (bm_W E u) z q → A q := bm_sub hAe
  have hS : va_S A s.heap s.heap [] := va_S.rf
  have hl := lv_entry ([.ref (E.2.1 0), .int a1]) (n := 3) (Nat.le_of_ble_eq_true rfl)
  rw [lg_entry_eq]
  generalize (lg_sl ([.ref (E.2.1 0), .int a1]) ++ List.replicate (3 - (lg_sl ([.ref (E.2.1 0), .int a1])).length) Slot.unset).toArray = ls at hl ⊢
  have hl : lv_has ls 3 [(0, .ref (E.2.1 0)), (1, .int a1)] := hl
  refine bm_keyV (R := ({ frames := 2, cells := 0, slots := 0, locals := 44 })) E hx hb hr hlocks hK hAe (fun Q hret => ?_)
  clear B hD0 hlocks hr
  generalize ([.ref (E.2.1 0), .int a1] : List Value).toArray = args at htb hret ⊢
  clear hAe
  have hL17 : ∀ (x2 : Int32) (m : bp_M), bm_M_numberOut_L17 N a1 x2 m = some mr → ∀ (ls : Array Slot) (H : Heap) (locs : List Loc), lv_has ls 3 [(0, .ref (E.2.1 0)), (1, .int a1), (2, .int x2)] → va_P E.1 bp_cl (bm_W E m) H → va_D A (bm_W E m) → va_S A s.heap H locs → W p l e ({ frames := 2, cells := 0, slots := 0, locals := 44 }) s mt args below meth c H locs 0 0 Q (F0 mt 17 ls []) := by
    intro x2 m h ls H locs hl hP hD hS
    rw [bm_M_numberOut_L17] at h
    refine lv_aload_n hx hb (dt_bm_M_numberOut 11 rfl) rfl (lv_at hl 0 rfl) ?_
    refine lv_iload_n hx hb (dt_bm_M_numberOut 12 rfl) rfl (lv_at hl 1 rfl) ?_
    refine lv_iconst (v := 1) hx hb (dt_bm_M_numberOut 13 rfl) (by decide) ?_
    refine lv_iadd hx hb (dt_bm_M_numberOut 14 rfl) ?_
    refine lv_iconst (v := 2) hx hb (dt_bm_M_numberOut 15 rfl) (by decide) ?_
    refine lv_iload_n hx hb (dt_bm_M_numberOut 16 rfl) rfl (lv_at hl 2 rfl) ?_
    refine lv_imul hx hb (dt_bm_M_numberOut 17 rfl) ?_
    refine lv_iconst (v := 1) hx hb (dt_bm_M_numberOut 18 rfl) (by decide) ?_
    refine lv_iadd hx hb (dt_bm_M_numberOut 19 rfl) ?_
    obtain ⟨m1, hm1, h⟩ := bp_cV_s h
    refine bm_callV E hsub hS (va_runV (As := [.int (a1 + 1 : Int32), .int ((2 * x2 : Int32) + 1 : Int32)]) (rest := []) ⟨hx, hb, hml, hown, htb⟩ (wbm_M_bitsOut l E N (a1 + 1 : Int32) ((2 * x2 : Int32) + 1 : Int32) m H.size m1 hm1) (cwV 2 htb (bp_goodV tw_1131 tw_1133 tw_67 tw_79 tw_1134) rfl rfl rfl ⟨rfl, hd_bm_M_bitsOut⟩ ⟨Nat.le_of_ble_eq_true rfl, Nat.le_of_ble_eq_true rfl⟩) (bm_preV E hsub hst hK hP hD hS (bm_gM E m) rfl rfl _) rfl rfl hl.1 rfl (lv_room (Nat.le_of_ble_eq_true rfl)) (dt_bm_M_numberOut 20 rfl) ⟨Nat.zero_le _, Nat.zero_le _⟩) (fun H locs hP hD hS => ?_)
    exact hret _ _ _ _ _ h hP hD hS (dt_bm_M_numberOut 21 rfl)
  have hL2 : ∀ (n2 : Nat) (x2 : Int32) (m : bp_M), bm_M_numberOut_L2 N a1 n2 x2 m = some mr → ∀ (ls : Array Slot) (H : Heap) (locs : List Loc), lv_has ls 3 [(0, .ref (E.2.1 0)), (1, .int a1), (2, .int x2)] → va_P E.1 bp_cl (bm_W E m) H → va_D A (bm_W E m) → va_S A s.heap H locs → W p l e ({ frames := 2, cells := 0, slots := 0, locals := 44 }) s mt args below meth c H locs 0 0 Q (F0 mt 2 ls []) := by
    intro n2
    induction n2 with
    | zero =>
      intro x2 m h ls H locs hl hP hD hS
      rw [bm_M_numberOut_L2] at h
      cases h
    | succ n2 ih2 =>
      intro x2 m h ls H locs hl hP hD hS
      rw [bm_M_numberOut_L2] at h
      refine lv_iload_n hx hb (dt_bm_M_numberOut 2 rfl) rfl (lv_at hl 1 rfl) ?_
      refine lv_iconst (v := 1) hx hb (dt_bm_M_numberOut 3 rfl) (by decide) ?_
      refine lv_iadd hx hb (dt_bm_M_numberOut 4 rfl) ?_
      refine lv_iload_n hx hb (dt_bm_M_numberOut 5 rfl) rfl (lv_at hl 2 rfl) ?_
      refine lv_ishr hx hb (dt_bm_M_numberOut 6 rfl) ?_
      refine lv_iconst (v := 1) hx hb (dt_bm_M_numberOut 7 rfl) (by decide) ?_
      refine lv_icmp_le (tgt := 17) hx hb (dt_bm_M_numberOut 8 rfl) (by decide) (fun hc => ?_) (fun hc => ?_)
      · replace h := (if_pos hc).symm.trans h
        exact hL17 _ _ h ls H locs (lv_sub hl [0, 1, 2] rfl) hP hD hS
      · replace h := (if_neg hc).symm.trans h
        obtain ⟨y1, ey1⟩ : ∃ z : Int32, z = x2 + 1 := ⟨_, rfl⟩
        replace h := bp_nI_s h ey1
        refine lv_iinc (k := 2) (v := y1) hx hb (dt_bm_M_numberOut 9 rfl) hl rfl (by rw [ey1]; rfl) (Nat.le_of_ble_eq_true rfl) rfl (fun ls hl => ?_)
        have hl : lv_has ls 3 [(2, .int y1), (0, .ref (E.2.1 0)), (1, .int a1)] := hl
        refine lv_goto (tgt := 2) hx hb (dt_bm_M_numberOut 10 rfl) (by decide) ?_
        exact ih2 _ _ h ls H locs (lv_sub hl [1, 2, 0] rfl) hP hD hS
  suffices hgo : ∀ (H : Heap) (locs : List Loc), va_P E.1 bp_cl (bm_W E m) H → va_D A (bm_W E m) → va_S A s.heap H locs → W p l e ({ frames := 2, cells := 0, slots := 0, locals := 44 }) s mt args below meth c H locs 0 0 Q (F0 mt 0 ls []) from hgo _ _ hP hD hS
  clear hP hD hS
  intro H locs hP hD hS
  unfold bm_M_numberOut at h
  refine lv_iconst (v := 0) hx hb (dt_bm_M_numberOut 0 rfl) (by decide) ?_
  refine lv_istore_n hx hb (dt_bm_M_numberOut 1 rfl) rfl hl (Nat.le_of_ble_eq_true rfl) rfl (fun ls hl => ?_)
  have hl : lv_has ls 3 [(2, .int 0), (0, .ref (E.2.1 0)), (1, .int a1)] := hl
  exact hL2 _ _ _ h ls H locs (lv_sub hl [1, 2, 0] rfl) hP hD hS
set_option maxHeartbeats 4000000 in
set_option maxRecDepth 100000 in
theorem wbm_M_write (l : Launch) (E : bm_E) (N : Nat) (a1 : Int32) (a2 : Int32) (a3 : Int32) (m : bp_M) (sz : Nat) (r : Int32) (mr : bp_M)  (h : bm_M_write N a1 a2 a3 m = some (r, mr)) : Met l y_bm_M_write (Cond.code y_bm_M_write prog_13_method_59_code 7 (some .int) :: bp_tb) ({ frames := 3, cells := 0, slots := 0, locals := 66 }) (bm_Pc E m sz [.ref (E.2.1 0), .int a1, .int a2, .int a3]) (bm_Qi E m sz r mr) 0 0 (va_A (bm_W E m) sz) := by
  refine Met.ofW (cc := prog_13_method_59_code) (maxL := 7) (ret := (some .int)) (by decide) rfl ?_
  intro p e s mt args below meth c s₁ B hml hv
  obtain ⟨rfl, hsz, hP, hK, hD0, hst⟩ := hv
  have hx := B.exec
  have hb := B.bytes
  have hr := B.returns
  have htb : ∀ w ∈ bp_tb, w.before _ s = true := fun w hw => atoms_spec (ws := Cond.code y_bm_M_write prog_13_method_59_code 7 (some .int) :: bp_tb) B.pre w (List.mem_cons_of_mem _ hw)
  have hown : s.vm.findClass "BlockPicturesModel" = some mt.cls := findClass_of_methodNamed B.named
  have hlocks := B.notSynchronized
  subst hsz
  have hD := hD0.self (sz := s.heap.size)
  generalize hAe : va_A (bm_W E m) s.heap.size = A at hD hst ⊢
  have hsub : ∀ (u : bp_M) (z q : Nat), s.heap.size ≤ z → va_A (bm_W E u) z q → A q := bm_sub hAe
  have hS : va_S A s.heap s.heap [] := va_S.rf
  have hl := lv_entry ([.ref (E.2.1 0), .int a1, .int a2, .int a3]) (n := 7) (Nat.le_of_ble_eq_true rfl)
  rw [lg_entry_eq]
  generalize (lg_sl ([.ref (E.2.1 0), .int a1, .int a2, .int a3]) ++ List.replicate (7 - (lg_sl ([.ref (E.2.1 0), .int a1, .int a2, .int a3])).length) Slot.unset).toArray = ls at hl ⊢
  have hl : lv_has ls 7 [(0, .ref (E.2.1 0)), (1, .int a1), (2, .int a2), (3, .int a3)] := hl
  refine bm_keyI (R := ({ frames := 3, cells := 0, slots := 0, locals := 66 })) E hx hb hr hlocks hK hAe (fun Q hret => ?_)
  clear B hD0 hlocks hr
  generalize ([.ref (E.2.1 0), .int a1, .int a2, .int a3] : List Value).toArray = args at htb hret ⊢
  clear hAe
  have hL205 : ∀ (m : bp_M), bm_M_write_L205 N a1 a2 a3 m = some (r, mr) → ∀ (ls : Array Slot) (H : Heap) (locs : List Loc), lv_has ls 7 [(0, .ref (E.2.1 0))] → va_P E.1 bp_cl (bm_W E m) H → va_D A (bm_W E m) → va_S A s.heap H locs → W p l e ({ frames := 3, cells := 0, slots := 0, locals := 66 }) s mt args below meth c H locs 0 0 Q (F0 mt 205 ls []) := by
    intro m h ls H locs hl hP hD hS
    rw [bm_M_write_L205] at h
    refine lv_aload_n hx hb (dt_bm_M_write 114 rfl) rfl (lv_at hl 0 rfl) ?_
    refine lv_iconst (v := 1) hx hb (dt_bm_M_write 115 rfl) (by decide) ?_
    refine lv_iconst (v := 1) hx hb (dt_bm_M_write 116 rfl) (by decide) ?_
    obtain ⟨m1, hm1, h⟩ := bp_cV_s h
    refine bm_callV E hsub hS (va_runV (As := [.int 1, .int 1]) (rest := []) ⟨hx, hb, hml, hown, htb⟩ (wbm_M_bitsOut l E N 1 1 m H.size m1 hm1) (cwV 2 htb (bp_goodV tw_1131 tw_1133 tw_67 tw_79 tw_1134) rfl rfl rfl ⟨rfl, hd_bm_M_bitsOut⟩ ⟨Nat.le_of_ble_eq_true rfl, Nat.le_of_ble_eq_true rfl⟩) (bm_preV E hsub hst hK hP hD hS (bm_gM E m) rfl rfl _) rfl rfl hl.1 rfl (lv_room (Nat.le_of_ble_eq_true rfl)) (dt_bm_M_write 117 rfl) ⟨Nat.zero_le _, Nat.zero_le _⟩) (fun H locs hP hD hS => ?_)
    refine lv_aload_n hx hb (dt_bm_M_write 118 rfl) rfl (lv_at hl 0 rfl) ?_
    refine lv_iconst (v := 0) hx hb (dt_bm_M_write 119 rfl) (by decide) ?_
    refine lv_bipush (v := 8) hx hb (dt_bm_M_write 120 rfl) (by decide) ?_
    refine lv_aload_n hx hb (dt_bm_M_write 121 rfl) rfl (lv_at hl 0 rfl) ?_
    refine va_get (D := E.1) (ci := 10) (v := .int (m1.1 0 47)) (C := "BlockPicturesModel") (T := bF_M) (N := 48) hx hb htb bm_in_M hown hK hP 0 (bm_gM E m1) rfl 47 (by decide) (htb _ tw_815) (fun _ h9 => h9) rfl (dt_bm_M_write 122 rfl) ?_
    refine lv_isub hx hb (dt_bm_M_write 123 rfl) ?_
    refine lv_bipush (v := 8) hx hb (dt_bm_M_write 124 rfl) (by decide) ?_
    refine lv_irem hx hb (dt_bm_M_write 125 rfl) (by decide) ?_
    obtain ⟨m2, hm2, h⟩ := bp_cV_s h
    refine bm_callV E hsub hS (va_runV (As := [.int 0, .int ((8 - (m1.1 0 47) : Int32) - (8 - (m1.1 0 47) : Int32) / 8 * 8 : Int32)]) (rest := []) ⟨hx, hb, hml, hown, htb⟩ (wbm_M_bitsOut l E N 0 ((8 - (m1.1 0 47) : Int32) - (8 - (m1.1 0 47) : Int32) / 8 * 8 : Int32) m1 H.size m2 hm2) (cwV 2 htb (bp_goodV tw_1131 tw_1133 tw_67 tw_79 tw_1134) rfl rfl rfl ⟨rfl, hd_bm_M_bitsOut⟩ ⟨Nat.le_of_ble_eq_true rfl, Nat.le_of_ble_eq_true rfl⟩) (bm_preV E hsub hst hK hP hD hS (bm_gM E m1) rfl rfl _) rfl rfl hl.1 rfl (lv_room (Nat.le_of_ble_eq_true rfl)) (dt_bm_M_write 126 rfl) ⟨Nat.zero_le _, Nat.zero_le _⟩) (fun H locs hP hD hS => ?_)
    refine lv_aload_n hx hb (dt_bm_M_write 127 rfl) rfl (lv_at hl 0 rfl) ?_
    refine va_get (D := E.1) (ci := 10) (v := .int (m2.1 0 44)) (C := "BlockPicturesModel") (T := bF_M) (N := 48) hx hb htb bm_in_M hown hK hP 0 (bm_gM E m2) rfl 44 (by decide) (htb _ tw_812) (fun _ h9 => h9) rfl (dt_bm_M_write 128 rfl) ?_
    exact hret _ _ _ _ _ _ h hP hD hS (dt_bm_M_write 129 rfl)
  have hL136 : ∀ (n136 : Nat) (x5 : Int32) (m : bp_M), bm_M_write_L136 N a1 a2 a3 n136 x5 m = some (r, mr) → ∀ (ls : Array Slot) (H : Heap) (locs : List Loc), lv_has ls 7 [(0, .ref (E.2.1 0)), (1, .int a1), (5, .int x5)] → va_P E.1 bp_cl (bm_W E m) H → va_D A (bm_W E m) → va_S A s.heap H locs → W p l e ({ frames := 3, cells := 0, slots := 0, locals := 66 }) s mt args below meth c H locs 0 0 Q (F0 mt 136 ls []) := by
    intro n136
    induction n136 with
    | zero =>
      intro x5 m h ls H locs hl hP hD hS
      rw [bm_M_write_L136] at h
      cases h
    | succ n136 ih136 =>
      have hL199 : ∀ (x5 : Int32) (m : bp_M), bm_M_write_L199 (bm_M_write_L136 N a1 a2 a3 n136) N a1 a2 a3 x5 m = some (r, mr) → ∀ (ls : Array Slot) (H : Heap) (locs : List Loc), lv_has ls 7 [(0, .ref (E.2.1 0)), (1, .int a1), (5, .int x5)] → va_P E.1 bp_cl (bm_W E m) H → va_D A (bm_W E m) → va_S A s.heap H locs → W p l e ({ frames := 3, cells := 0, slots := 0, locals := 66 }) s mt args below meth c H locs 0 0 Q (F0 mt 199 ls []) := by
        intro x5 m h ls H locs hl hP hD hS
        rw [bm_M_write_L199] at h
        obtain ⟨y1, ey1⟩ : ∃ z : Int32, z = x5 + 1 := ⟨_, rfl⟩
        replace h := bp_nI_s h ey1
        refine lv_iinc (k := 2) (v := y1) hx hb (dt_bm_M_write 112 rfl) hl rfl (by rw [ey1]; rfl) (Nat.le_of_ble_eq_true rfl) rfl (fun ls hl => ?_)
        have hl : lv_has ls 7 [(5, .int y1), (0, .ref (E.2.1 0)), (1, .int a1)] := hl
        refine lv_goto (tgt := 136) hx hb (dt_bm_M_write 113 rfl) (by decide) ?_
        exact ih136 _ _ h ls H locs (lv_sub hl [1, 2, 0] rfl) hP hD hS
      have hL157 : ∀ (n157 : Nat) (x5 : Int32) (x6 : Int32) (m : bp_M), bm_M_write_L157 (bm_M_write_L136 N a1 a2 a3 n136) N a1 a2 a3 n157 x5 x6 m = some (r, mr) → ∀ (ls : Array Slot) (H : Heap) (locs : List Loc), lv_has ls 7 [(0, .ref (E.2.1 0)), (1, .int a1), (5, .int x5), (6, .int x6)] → va_P E.1 bp_cl (bm_W E m) H → va_D A (bm_W E m) → va_S A s.heap H locs → W p l e ({ frames := 3, cells := 0, slots := 0, locals := 66 }) s mt args below meth c H locs 0 0 Q (F0 mt 157 ls []) := by
        intro n157
        induction n157 with
        | zero =>
          intro x5 x6 m h ls H locs hl hP hD hS
          rw [bm_M_write_L157] at h
          cases h
        | succ n157 ih157 =>
          intro x5 x6 m h ls H locs hl hP hD hS
          rw [bm_M_write_L157] at h
          refine lv_iload hx hb (dt_bm_M_write 89 rfl) (lv_at hl 3 rfl) ?_
          refine lv_bipush (v := 16) hx hb (dt_bm_M_write 90 rfl) (by decide) ?_
          refine lv_icmp_ge (tgt := 199) hx hb (dt_bm_M_write 91 rfl) (by decide) (fun hc => ?_) (fun hc => ?_)
          · replace h := (if_pos hc).symm.trans h
            exact hL199 _ _ h ls H locs (lv_sub hl [0, 1, 2] rfl) hP hD hS
          · replace h := (if_neg hc).symm.trans h
            refine lv_aload_n hx hb (dt_bm_M_write 92 rfl) rfl (lv_at hl 0 rfl) ?_
            refine lv_aload_n hx hb (dt_bm_M_write 93 rfl) rfl (lv_at hl 0 rfl) ?_
            refine va_get (D := E.1) (ci := 10) (v := .ref (E.2.1 19)) (C := "BlockPicturesModel") (T := bF_M) (N := 48) hx hb htb bm_in_M hown hK hP 0 (bm_gM E m) rfl 42 (by decide) (htb _ tw_810) (fun _ h9 => h9) rfl (dt_bm_M_write 94 rfl) ?_
            refine lv_iload hx hb (dt_bm_M_write 95 rfl) (lv_at hl 2 rfl) ?_
            obtain ⟨z2, m1, hm1, h⟩ := bp_cI_s h
            refine bm_callI E hsub hS (va_runS (As := [.int x5]) (rest := [.ref (E.2.1 19), .ref (E.2.1 0)]) ⟨hx, hb, hml, hown, htb⟩ (wbm_M_corner l E N x5 m H.size z2 m1 hm1) (va_cwS 1 htb (bp_goodW tw_1013 tw_1014 tw_79 tw_1015) rfl rfl rfl hd_bm_M_corner ⟨Nat.le_of_ble_eq_true rfl, Nat.le_of_ble_eq_true rfl⟩) (bm_preS E hsub hst hK hP hD hS _) rfl rfl hl.1 rfl (lv_room (Nat.le_of_ble_eq_true rfl)) (dt_bm_M_write 96 rfl) ⟨Nat.zero_le _, Nat.zero_le _⟩) (fun H locs hP hD hS => ?_)
            refine lv_bipush (v := 16) hx hb (dt_bm_M_write 97 rfl) (by decide) ?_
            refine lv_iload hx hb (dt_bm_M_write 98 rfl) (lv_at hl 3 rfl) ?_
            refine lv_iconst (v := 4) hx hb (dt_bm_M_write 99 rfl) (by decide) ?_
            refine lv_idiv hx hb (dt_bm_M_write 100 rfl) (by decide) ?_
            refine lv_imul hx hb (dt_bm_M_write 101 rfl) ?_
            refine lv_iadd hx hb (dt_bm_M_write 102 rfl) ?_
            refine lv_iload hx hb (dt_bm_M_write 103 rfl) (lv_at hl 3 rfl) ?_
            refine lv_iconst (v := 4) hx hb (dt_bm_M_write 104 rfl) (by decide) ?_
            refine lv_irem hx hb (dt_bm_M_write 105 rfl) (by decide) ?_
            refine lv_iadd hx hb (dt_bm_M_write 106 rfl) ?_
            obtain ⟨hg3, h⟩ := bp_gi_s h
            refine bm_lI E hx hb hK hP (bm_ga19 E) hg3 (dt_bm_M_write 107 rfl) ?_
            refine lv_bipush (v := 8) hx hb (dt_bm_M_write 108 rfl) (by decide) ?_
            obtain ⟨m4, hm4, h⟩ := bp_cV_s h
            refine bm_callV E hsub hS (va_runV (As := [.int (m1.1 19 ((z2 + (16 * (x6 / 4 : Int32) : Int32) : Int32) + (x6 - x6 / 4 * 4 : Int32) : Int32).toNatClampNeg), .int 8]) (rest := []) ⟨hx, hb, hml, hown, htb⟩ (wbm_M_bitsOut l E N (m1.1 19 ((z2 + (16 * (x6 / 4 : Int32) : Int32) : Int32) + (x6 - x6 / 4 * 4 : Int32) : Int32).toNatClampNeg) 8 m1 H.size m4 hm4) (cwV 2 htb (bp_goodV tw_1131 tw_1133 tw_67 tw_79 tw_1134) rfl rfl rfl ⟨rfl, hd_bm_M_bitsOut⟩ ⟨Nat.le_of_ble_eq_true rfl, Nat.le_of_ble_eq_true rfl⟩) (bm_preV E hsub hst hK hP hD hS (bm_gM E m1) rfl rfl _) rfl rfl hl.1 rfl (lv_room (Nat.le_of_ble_eq_true rfl)) (dt_bm_M_write 109 rfl) ⟨Nat.zero_le _, Nat.zero_le _⟩) (fun H locs hP hD hS => ?_)
            obtain ⟨y5, ey5⟩ : ∃ z : Int32, z = x6 + 1 := ⟨_, rfl⟩
            replace h := bp_nI_s h ey5
            refine lv_iinc (k := 3) (v := y5) hx hb (dt_bm_M_write 110 rfl) hl rfl (by rw [ey5]; rfl) (Nat.le_of_ble_eq_true rfl) rfl (fun ls hl => ?_)
            have hl : lv_has ls 7 [(6, .int y5), (0, .ref (E.2.1 0)), (1, .int a1), (5, .int x5)] := hl
            refine lv_goto (tgt := 157) hx hb (dt_bm_M_write 111 rfl) (by decide) ?_
            exact ih157 _ _ _ h ls H locs (lv_sub hl [1, 2, 3, 0] rfl) hP hD hS
      intro x5 m h ls H locs hl hP hD hS
      rw [bm_M_write_L136] at h
      refine lv_iload hx hb (dt_bm_M_write 77 rfl) (lv_at hl 2 rfl) ?_
      refine lv_bipush (v := 16) hx hb (dt_bm_M_write 78 rfl) (by decide) ?_
      refine lv_icmp_ge (tgt := 205) hx hb (dt_bm_M_write 79 rfl) (by decide) (fun hc => ?_) (fun hc => ?_)
      · replace h := (if_pos hc).symm.trans h
        exact hL205 _ h ls H locs (lv_sub hl [0] rfl) hP hD hS
      · replace h := (if_neg hc).symm.trans h
        refine lv_iload_n hx hb (dt_bm_M_write 80 rfl) rfl (lv_at hl 1 rfl) ?_
        refine lv_iconst (v := 5) hx hb (dt_bm_M_write 81 rfl) (by decide) ?_
        refine lv_icmp_ne (tgt := 205) hx hb (dt_bm_M_write 82 rfl) (by decide) (fun hc => ?_) (fun hc => ?_)
        · replace h := (if_pos hc).symm.trans h
          exact hL205 _ h ls H locs (lv_sub hl [0] rfl) hP hD hS
        · replace h := (if_neg (fun hn => hn hc)).symm.trans h
          refine lv_aload_n hx hb (dt_bm_M_write 83 rfl) rfl (lv_at hl 0 rfl) ?_
          refine lv_iconst (v := 0) hx hb (dt_bm_M_write 84 rfl) (by decide) ?_
          refine lv_iconst (v := 2) hx hb (dt_bm_M_write 85 rfl) (by decide) ?_
          obtain ⟨m1, hm1, h⟩ := bp_cV_s h
          refine bm_callV E hsub hS (va_runV (As := [.int 0, .int 2]) (rest := []) ⟨hx, hb, hml, hown, htb⟩ (wbm_M_bitsOut l E N 0 2 m H.size m1 hm1) (cwV 2 htb (bp_goodV tw_1131 tw_1133 tw_67 tw_79 tw_1134) rfl rfl rfl ⟨rfl, hd_bm_M_bitsOut⟩ ⟨Nat.le_of_ble_eq_true rfl, Nat.le_of_ble_eq_true rfl⟩) (bm_preV E hsub hst hK hP hD hS (bm_gM E m) rfl rfl _) rfl rfl hl.1 rfl (lv_room (Nat.le_of_ble_eq_true rfl)) (dt_bm_M_write 86 rfl) ⟨Nat.zero_le _, Nat.zero_le _⟩) (fun H locs hP hD hS => ?_)
          refine lv_iconst (v := 0) hx hb (dt_bm_M_write 87 rfl) (by decide) ?_
          refine lv_istore hx hb (dt_bm_M_write 88 rfl) hl (Nat.le_of_ble_eq_true rfl) rfl (fun ls hl => ?_)
          have hl : lv_has ls 7 [(6, .int 0), (0, .ref (E.2.1 0)), (1, .int a1), (5, .int x5)] := hl
          exact hL157 _ _ _ _ h ls H locs (lv_sub hl [1, 2, 3, 0] rfl) hP hD hS
  have hL130 : ∀ (s0 : Int32) (m : bp_M), bm_M_write_L130 N a1 a2 a3 s0 m = some (r, mr) → ∀ (ls : Array Slot) (H : Heap) (locs : List Loc), lv_has ls 7 [(0, .ref (E.2.1 0)), (1, .int a1)] → va_P E.1 bp_cl (bm_W E m) H → va_D A (bm_W E m) → va_S A s.heap H locs → W p l e ({ frames := 3, cells := 0, slots := 0, locals := 66 }) s mt args below meth c H locs 0 0 Q (F0 mt 130 ls [.int s0, .ref (E.2.1 0)]) := by
    intro s0 m h ls H locs hl hP hD hS
    rw [bm_M_write_L130] at h
    obtain ⟨m1, hm1, h⟩ := bp_cV_s h
    refine bm_callV E hsub hS (va_runV (As := [.int s0]) (rest := []) ⟨hx, hb, hml, hown, htb⟩ (wbm_M_numberOut l E N s0 m H.size m1 hm1) (cwV 1 htb (bp_goodV tw_1127 tw_1129 tw_66 tw_79 tw_1130) rfl rfl rfl ⟨rfl, hd_bm_M_numberOut⟩ ⟨Nat.le_of_ble_eq_true rfl, Nat.le_of_ble_eq_true rfl⟩) (bm_preV E hsub hst hK hP hD hS (bm_gM E m) rfl rfl _) rfl rfl hl.1 rfl (lv_room (Nat.le_of_ble_eq_true rfl)) (dt_bm_M_write 74 rfl) ⟨Nat.zero_le _, Nat.zero_le _⟩) (fun H locs hP hD hS => ?_)
    refine lv_iconst (v := 0) hx hb (dt_bm_M_write 75 rfl) (by decide) ?_
    refine lv_istore hx hb (dt_bm_M_write 76 rfl) hl (Nat.le_of_ble_eq_true rfl) rfl (fun ls hl => ?_)
    have hl : lv_has ls 7 [(5, .int 0), (0, .ref (E.2.1 0)), (1, .int a1)] := hl
    exact hL136 _ _ _ h ls H locs (lv_sub hl [1, 2, 0] rfl) hP hD hS
  have hL110 : ∀ (s0 : Int32) (m : bp_M), bm_M_write_L110 N a1 a2 a3 s0 m = some (r, mr) → ∀ (ls : Array Slot) (H : Heap) (locs : List Loc), lv_has ls 7 [(0, .ref (E.2.1 0)), (1, .int a1), (2, .int a2), (3, .int a3)] → va_P E.1 bp_cl (bm_W E m) H → va_D A (bm_W E m) → va_S A s.heap H locs → W p l e ({ frames := 3, cells := 0, slots := 0, locals := 66 }) s mt args below meth c H locs 0 0 Q (F0 mt 110 ls [.int s0, .ref (E.2.1 0)]) := by
    intro s0 m h ls H locs hl hP hD hS
    rw [bm_M_write_L110] at h
    obtain ⟨m1, hm1, h⟩ := bp_cV_s h
    refine bm_callV E hsub hS (va_runV (As := [.int s0]) (rest := []) ⟨hx, hb, hml, hown, htb⟩ (wbm_M_byteOut l E N s0 m H.size m1 hm1) (cwV 1 htb (bp_goodV tw_1123 tw_1125 tw_65 tw_79 tw_1126) rfl rfl rfl ⟨rfl, hd_bm_M_byteOut⟩ ⟨Nat.le_of_ble_eq_true rfl, Nat.le_of_ble_eq_true rfl⟩) (bm_preV E hsub hst hK hP hD hS (bm_gM E m) rfl rfl _) rfl rfl hl.1 rfl (lv_room (Nat.le_of_ble_eq_true rfl)) (dt_bm_M_write 63 rfl) ⟨Nat.zero_le _, Nat.zero_le _⟩) (fun H locs hP hD hS => ?_)
    refine lv_aload_n hx hb (dt_bm_M_write 64 rfl) rfl (lv_at hl 0 rfl) ?_
    refine lv_iload_n hx hb (dt_bm_M_write 65 rfl) rfl (lv_at hl 2 rfl) ?_
    obtain ⟨m2, hm2, h⟩ := bp_cV_s h
    refine bm_callV E hsub hS (va_runV (As := [.int a2]) (rest := []) ⟨hx, hb, hml, hown, htb⟩ (wbm_M_numberOut l E N a2 m1 H.size m2 hm2) (cwV 1 htb (bp_goodV tw_1127 tw_1129 tw_66 tw_79 tw_1130) rfl rfl rfl ⟨rfl, hd_bm_M_numberOut⟩ ⟨Nat.le_of_ble_eq_true rfl, Nat.le_of_ble_eq_true rfl⟩) (bm_preV E hsub hst hK hP hD hS (bm_gM E m1) rfl rfl _) rfl rfl hl.1 rfl (lv_room (Nat.le_of_ble_eq_true rfl)) (dt_bm_M_write 66 rfl) ⟨Nat.zero_le _, Nat.zero_le _⟩) (fun H locs hP hD hS => ?_)
    refine lv_aload_n hx hb (dt_bm_M_write 67 rfl) rfl (lv_at hl 0 rfl) ?_
    refine lv_iload_n hx hb (dt_bm_M_write 68 rfl) rfl (lv_at hl 1 rfl) ?_
    refine lv_bipush (v := 7) hx hb (dt_bm_M_write 69 rfl) (by decide) ?_
    refine lv_icmp_ne (tgt := 129) hx hb (dt_bm_M_write 70 rfl) (by decide) (fun hc => ?_) (fun hc => ?_)
    · replace h := (if_pos hc).symm.trans h
      refine lv_iconst (v := 0) hx hb (dt_bm_M_write 73 rfl) (by decide) ?_
      exact hL130 _ _ h ls H locs (lv_sub hl [0, 1] rfl) hP hD hS
    · replace h := (if_neg (fun hn => hn hc)).symm.trans h
      refine lv_iload_n hx hb (dt_bm_M_write 71 rfl) rfl (lv_at hl 3 rfl) ?_
      refine lv_goto (tgt := 130) hx hb (dt_bm_M_write 72 rfl) (by decide) ?_
      exact hL130 _ _ h ls H locs (lv_sub hl [0, 1] rfl) hP hD hS
  have hL46 : ∀ (s0 : Int32) (m : bp_M), bm_M_write_L46 N a1 a2 a3 s0 m = some (r, mr) → ∀ (ls : Array Slot) (H : Heap) (locs : List Loc), lv_has ls 7 [(0, .ref (E.2.1 0)), (1, .int a1), (2, .int a2), (3, .int a3)] → va_P E.1 bp_cl (bm_W E m) H → va_D A (bm_W E m) → va_S A s.heap H locs → W p l e ({ frames := 3, cells := 0, slots := 0, locals := 66 }) s mt args below meth c H locs 0 0 Q (F0 mt 46 ls [.int s0]) := by
    intro s0 m h ls H locs hl hP hD hS
    rw [bm_M_write_L46] at h
    refine lv_istore hx hb (dt_bm_M_write 24 rfl) hl (Nat.le_of_ble_eq_true rfl) rfl (fun ls hl => ?_)
    have hl : lv_has ls 7 [(4, .int s0), (0, .ref (E.2.1 0)), (1, .int a1), (2, .int a2), (3, .int a3)] := hl
    refine lv_iload hx hb (dt_bm_M_write 25 rfl) (lv_at hl 0 rfl) ?_
    refine lv_if_ne (tgt := 55) hx hb (dt_bm_M_write 26 rfl) (by decide) (fun hc => ?_) (fun hc => ?_)
    · replace h := (if_pos hc).symm.trans h
      refine lv_aload_n hx hb (dt_bm_M_write 29 rfl) rfl (lv_at hl 1 rfl) ?_
      refine va_get (D := E.1) (ci := 10) (v := .ref (E.2.1 20)) (C := "BlockPicturesModel") (T := bF_M) (N := 48) hx hb htb bm_in_M hown hK hP 0 (bm_gM E m) rfl 43 (by decide) (htb _ tw_811) (fun _ h9 => h9) rfl (dt_bm_M_write 30 rfl) ?_
      refine lv_iconst (v := 0) hx hb (dt_bm_M_write 31 rfl) (by decide) ?_
      refine lv_iconst (v := 0) hx hb (dt_bm_M_write 32 rfl) (by decide) ?_
      obtain ⟨hg1, h⟩ := bp_gi_s h
      refine bm_sI E hx hb hK hP hD hS (bm_ga20 E) hg1 (dt_bm_M_write 33 rfl) (fun m2 em2 H locs hP hD hS => ?_)
      replace h := bp_nM_s h em2
      refine lv_aload_n hx hb (dt_bm_M_write 34 rfl) rfl (lv_at hl 1 rfl) ?_
      refine va_get (D := E.1) (ci := 10) (v := .ref (E.2.1 20)) (C := "BlockPicturesModel") (T := bF_M) (N := 48) hx hb htb bm_in_M hown hK hP 0 (bm_gM E m2) rfl 43 (by decide) (htb _ tw_811) (fun _ h9 => h9) rfl (dt_bm_M_write 35 rfl) ?_
      refine lv_iconst (v := 1) hx hb (dt_bm_M_write 36 rfl) (by decide) ?_
      refine lv_iconst (v := 0) hx hb (dt_bm_M_write 37 rfl) (by decide) ?_
      obtain ⟨hg3, h⟩ := bp_gi_s h
      refine bm_sI E hx hb hK hP hD hS (bm_ga20 E) hg3 (dt_bm_M_write 38 rfl) (fun m4 em4 H locs hP hD hS => ?_)
      replace h := bp_nM_s h em4
      refine lv_aload_n hx hb (dt_bm_M_write 39 rfl) rfl (lv_at hl 1 rfl) ?_
      refine va_get (D := E.1) (ci := 10) (v := .ref (E.2.1 20)) (C := "BlockPicturesModel") (T := bF_M) (N := 48) hx hb htb bm_in_M hown hK hP 0 (bm_gM E m4) rfl 43 (by decide) (htb _ tw_811) (fun _ h9 => h9) rfl (dt_bm_M_write 40 rfl) ?_
      refine lv_iconst (v := 2) hx hb (dt_bm_M_write 41 rfl) (by decide) ?_
      refine lv_iconst (v := 1) hx hb (dt_bm_M_write 42 rfl) (by decide) ?_
      obtain ⟨hg5, h⟩ := bp_gi_s h
      refine bm_sI E hx hb hK hP hD hS (bm_ga20 E) hg5 (dt_bm_M_write 43 rfl) (fun m6 em6 H locs hP hD hS => ?_)
      replace h := bp_nM_s h em6
      refine lv_aload_n hx hb (dt_bm_M_write 44 rfl) rfl (lv_at hl 1 rfl) ?_
      refine lv_iconst (v := 3) hx hb (dt_bm_M_write 45 rfl) (by decide) ?_
      refine bm_pM_44 E hx hb htb hown hK hP hD hS (htb _ tw_812) (dt_bm_M_write 46 rfl) (fun m7 em7 H locs hP hD hS => ?_)
      replace h := bp_nM_s h em7
      refine lv_aload_n hx hb (dt_bm_M_write 47 rfl) rfl (lv_at hl 1 rfl) ?_
      refine lv_iconst (v := 0) hx hb (dt_bm_M_write 48 rfl) (by decide) ?_
      refine bm_pM_45 E hx hb htb hown hK hP hD hS (htb _ tw_813) (dt_bm_M_write 49 rfl) (fun m8 em8 H locs hP hD hS => ?_)
      replace h := bp_nM_s h em8
      refine lv_aload_n hx hb (dt_bm_M_write 50 rfl) rfl (lv_at hl 1 rfl) ?_
      refine lv_iconst (v := 0) hx hb (dt_bm_M_write 51 rfl) (by decide) ?_
      refine bm_pM_46 E hx hb htb hown hK hP hD hS (htb _ tw_814) (dt_bm_M_write 52 rfl) (fun m9 em9 H locs hP hD hS => ?_)
      replace h := bp_nM_s h em9
      refine lv_aload_n hx hb (dt_bm_M_write 53 rfl) rfl (lv_at hl 1 rfl) ?_
      refine lv_iconst (v := 0) hx hb (dt_bm_M_write 54 rfl) (by decide) ?_
      refine bm_pM_47 E hx hb htb hown hK hP hD hS (htb _ tw_815) (dt_bm_M_write 55 rfl) (fun m10 em10 H locs hP hD hS => ?_)
      replace h := bp_nM_s h em10
      refine lv_aload_n hx hb (dt_bm_M_write 56 rfl) rfl (lv_at hl 1 rfl) ?_
      refine lv_iload_n hx hb (dt_bm_M_write 57 rfl) rfl (lv_at hl 2 rfl) ?_
      refine lv_bipush (v := 7) hx hb (dt_bm_M_write 58 rfl) (by decide) ?_
      refine lv_icmp_ne (tgt := 108) hx hb (dt_bm_M_write 59 rfl) (by decide) (fun hc => ?_) (fun hc => ?_)
      · replace h := (if_pos hc).symm.trans h
        refine lv_bipush (v := 101) hx hb (dt_bm_M_write 62 rfl) (by decide) ?_
        exact hL110 _ _ h ls H locs (lv_sub hl [1, 2, 3, 4] rfl) hP hD hS
      · replace h := (if_neg (fun hn => hn hc)).symm.trans h
        refine lv_bipush (v := 39) hx hb (dt_bm_M_write 60 rfl) (by decide) ?_
        refine lv_goto (tgt := 110) hx hb (dt_bm_M_write 61 rfl) (by decide) ?_
        exact hL110 _ _ h ls H locs (lv_sub hl [1, 2, 3, 4] rfl) hP hD hS
    · replace h := (if_neg (fun hn => hn hc)).symm.trans h
      refine lv_iconst (v := (-1)) hx hb (dt_bm_M_write 27 rfl) (by decide) ?_
      exact hret _ _ _ _ _ _ h hP hD hS (dt_bm_M_write 28 rfl)
  have hL45 : ∀ (m : bp_M), bm_M_write_L45 N a1 a2 a3 m = some (r, mr) → ∀ (ls : Array Slot) (H : Heap) (locs : List Loc), lv_has ls 7 [(0, .ref (E.2.1 0)), (1, .int a1), (2, .int a2), (3, .int a3)] → va_P E.1 bp_cl (bm_W E m) H → va_D A (bm_W E m) → va_S A s.heap H locs → W p l e ({ frames := 3, cells := 0, slots := 0, locals := 66 }) s mt args below meth c H locs 0 0 Q (F0 mt 45 ls []) := by
    intro m h ls H locs hl hP hD hS
    rw [bm_M_write_L45] at h
    refine lv_iconst (v := 0) hx hb (dt_bm_M_write 23 rfl) (by decide) ?_
    exact hL46 _ _ h ls H locs (lv_sub hl [0, 1, 2, 3] rfl) hP hD hS
  have hL41 : ∀ (m : bp_M), bm_M_write_L41 N a1 a2 a3 m = some (r, mr) → ∀ (ls : Array Slot) (H : Heap) (locs : List Loc), lv_has ls 7 [(0, .ref (E.2.1 0)), (1, .int a1), (2, .int a2), (3, .int a3)] → va_P E.1 bp_cl (bm_W E m) H → va_D A (bm_W E m) → va_S A s.heap H locs → W p l e ({ frames := 3, cells := 0, slots := 0, locals := 66 }) s mt args below meth c H locs 0 0 Q (F0 mt 41 ls []) := by
    intro m h ls H locs hl hP hD hS
    rw [bm_M_write_L41] at h
    refine lv_iconst (v := 1) hx hb (dt_bm_M_write 21 rfl) (by decide) ?_
    refine lv_goto (tgt := 46) hx hb (dt_bm_M_write 22 rfl) (by decide) ?_
    exact hL46 _ _ h ls H locs (lv_sub hl [0, 1, 2, 3] rfl) hP hD hS
  have hL25 : ∀ (m : bp_M), bm_M_write_L25 N a1 a2 a3 m = some (r, mr) → ∀ (ls : Array Slot) (H : Heap) (locs : List Loc), lv_has ls 7 [(0, .ref (E.2.1 0)), (1, .int a1), (2, .int a2), (3, .int a3)] → va_P E.1 bp_cl (bm_W E m) H → va_D A (bm_W E m) → va_S A s.heap H locs → W p l e ({ frames := 3, cells := 0, slots := 0, locals := 66 }) s mt args below meth c H locs 0 0 Q (F0 mt 25 ls []) := by
    intro m h ls H locs hl hP hD hS
    rw [bm_M_write_L25] at h
    refine lv_iload_n hx hb (dt_bm_M_write 13 rfl) rfl (lv_at hl 1 rfl) ?_
    refine lv_iconst (v := 5) hx hb (dt_bm_M_write 14 rfl) (by decide) ?_
    refine lv_icmp_ne (tgt := 45) hx hb (dt_bm_M_write 15 rfl) (by decide) (fun hc => ?_) (fun hc => ?_)
    · replace h := (if_pos hc).symm.trans h
      exact hL45 _ h ls H locs (lv_sub hl [0, 1, 2, 3] rfl) hP hD hS
    · replace h := (if_neg (fun hn => hn hc)).symm.trans h
      refine lv_iload_n hx hb (dt_bm_M_write 16 rfl) rfl (lv_at hl 2 rfl) ?_
      refine lv_iconst (v := 0) hx hb (dt_bm_M_write 17 rfl) (by decide) ?_
      refine lv_sipush (v := 255) hx hb (dt_bm_M_write 18 rfl) (by decide) ?_
      obtain ⟨z2, m1, hm1, h⟩ := bp_cI_s h
      refine bm_callI E hsub hS (va_runS (As := [.int a2, .int 0, .int 255]) (rest := []) ⟨hx, hb, hml, hown, htb⟩ (wbm_M_within l E N a2 0 255 m H.size z2 m1 hm1) (va_cwS 3 htb (bp_goodW tw_917 tw_918 tw_79 tw_919) rfl rfl rfl hd_bm_M_within ⟨Nat.le_of_ble_eq_true rfl, Nat.le_of_ble_eq_true rfl⟩) (bm_preS E hsub hst hK hP hD hS _) rfl rfl hl.1 rfl (lv_room (Nat.le_of_ble_eq_true rfl)) (dt_bm_M_write 19 rfl) ⟨Nat.zero_le _, Nat.zero_le _⟩) (fun H locs hP hD hS => ?_)
      refine lv_if_eq (tgt := 45) hx hb (dt_bm_M_write 20 rfl) (by decide) (fun hc => ?_) (fun hc => ?_)
      · replace h := (if_pos hc).symm.trans h
        exact hL45 _ h ls H locs (lv_sub hl [0, 1, 2, 3] rfl) hP hD hS
      · replace h := (if_neg hc).symm.trans h
        exact hL41 _ h ls H locs (lv_sub hl [0, 1, 2, 3] rfl) hP hD hS
  suffices hgo : ∀ (H : Heap) (locs : List Loc), va_P E.1 bp_cl (bm_W E m) H → va_D A (bm_W E m) → va_S A s.heap H locs → W p l e ({ frames := 3, cells := 0, slots := 0, locals := 66 }) s mt args below meth c H locs 0 0 Q (F0 mt 0 ls []) from hgo _ _ hP hD hS
  clear hP hD hS
  intro H locs hP hD hS
  unfold bm_M_write at h
  refine lv_iload_n hx hb (dt_bm_M_write 0 rfl) rfl (lv_at hl 1 rfl) ?_
  refine lv_bipush (v := 7) hx hb (dt_bm_M_write 1 rfl) (by decide) ?_
  refine lv_icmp_ne (tgt := 25) hx hb (dt_bm_M_write 2 rfl) (by decide) (fun hc => ?_) (fun hc => ?_)
  · replace h := (if_pos hc).symm.trans h
    exact hL25 _ h ls H locs (lv_sub hl [0, 1, 2, 3] rfl) hP hD hS
  · replace h := (if_neg (fun hn => hn hc)).symm.trans h
    refine lv_iload_n hx hb (dt_bm_M_write 3 rfl) rfl (lv_at hl 2 rfl) ?_
    refine lv_iconst (v := 0) hx hb (dt_bm_M_write 4 rfl) (by decide) ?_
    refine lv_iconst (v := 3) hx hb (dt_bm_M_write 5 rfl) (by decide) ?_
    obtain ⟨z2, m1, hm1, h⟩ := bp_cI_s h
    refine bm_callI E hsub hS (va_runS (As := [.int a2, .int 0, .int 3]) (rest := []) ⟨hx, hb, hml, hown, htb⟩ (wbm_M_within l E N a2 0 3 m H.size z2 m1 hm1) (va_cwS 3 htb (bp_goodW tw_917 tw_918 tw_79 tw_919) rfl rfl rfl hd_bm_M_within ⟨Nat.le_of_ble_eq_true rfl, Nat.le_of_ble_eq_true rfl⟩) (bm_preS E hsub hst hK hP hD hS _) rfl rfl hl.1 rfl (lv_room (Nat.le_of_ble_eq_true rfl)) (dt_bm_M_write 6 rfl) ⟨Nat.zero_le _, Nat.zero_le _⟩) (fun H locs hP hD hS => ?_)
    refine lv_if_eq (tgt := 25) hx hb (dt_bm_M_write 7 rfl) (by decide) (fun hc => ?_) (fun hc => ?_)
    · replace h := (if_pos hc).symm.trans h
      exact hL25 _ h ls H locs (lv_sub hl [0, 1, 2, 3] rfl) hP hD hS
    · replace h := (if_neg hc).symm.trans h
      refine lv_iload_n hx hb (dt_bm_M_write 8 rfl) rfl (lv_at hl 3 rfl) ?_
      refine lv_iconst (v := 0) hx hb (dt_bm_M_write 9 rfl) (by decide) ?_
      refine lv_bipush (v := 11) hx hb (dt_bm_M_write 10 rfl) (by decide) ?_
      obtain ⟨z4, m3, hm3, h⟩ := bp_cI_s h
      refine bm_callI E hsub hS (va_runS (As := [.int a3, .int 0, .int 11]) (rest := []) ⟨hx, hb, hml, hown, htb⟩ (wbm_M_within l E N a3 0 11 m1 H.size z4 m3 hm3) (va_cwS 3 htb (bp_goodW tw_917 tw_918 tw_79 tw_919) rfl rfl rfl hd_bm_M_within ⟨Nat.le_of_ble_eq_true rfl, Nat.le_of_ble_eq_true rfl⟩) (bm_preS E hsub hst hK hP hD hS _) rfl rfl hl.1 rfl (lv_room (Nat.le_of_ble_eq_true rfl)) (dt_bm_M_write 11 rfl) ⟨Nat.zero_le _, Nat.zero_le _⟩) (fun H locs hP hD hS => ?_)
      refine lv_if_ne (tgt := 41) hx hb (dt_bm_M_write 12 rfl) (by decide) (fun hc => ?_) (fun hc => ?_)
      · replace h := (if_pos hc).symm.trans h
        exact hL41 _ h ls H locs (lv_sub hl [0, 1, 2, 3] rfl) hP hD hS
      · replace h := (if_neg (fun hn => hn hc)).symm.trans h
        exact hL25 _ h ls H locs (lv_sub hl [0, 1, 2, 3] rfl) hP hD hS

set_option maxHeartbeats 4000000 in
set_option maxRecDepth 100000 in
theorem wbc_BP_heldSample (l : Launch) (E : bc_E) (N : Nat) (a1 : Int32) (a2 : Int32) (m : bp_M) (sz : Nat) (r : Int32) (mr : bp_M)  (h : bc_BP_heldSample N a1 a2 m = some (r, mr)) : Met l y_bc_BP_heldSample (Cond.code y_bc_BP_heldSample prog_1_method_12_code 3 (some .int) :: bp_tb) ({ frames := 0, cells := 0, slots := 0, locals := 0 }) (bc_Pc E m sz [.ref (E.2.1 0), .int a1, .int a2]) (bc_Qi E m sz r mr) 0 0 (va_A (bc_W E m) sz) := by
  refine Met.ofW (cc := prog_1_method_12_code) (maxL := 3) (ret := (some .int)) (by decide) rfl ?_
  intro p e s mt args below meth c s₁ B hml hv
  obtain ⟨rfl, hsz, hP, hK, hD0, hst⟩ := hv
  have hx := B.exec
  have hb := B.bytes
  have hr := B.returns
  have htb : ∀ w ∈ bp_tb, w.before _ s = true := fun w hw => atoms_spec (ws := Cond.code y_bc_BP_heldSample prog_1_method_12_code 3 (some .int) :: bp_tb) B.pre w (List.mem_cons_of_mem _ hw)
  have hown : s.vm.findClass "BlockPictures" = some mt.cls := findClass_of_methodNamed B.named
  have hlocks := B.notSynchronized
  subst hsz
  have hD := hD0.self (sz := s.heap.size)
  generalize hAe : va_A (bc_W E m) s.heap.size = A at hD hst ⊢
  have hsub : ∀ (u : bp_M) (z q : Nat), s.heap.size ≤ z → va_A (bc_W E u) z q → A q := bc_sub hAe
  have hS : va_S A s.heap s.heap [] := va_S.rf
  have hl := lv_entry ([.ref (E.2.1 0), .int a1, .int a2]) (n := 3) (Nat.le_of_ble_eq_true rfl)
  rw [lg_entry_eq]
  generalize (lg_sl ([.ref (E.2.1 0), .int a1, .int a2]) ++ List.replicate (3 - (lg_sl ([.ref (E.2.1 0), .int a1, .int a2])).length) Slot.unset).toArray = ls at hl ⊢
  have hl : lv_has ls 3 [(0, .ref (E.2.1 0)), (1, .int a1), (2, .int a2)] := hl
  refine bc_keyI (R := ({ frames := 0, cells := 0, slots := 0, locals := 0 })) E hx hb hr hlocks hK hAe (fun Q hret => ?_)
  clear B hD0 hlocks hr
  generalize ([.ref (E.2.1 0), .int a1, .int a2] : List Value).toArray = args at htb hret ⊢
  clear hAe
  have hL26 : ∀ (m : bp_M), bc_BP_heldSample_L26 N a1 a2 m = some (r, mr) → ∀ (ls : Array Slot) (H : Heap) (locs : List Loc), lv_has ls 3 [] → va_P E.1 bp_cl (bc_W E m) H → va_D A (bc_W E m) → va_S A s.heap H locs → W p l e ({ frames := 0, cells := 0, slots := 0, locals := 0 }) s mt args below meth c H locs 0 0 Q (F0 mt 26 ls []) := by
    intro m h ls H locs hl hP hD hS
    rw [bc_BP_heldSample_L26] at h
    refine lv_iconst (v := (-1)) hx hb (dt_bc_BP_heldSample 12 rfl) (by decide) ?_
    exact hret _ _ _ _ _ _ h hP hD hS (dt_bc_BP_heldSample 13 rfl)
  suffices hgo : ∀ (H : Heap) (locs : List Loc), va_P E.1 bp_cl (bc_W E m) H → va_D A (bc_W E m) → va_S A s.heap H locs → W p l e ({ frames := 0, cells := 0, slots := 0, locals := 0 }) s mt args below meth c H locs 0 0 Q (F0 mt 0 ls []) from hgo _ _ hP hD hS
  clear hP hD hS
  intro H locs hP hD hS
  unfold bc_BP_heldSample at h
  refine lv_iload_n hx hb (dt_bc_BP_heldSample 0 rfl) rfl (lv_at hl 1 rfl) ?_
  refine lv_if_lt (tgt := 26) hx hb (dt_bc_BP_heldSample 1 rfl) (by decide) (fun hc => ?_) (fun hc => ?_)
  · replace h := (if_pos hc).symm.trans h
    exact hL26 _ h ls H locs (lv_sub hl [] rfl) hP hD hS
  · replace h := (if_neg hc).symm.trans h
    refine lv_iload_n hx hb (dt_bc_BP_heldSample 2 rfl) rfl (lv_at hl 1 rfl) ?_
    refine lv_aload_n hx hb (dt_bc_BP_heldSample 3 rfl) rfl (lv_at hl 0 rfl) ?_
    refine va_get (D := E.1) (ci := 0) (v := .ref (E.2.1 4)) (C := "BlockPictures") (T := bF_BP) (N := 7) hx hb htb bc_in_BP hown hK hP 0 (bc_gBP E m) rfl 3 (by decide) (htb _ tw_362) (fun _ h9 => h9) rfl (dt_bc_BP_heldSample 4 rfl) ?_
    refine va_get (D := E.1) (ci := 4) (v := .int (m.1 4 1)) (C := "BlockPictures$PictureBuffer") (T := bF_PB) (N := 6) hx hb htb bc_in_PB hown hK hP 4 (bc_gPB E m) rfl 1 (by decide) (htb _ tw_310) (fun _ h9 => h9) rfl (dt_bc_BP_heldSample 5 rfl) ?_
    refine lv_icmp_ge (tgt := 26) hx hb (dt_bc_BP_heldSample 6 rfl) (by decide) (fun hc => ?_) (fun hc => ?_)
    · replace h := (if_pos hc).symm.trans h
      exact hL26 _ h ls H locs (lv_sub hl [] rfl) hP hD hS
    · replace h := (if_neg hc).symm.trans h
      refine lv_iload_n hx hb (dt_bc_BP_heldSample 7 rfl) rfl (lv_at hl 2 rfl) ?_
      refine lv_if_lt (tgt := 26) hx hb (dt_bc_BP_heldSample 8 rfl) (by decide) (fun hc => ?_) (fun hc => ?_)
      · replace h := (if_pos hc).symm.trans h
        exact hL26 _ h ls H locs (lv_sub hl [] rfl) hP hD hS
      · replace h := (if_neg hc).symm.trans h
        refine lv_iload_n hx hb (dt_bc_BP_heldSample 9 rfl) rfl (lv_at hl 2 rfl) ?_
        refine lv_sipush (v := 256) hx hb (dt_bc_BP_heldSample 10 rfl) (by decide) ?_
        refine lv_icmp_lt (tgt := 28) hx hb (dt_bc_BP_heldSample 11 rfl) (by decide) (fun hc => ?_) (fun hc => ?_)
        · replace h := (if_pos hc).symm.trans h
          refine lv_aload_n hx hb (dt_bc_BP_heldSample 14 rfl) rfl (lv_at hl 0 rfl) ?_
          refine va_get (D := E.1) (ci := 0) (v := .ref (E.2.1 4)) (C := "BlockPictures") (T := bF_BP) (N := 7) hx hb htb bc_in_BP hown hK hP 0 (bc_gBP E m) rfl 3 (by decide) (htb _ tw_362) (fun _ h9 => h9) rfl (dt_bc_BP_heldSample 15 rfl) ?_
          refine va_get (D := E.1) (ci := 4) (v := .ref (E.2.1 40)) (C := "BlockPictures$PictureBuffer") (T := bF_PB) (N := 6) hx hb htb bc_in_PB hown hK hP 4 (bc_gPB E m) rfl 0 (by decide) (htb _ tw_308) (fun _ h9 => h9) rfl (dt_bc_BP_heldSample 16 rfl) ?_
          refine lv_iload_n hx hb (dt_bc_BP_heldSample 17 rfl) rfl (lv_at hl 1 rfl) ?_
          obtain ⟨hg1, h⟩ := bp_gi_s h
          refine bc_lP E hx hb hK hP (bc_ga40 E) hg1 (dt_bc_BP_heldSample 18 rfl) (fun q2 eq2 => ?_)
          replace h := bp_nN_s h eq2
          obtain ⟨hg3, h⟩ := bp_g_s h
          refine va_get (D := E.1) (ci := 9) (v := .ref (E.2.1 (q2 + 24))) (C := "BlockPictures$Picture") (T := bF_PI) (N := 4) hx hb htb bc_in_PI hown hK hP q2 (bc_gPI E m hg3) rfl 0 (by decide) (htb _ tw_187) (fun _ h9 => h9) rfl (dt_bc_BP_heldSample 19 rfl) ?_
          refine lv_iload_n hx hb (dt_bc_BP_heldSample 20 rfl) rfl (lv_at hl 2 rfl) ?_
          obtain ⟨hg4, h⟩ := bp_gi_s h
          refine bc_lI E hx hb hK hP (bc_gps E hg3) hg4 (dt_bc_BP_heldSample 21 rfl) ?_
          exact hret _ _ _ _ _ _ h hP hD hS (dt_bc_BP_heldSample 22 rfl)
        · replace h := (if_neg hc).symm.trans h
          exact hL26 _ h ls H locs (lv_sub hl [] rfl) hP hD hS
set_option maxHeartbeats 4000000 in
set_option maxRecDepth 100000 in
theorem wbc_BP_vector (l : Launch) (E : bc_E) (N : Nat) (a1 : Int32) (m : bp_M) (sz : Nat) (r : Int32) (mr : bp_M)  (h : bc_BP_vector N a1 m = some (r, mr)) : Met l y_bc_BP_vector (Cond.code y_bc_BP_vector prog_1_method_13_code 2 (some .int) :: bp_tb) ({ frames := 0, cells := 0, slots := 0, locals := 0 }) (bc_Pc E m sz [.ref (E.2.1 0), .int a1]) (bc_Qi E m sz r mr) 0 0 (va_A (bc_W E m) sz) := by
  refine Met.ofW (cc := prog_1_method_13_code) (maxL := 2) (ret := (some .int)) (by decide) rfl ?_
  intro p e s mt args below meth c s₁ B hml hv
  obtain ⟨rfl, hsz, hP, hK, hD0, hst⟩ := hv
  have hx := B.exec
  have hb := B.bytes
  have hr := B.returns
  have htb : ∀ w ∈ bp_tb, w.before _ s = true := fun w hw => atoms_spec (ws := Cond.code y_bc_BP_vector prog_1_method_13_code 2 (some .int) :: bp_tb) B.pre w (List.mem_cons_of_mem _ hw)
  have hown : s.vm.findClass "BlockPictures" = some mt.cls := findClass_of_methodNamed B.named
  have hlocks := B.notSynchronized
  subst hsz
  have hD := hD0.self (sz := s.heap.size)
  generalize hAe : va_A (bc_W E m) s.heap.size = A at hD hst ⊢
  have hsub : ∀ (u : bp_M) (z q : Nat), s.heap.size ≤ z → va_A (bc_W E u) z q → A q := bc_sub hAe
  have hS : va_S A s.heap s.heap [] := va_S.rf
  have hl := lv_entry ([.ref (E.2.1 0), .int a1]) (n := 2) (Nat.le_of_ble_eq_true rfl)
  rw [lg_entry_eq]
  generalize (lg_sl ([.ref (E.2.1 0), .int a1]) ++ List.replicate (2 - (lg_sl ([.ref (E.2.1 0), .int a1])).length) Slot.unset).toArray = ls at hl ⊢
  have hl : lv_has ls 2 [(0, .ref (E.2.1 0)), (1, .int a1)] := hl
  refine bc_keyI (R := ({ frames := 0, cells := 0, slots := 0, locals := 0 })) E hx hb hr hlocks hK hAe (fun Q hret => ?_)
  clear B hD0 hlocks hr
  generalize ([.ref (E.2.1 0), .int a1] : List Value).toArray = args at htb hret ⊢
  clear hAe
  have hL25 : ∀ (m : bp_M), bc_BP_vector_L25 N a1 m = some (r, mr) → ∀ (ls : Array Slot) (H : Heap) (locs : List Loc), lv_has ls 2 [] → va_P E.1 bp_cl (bc_W E m) H → va_D A (bc_W E m) → va_S A s.heap H locs → W p l e ({ frames := 0, cells := 0, slots := 0, locals := 0 }) s mt args below meth c H locs 0 0 Q (F0 mt 25 ls []) := by
    intro m h ls H locs hl hP hD hS
    rw [bc_BP_vector_L25] at h
    refine lv_iconst (v := (-1)) hx hb (dt_bc_BP_vector 12 rfl) (by decide) ?_
    exact hret _ _ _ _ _ _ h hP hD hS (dt_bc_BP_vector 13 rfl)
  suffices hgo : ∀ (H : Heap) (locs : List Loc), va_P E.1 bp_cl (bc_W E m) H → va_D A (bc_W E m) → va_S A s.heap H locs → W p l e ({ frames := 0, cells := 0, slots := 0, locals := 0 }) s mt args below meth c H locs 0 0 Q (F0 mt 0 ls []) from hgo _ _ hP hD hS
  clear hP hD hS
  intro H locs hP hD hS
  unfold bc_BP_vector at h
  refine lv_iload_n hx hb (dt_bc_BP_vector 0 rfl) rfl (lv_at hl 1 rfl) ?_
  refine lv_if_lt (tgt := 25) hx hb (dt_bc_BP_vector 1 rfl) (by decide) (fun hc => ?_) (fun hc => ?_)
  · replace h := (if_pos hc).symm.trans h
    exact hL25 _ h ls H locs (lv_sub hl [] rfl) hP hD hS
  · replace h := (if_neg hc).symm.trans h
    refine lv_iload_n hx hb (dt_bc_BP_vector 2 rfl) rfl (lv_at hl 1 rfl) ?_
    refine lv_bipush (v := 16) hx hb (dt_bc_BP_vector 3 rfl) (by decide) ?_
    refine lv_icmp_ge (tgt := 25) hx hb (dt_bc_BP_vector 4 rfl) (by decide) (fun hc => ?_) (fun hc => ?_)
    · replace h := (if_pos hc).symm.trans h
      exact hL25 _ h ls H locs (lv_sub hl [] rfl) hP hD hS
    · replace h := (if_neg hc).symm.trans h
      refine lv_aload_n hx hb (dt_bc_BP_vector 5 rfl) rfl (lv_at hl 0 rfl) ?_
      refine va_get (D := E.1) (ci := 0) (v := .ref (E.2.1 3)) (C := "BlockPictures") (T := bF_BP) (N := 7) hx hb htb bc_in_BP hown hK hP 0 (bc_gBP E m) rfl 2 (by decide) (htb _ tw_361) (fun _ h9 => h9) rfl (dt_bc_BP_vector 6 rfl) ?_
      refine va_get (D := E.1) (ci := 3) (v := .ref (E.2.1 (m.2 3 2))) (C := "BlockPictures$PictureDecoder") (T := bF_PD) (N := 11) hx hb htb bc_in_PD hown hK hP 3 (bc_gPD E m) rfl 2 (by decide) (htb _ tw_264) (fun _ h9 => h9) rfl (dt_bc_BP_vector 7 rfl) ?_
      refine bp_topr E.2.1 (fun q1 eq1 => ?_)
      replace h := bp_nN_s h eq1
      obtain ⟨hg2, h⟩ := bp_g_s h
      refine va_get (D := E.1) (ci := 8) (v := .ref (E.2.1 (5 * q1 - 16))) (C := "BlockPictures$BlockRows") (T := bF_RO) (N := 6) hx hb htb bc_in_RO hown hK hP q1 (bc_gRO E m hg2) rfl 0 (by decide) (htb _ tw_217) (fun _ h9 => h9) rfl (dt_bc_BP_vector 8 rfl) ?_
      refine lv_iload_n hx hb (dt_bc_BP_vector 9 rfl) rfl (lv_at hl 1 rfl) ?_
      obtain ⟨hg3, h⟩ := bp_gi_s h
      refine bc_lZ E hx hb hK hP (bc_gro0 E hg2) hg3 (dt_bc_BP_vector 10 rfl) ?_
      refine lv_if_ne (tgt := 27) hx hb (dt_bc_BP_vector 11 rfl) (by decide) (fun hc => ?_) (fun hc => ?_)
      · replace h := (if_pos hc).symm.trans h
        refine lv_sipush (v := 256) hx hb (dt_bc_BP_vector 14 rfl) (by decide) ?_
        refine lv_aload_n hx hb (dt_bc_BP_vector 15 rfl) rfl (lv_at hl 0 rfl) ?_
        refine va_get (D := E.1) (ci := 0) (v := .ref (E.2.1 3)) (C := "BlockPictures") (T := bF_BP) (N := 7) hx hb htb bc_in_BP hown hK hP 0 (bc_gBP E m) rfl 2 (by decide) (htb _ tw_361) (fun _ h9 => h9) rfl (dt_bc_BP_vector 16 rfl) ?_
        refine va_get (D := E.1) (ci := 3) (v := .ref (E.2.1 (m.2 3 2))) (C := "BlockPictures$PictureDecoder") (T := bF_PD) (N := 11) hx hb htb bc_in_PD hown hK hP 3 (bc_gPD E m) rfl 2 (by decide) (htb _ tw_264) (fun _ h9 => h9) rfl (dt_bc_BP_vector 17 rfl) ?_
        refine bp_topr E.2.1 (fun q4 eq4 => ?_)
        replace h := bp_nN_s h eq4
        obtain ⟨hg5, h⟩ := bp_g_s h
        refine va_get (D := E.1) (ci := 8) (v := .ref (E.2.1 (5 * q4 - 13))) (C := "BlockPictures$BlockRows") (T := bF_RO) (N := 6) hx hb htb bc_in_RO hown hK hP q4 (bc_gRO E m hg5) rfl 3 (by decide) (htb _ tw_224) (fun _ h9 => h9) rfl (dt_bc_BP_vector 18 rfl) ?_
        refine lv_iload_n hx hb (dt_bc_BP_vector 19 rfl) rfl (lv_at hl 1 rfl) ?_
        obtain ⟨hg6, h⟩ := bp_gi_s h
        refine bc_lI E hx hb hK hP (bc_gro3 E hg5) hg6 (dt_bc_BP_vector 20 rfl) ?_
        refine lv_bipush (v := 64) hx hb (dt_bc_BP_vector 21 rfl) (by decide) ?_
        refine lv_iadd hx hb (dt_bc_BP_vector 22 rfl) ?_
        refine lv_imul hx hb (dt_bc_BP_vector 23 rfl) ?_
        refine lv_aload_n hx hb (dt_bc_BP_vector 24 rfl) rfl (lv_at hl 0 rfl) ?_
        refine va_get (D := E.1) (ci := 0) (v := .ref (E.2.1 3)) (C := "BlockPictures") (T := bF_BP) (N := 7) hx hb htb bc_in_BP hown hK hP 0 (bc_gBP E m) rfl 2 (by decide) (htb _ tw_361) (fun _ h9 => h9) rfl (dt_bc_BP_vector 25 rfl) ?_
        refine va_get (D := E.1) (ci := 3) (v := .ref (E.2.1 (m.2 3 2))) (C := "BlockPictures$PictureDecoder") (T := bF_PD) (N := 11) hx hb htb bc_in_PD hown hK hP 3 (bc_gPD E m) rfl 2 (by decide) (htb _ tw_264) (fun _ h9 => h9) rfl (dt_bc_BP_vector 26 rfl) ?_
        refine bp_topr E.2.1 (fun q7 eq7 => ?_)
        replace h := bp_nN_s h eq7
        obtain ⟨hg8, h⟩ := bp_g_s h
        refine va_get (D := E.1) (ci := 8) (v := .ref (E.2.1 (5 * q7 - 12))) (C := "BlockPictures$BlockRows") (T := bF_RO) (N := 6) hx hb htb bc_in_RO hown hK hP q7 (bc_gRO E m hg8) rfl 4 (by decide) (htb _ tw_227) (fun _ h9 => h9) rfl (dt_bc_BP_vector 27 rfl) ?_
        refine lv_iload_n hx hb (dt_bc_BP_vector 28 rfl) rfl (lv_at hl 1 rfl) ?_
        obtain ⟨hg9, h⟩ := bp_gi_s h
        refine bc_lI E hx hb hK hP (bc_gro4 E hg8) hg9 (dt_bc_BP_vector 29 rfl) ?_
        refine lv_iadd hx hb (dt_bc_BP_vector 30 rfl) ?_
        refine lv_bipush (v := 64) hx hb (dt_bc_BP_vector 31 rfl) (by decide) ?_
        refine lv_iadd hx hb (dt_bc_BP_vector 32 rfl) ?_
        exact hret _ _ _ _ _ _ h hP hD hS (dt_bc_BP_vector 33 rfl)
      · replace h := (if_neg (fun hn => hn hc)).symm.trans h
        exact hL25 _ h ls H locs (lv_sub hl [] rfl) hP hD hS
set_option maxHeartbeats 4000000 in
set_option maxRecDepth 100000 in
theorem wbc_BP_smoothed (l : Launch) (E : bc_E) (N : Nat)  (m : bp_M) (sz : Nat) (r : Int32) (mr : bp_M)  (h : bc_BP_smoothed N m = some (r, mr)) : Met l y_bc_BP_smoothed (Cond.code y_bc_BP_smoothed prog_1_method_14_code 1 (some .int) :: bp_tb) ({ frames := 0, cells := 0, slots := 0, locals := 0 }) (bc_Pc E m sz [.ref (E.2.1 0)]) (bc_Qi E m sz r mr) 0 0 (va_A (bc_W E m) sz) := by
  refine Met.ofW (cc := prog_1_method_14_code) (maxL := 1) (ret := (some .int)) (by decide) rfl ?_
  intro p e s mt args below meth c s₁ B hml hv
  obtain ⟨rfl, hsz, hP, hK, hD0, hst⟩ := hv
  have hx := B.exec
  have hb := B.bytes
  have hr := B.returns
  have htb : ∀ w ∈ bp_tb, w.before _ s = true := fun w hw => atoms_spec (ws := Cond.code y_bc_BP_smoothed prog_1_method_14_code 1 (some .int) :: bp_tb) B.pre w (List.mem_cons_of_mem _ hw)
  have hown : s.vm.findClass "BlockPictures" = some mt.cls := findClass_of_methodNamed B.named
  have hlocks := B.notSynchronized
  subst hsz
  have hD := hD0.self (sz := s.heap.size)
  generalize hAe : va_A (bc_W E m) s.heap.size = A at hD hst ⊢
  have hsub : ∀ (u : bp_M) (z q : Nat), s.heap.size ≤ z → va_A (bc_W E u) z q → A q := bc_sub hAe
  have hS : va_S A s.heap s.heap [] := va_S.rf
  have hl := lv_entry ([.ref (E.2.1 0)]) (n := 1) (Nat.le_of_ble_eq_true rfl)
  rw [lg_entry_eq]
  generalize (lg_sl ([.ref (E.2.1 0)]) ++ List.replicate (1 - (lg_sl ([.ref (E.2.1 0)])).length) Slot.unset).toArray = ls at hl ⊢
  have hl : lv_has ls 1 [(0, .ref (E.2.1 0))] := hl
  refine bc_keyI (R := ({ frames := 0, cells := 0, slots := 0, locals := 0 })) E hx hb hr hlocks hK hAe (fun Q hret => ?_)
  clear B hD0 hlocks hr
  generalize ([.ref (E.2.1 0)] : List Value).toArray = args at htb hret ⊢
  clear hAe
  suffices hgo : ∀ (H : Heap) (locs : List Loc), va_P E.1 bp_cl (bc_W E m) H → va_D A (bc_W E m) → va_S A s.heap H locs → W p l e ({ frames := 0, cells := 0, slots := 0, locals := 0 }) s mt args below meth c H locs 0 0 Q (F0 mt 0 ls []) from hgo _ _ hP hD hS
  clear hP hD hS
  intro H locs hP hD hS
  unfold bc_BP_smoothed at h
  refine lv_aload_n hx hb (dt_bc_BP_smoothed 0 rfl) rfl (lv_at hl 0 rfl) ?_
  refine va_get (D := E.1) (ci := 0) (v := .ref (E.2.1 3)) (C := "BlockPictures") (T := bF_BP) (N := 7) hx hb htb bc_in_BP hown hK hP 0 (bc_gBP E m) rfl 2 (by decide) (htb _ tw_361) (fun _ h9 => h9) rfl (dt_bc_BP_smoothed 1 rfl) ?_
  refine va_get (D := E.1) (ci := 3) (v := .ref (E.2.1 (m.2 3 2))) (C := "BlockPictures$PictureDecoder") (T := bF_PD) (N := 11) hx hb htb bc_in_PD hown hK hP 3 (bc_gPD E m) rfl 2 (by decide) (htb _ tw_264) (fun _ h9 => h9) rfl (dt_bc_BP_smoothed 2 rfl) ?_
  refine bp_topr E.2.1 (fun q1 eq1 => ?_)
  replace h := bp_nN_s h eq1
  obtain ⟨hg2, h⟩ := bp_g_s h
  refine va_get (D := E.1) (ci := 8) (v := .int (m.1 q1 5)) (C := "BlockPictures$BlockRows") (T := bF_RO) (N := 6) hx hb htb bc_in_RO hown hK hP q1 (bc_gRO E m hg2) rfl 5 (by decide) (htb _ tw_229) (fun _ h9 => h9) rfl (dt_bc_BP_smoothed 3 rfl) ?_
  exact hret _ _ _ _ _ _ h hP hD hS (dt_bc_BP_smoothed 4 rfl)
set_option maxHeartbeats 4000000 in
set_option maxRecDepth 100000 in
theorem wbc_BP_draw (l : Launch) (E : bc_E) (N : Nat) (a1 : Int32) (a2 : Int32) (m : bp_M) (sz : Nat) (r : Int32) (mr : bp_M)  (h : bc_BP_draw N a1 a2 m = some (r, mr)) : Met l y_bc_BP_draw (Cond.code y_bc_BP_draw prog_1_method_15_code 3 (some .boolean) :: bp_tb) ({ frames := 0, cells := 0, slots := 0, locals := 0 }) (bc_Pc E m sz [.ref (E.2.1 0), .int a1, .int a2]) (bc_Qi E m sz r mr) 0 0 (va_A (bc_W E m) sz) := by
  refine Met.ofW (cc := prog_1_method_15_code) (maxL := 3) (ret := (some .boolean)) (by decide) rfl ?_
  intro p e s mt args below meth c s₁ B hml hv
  obtain ⟨rfl, hsz, hP, hK, hD0, hst⟩ := hv
  have hx := B.exec
  have hb := B.bytes
  have hr := B.returns
  have htb : ∀ w ∈ bp_tb, w.before _ s = true := fun w hw => atoms_spec (ws := Cond.code y_bc_BP_draw prog_1_method_15_code 3 (some .boolean) :: bp_tb) B.pre w (List.mem_cons_of_mem _ hw)
  have hown : s.vm.findClass "BlockPictures" = some mt.cls := findClass_of_methodNamed B.named
  have hlocks := B.notSynchronized
  subst hsz
  have hD := hD0.self (sz := s.heap.size)
  generalize hAe : va_A (bc_W E m) s.heap.size = A at hD hst ⊢
  have hsub : ∀ (u : bp_M) (z q : Nat), s.heap.size ≤ z → va_A (bc_W E u) z q → A q := bc_sub hAe
  have hS : va_S A s.heap s.heap [] := va_S.rf
  have hl := lv_entry ([.ref (E.2.1 0), .int a1, .int a2]) (n := 3) (Nat.le_of_ble_eq_true rfl)
  rw [lg_entry_eq]
  generalize (lg_sl ([.ref (E.2.1 0), .int a1, .int a2]) ++ List.replicate (3 - (lg_sl ([.ref (E.2.1 0), .int a1, .int a2])).length) Slot.unset).toArray = ls at hl ⊢
  have hl : lv_has ls 3 [(0, .ref (E.2.1 0)), (1, .int a1), (2, .int a2)] := hl
  refine bc_keyZ (R := ({ frames := 0, cells := 0, slots := 0, locals := 0 })) E hx hb hr hlocks hK hAe (fun Q hret => ?_)
  clear B hD0 hlocks hr
  generalize ([.ref (E.2.1 0), .int a1, .int a2] : List Value).toArray = args at htb hret ⊢
  clear hAe
  have hL22 : ∀ (m : bp_M), bc_BP_draw_L22 N a1 a2 m = some (r, mr) → ∀ (ls : Array Slot) (H : Heap) (locs : List Loc), lv_has ls 3 [] → va_P E.1 bp_cl (bc_W E m) H → va_D A (bc_W E m) → va_S A s.heap H locs → W p l e ({ frames := 0, cells := 0, slots := 0, locals := 0 }) s mt args below meth c H locs 0 0 Q (F0 mt 22 ls []) := by
    intro m h ls H locs hl hP hD hS
    rw [bc_BP_draw_L22] at h
    refine lv_iconst (v := 0) hx hb (dt_bc_BP_draw 10 rfl) (by decide) ?_
    obtain ⟨hg1, h⟩ := bp_g_s h
    exact hret _ _ _ _ _ _ hg1 h hP hD hS (dt_bc_BP_draw 11 rfl)
  suffices hgo : ∀ (H : Heap) (locs : List Loc), va_P E.1 bp_cl (bc_W E m) H → va_D A (bc_W E m) → va_S A s.heap H locs → W p l e ({ frames := 0, cells := 0, slots := 0, locals := 0 }) s mt args below meth c H locs 0 0 Q (F0 mt 0 ls []) from hgo _ _ hP hD hS
  clear hP hD hS
  intro H locs hP hD hS
  unfold bc_BP_draw at h
  refine lv_iload_n hx hb (dt_bc_BP_draw 0 rfl) rfl (lv_at hl 1 rfl) ?_
  refine lv_if_lt (tgt := 22) hx hb (dt_bc_BP_draw 1 rfl) (by decide) (fun hc => ?_) (fun hc => ?_)
  · replace h := (if_pos hc).symm.trans h
    exact hL22 _ h ls H locs (lv_sub hl [] rfl) hP hD hS
  · replace h := (if_neg hc).symm.trans h
    refine lv_iload_n hx hb (dt_bc_BP_draw 2 rfl) rfl (lv_at hl 1 rfl) ?_
    refine lv_sipush (v := 256) hx hb (dt_bc_BP_draw 3 rfl) (by decide) ?_
    refine lv_icmp_ge (tgt := 22) hx hb (dt_bc_BP_draw 4 rfl) (by decide) (fun hc => ?_) (fun hc => ?_)
    · replace h := (if_pos hc).symm.trans h
      exact hL22 _ h ls H locs (lv_sub hl [] rfl) hP hD hS
    · replace h := (if_neg hc).symm.trans h
      refine lv_iload_n hx hb (dt_bc_BP_draw 5 rfl) rfl (lv_at hl 2 rfl) ?_
      refine lv_if_lt (tgt := 22) hx hb (dt_bc_BP_draw 6 rfl) (by decide) (fun hc => ?_) (fun hc => ?_)
      · replace h := (if_pos hc).symm.trans h
        exact hL22 _ h ls H locs (lv_sub hl [] rfl) hP hD hS
      · replace h := (if_neg hc).symm.trans h
        refine lv_iload_n hx hb (dt_bc_BP_draw 7 rfl) rfl (lv_at hl 2 rfl) ?_
        refine lv_sipush (v := 255) hx hb (dt_bc_BP_draw 8 rfl) (by decide) ?_
        refine lv_icmp_le (tgt := 24) hx hb (dt_bc_BP_draw 9 rfl) (by decide) (fun hc => ?_) (fun hc => ?_)
        · replace h := (if_pos hc).symm.trans h
          refine lv_aload_n hx hb (dt_bc_BP_draw 12 rfl) rfl (lv_at hl 0 rfl) ?_
          refine va_get (D := E.1) (ci := 0) (v := .ref (E.2.1 5)) (C := "BlockPictures") (T := bF_BP) (N := 7) hx hb htb bc_in_BP hown hK hP 0 (bc_gBP E m) rfl 4 (by decide) (htb _ tw_363) (fun _ h9 => h9) rfl (dt_bc_BP_draw 13 rfl) ?_
          refine va_get (D := E.1) (ci := 5) (v := .ref (E.2.1 22)) (C := "BlockPictures$UnitWriter") (T := bF_UW) (N := 6) hx hb htb bc_in_UW hown hK hP 5 (bc_gUW E m) rfl 0 (by decide) (htb _ tw_338) (fun _ h9 => h9) rfl (dt_bc_BP_draw 14 rfl) ?_
          refine lv_iload_n hx hb (dt_bc_BP_draw 15 rfl) rfl (lv_at hl 1 rfl) ?_
          refine lv_iload_n hx hb (dt_bc_BP_draw 16 rfl) rfl (lv_at hl 2 rfl) ?_
          obtain ⟨hg1, h⟩ := bp_gi_s h
          refine bc_sI E hx hb hK hP hD hS (bc_ga22 E) hg1 (dt_bc_BP_draw 17 rfl) (fun m2 em2 H locs hP hD hS => ?_)
          replace h := bp_nM_s h em2
          refine lv_iconst (v := 1) hx hb (dt_bc_BP_draw 18 rfl) (by decide) ?_
          obtain ⟨hg3, h⟩ := bp_g_s h
          exact hret _ _ _ _ _ _ hg3 h hP hD hS (dt_bc_BP_draw 19 rfl)
        · replace h := (if_neg hc).symm.trans h
          exact hL22 _ h ls H locs (lv_sub hl [] rfl) hP hD hS
set_option maxHeartbeats 4000000 in
set_option maxRecDepth 100000 in
theorem wbc_UW_append (l : Launch) (E : bc_E) (N : Nat) (a1 : Int32) (m : bp_M) (sz : Nat) (mr : bp_M)  (h : bc_UW_append N a1 m = some mr) : Met l y_bc_UW_append (Cond.code y_bc_UW_append prog_11_method_9_code 2 none :: bp_tb) ({ frames := 0, cells := 0, slots := 0, locals := 0 }) (bc_Pc E m sz [.ref (E.2.1 5), .int a1]) (bc_Qv E m sz mr) 0 0 (va_A (bc_W E m) sz) := by
  refine Met.ofW (cc := prog_11_method_9_code) (maxL := 2) (ret := none) (by decide) rfl ?_
  intro p e s mt args below meth c s₁ B hml hv
  obtain ⟨rfl, hsz, hP, hK, hD0, hst⟩ := hv
  have hx := B.exec
  have hb := B.bytes
  have hr := B.returns
  have htb : ∀ w ∈ bp_tb, w.before _ s = true := fun w hw => atoms_spec (ws := Cond.code y_bc_UW_append prog_11_method_9_code 2 none :: bp_tb) B.pre w (List.mem_cons_of_mem _ hw)
  have hown : s.vm.findClass "BlockPictures$UnitWriter" = some mt.cls := findClass_of_methodNamed B.named
  have hlocks := B.notSynchronized
  subst hsz
  have hD := hD0.self (sz := s.heap.size)
  generalize hAe : va_A (bc_W E m) s.heap.size = A at hD hst ⊢
  have hsub : ∀ (u : bp_M) (z q : Nat), s.heap.size ≤ z → va_A (bc_W E u) z q → A q := bc_sub hAe
  have hS : va_S A s.heap s.heap [] := va_S.rf
  have hl := lv_entry ([.ref (E.2.1 5), .int a1]) (n := 2) (Nat.le_of_ble_eq_true rfl)
  rw [lg_entry_eq]
  generalize (lg_sl ([.ref (E.2.1 5), .int a1]) ++ List.replicate (2 - (lg_sl ([.ref (E.2.1 5), .int a1])).length) Slot.unset).toArray = ls at hl ⊢
  have hl : lv_has ls 2 [(0, .ref (E.2.1 5)), (1, .int a1)] := hl
  refine bc_keyV (R := ({ frames := 0, cells := 0, slots := 0, locals := 0 })) E hx hb hr hlocks hK hAe (fun Q hret => ?_)
  clear B hD0 hlocks hr
  generalize ([.ref (E.2.1 5), .int a1] : List Value).toArray = args at htb hret ⊢
  clear hAe
  have hL45 : ∀ (s0 : Int32) (m : bp_M), bc_UW_append_L45 N a1 s0 m = some mr → ∀ (ls : Array Slot) (H : Heap) (locs : List Loc), lv_has ls 2 [] → va_P E.1 bp_cl (bc_W E m) H → va_D A (bc_W E m) → va_S A s.heap H locs → W p l e ({ frames := 0, cells := 0, slots := 0, locals := 0 }) s mt args below meth c H locs 0 0 Q (F0 mt 45 ls [.int s0, .ref (E.2.1 5)]) := by
    intro s0 m h ls H locs hl hP hD hS
    rw [bc_UW_append_L45] at h
    refine bc_pUW_3 E hx hb htb hown hK hP hD hS (htb _ tw_343) (dt_bc_UW_append 25 rfl) (fun m1 em1 H locs hP hD hS => ?_)
    replace h := bp_nM_s h em1
    exact hret _ _ _ _ _ h hP hD hS (dt_bc_UW_append 26 rfl)
  have hL30 : ∀ (m : bp_M), bc_UW_append_L30 N a1 m = some mr → ∀ (ls : Array Slot) (H : Heap) (locs : List Loc), lv_has ls 2 [(0, .ref (E.2.1 5)), (1, .int a1)] → va_P E.1 bp_cl (bc_W E m) H → va_D A (bc_W E m) → va_S A s.heap H locs → W p l e ({ frames := 0, cells := 0, slots := 0, locals := 0 }) s mt args below meth c H locs 0 0 Q (F0 mt 30 ls []) := by
    intro m h ls H locs hl hP hD hS
    rw [bc_UW_append_L30] at h
    refine lv_aload_n hx hb (dt_bc_UW_append 16 rfl) rfl (lv_at hl 0 rfl) ?_
    refine lv_iload_n hx hb (dt_bc_UW_append 17 rfl) rfl (lv_at hl 1 rfl) ?_
    refine lv_if_ne (tgt := 44) hx hb (dt_bc_UW_append 18 rfl) (by decide) (fun hc => ?_) (fun hc => ?_)
    · replace h := (if_pos hc).symm.trans h
      refine lv_iconst (v := 0) hx hb (dt_bc_UW_append 24 rfl) (by decide) ?_
      exact hL45 _ _ h ls H locs (lv_sub hl [] rfl) hP hD hS
    · replace h := (if_neg (fun hn => hn hc)).symm.trans h
      refine lv_aload_n hx hb (dt_bc_UW_append 19 rfl) rfl (lv_at hl 0 rfl) ?_
      refine va_get (D := E.1) (ci := 5) (v := .int (m.1 5 3)) (C := "BlockPictures$UnitWriter") (T := bF_UW) (N := 6) hx hb htb bc_in_UW hown hK hP 5 (bc_gUW E m) rfl 3 (by decide) (htb _ tw_343) (fun _ h9 => h9) rfl (dt_bc_UW_append 20 rfl) ?_
      refine lv_iconst (v := 1) hx hb (dt_bc_UW_append 21 rfl) (by decide) ?_
      refine lv_iadd hx hb (dt_bc_UW_append 22 rfl) ?_
      refine lv_goto (tgt := 45) hx hb (dt_bc_UW_append 23 rfl) (by decide) ?_
      exact hL45 _ _ h ls H locs (lv_sub hl [] rfl) hP hD hS
  suffices hgo : ∀ (H : Heap) (locs : List Loc), va_P E.1 bp_cl (bc_W E m) H → va_D A (bc_W E m) → va_S A s.heap H locs → W p l e ({ frames := 0, cells := 0, slots := 0, locals := 0 }) s mt args below meth c H locs 0 0 Q (F0 mt 0 ls []) from hgo _ _ hP hD hS
  clear hP hD hS
  intro H locs hP hD hS
  unfold bc_UW_append at h
  refine lv_aload_n hx hb (dt_bc_UW_append 0 rfl) rfl (lv_at hl 0 rfl) ?_
  refine va_get (D := E.1) (ci := 5) (v := .int (m.1 5 2)) (C := "BlockPictures$UnitWriter") (T := bF_UW) (N := 6) hx hb htb bc_in_UW hown hK hP 5 (bc_gUW E m) rfl 2 (by decide) (htb _ tw_341) (fun _ h9 => h9) rfl (dt_bc_UW_append 1 rfl) ?_
  refine lv_sipush (v := 400) hx hb (dt_bc_UW_append 2 rfl) (by decide) ?_
  refine lv_icmp_ge (tgt := 30) hx hb (dt_bc_UW_append 3 rfl) (by decide) (fun hc => ?_) (fun hc => ?_)
  · replace h := (if_pos hc).symm.trans h
    exact hL30 _ h ls H locs (lv_sub hl [0, 1] rfl) hP hD hS
  · replace h := (if_neg hc).symm.trans h
    refine lv_aload_n hx hb (dt_bc_UW_append 4 rfl) rfl (lv_at hl 0 rfl) ?_
    refine va_get (D := E.1) (ci := 5) (v := .ref (E.2.1 23)) (C := "BlockPictures$UnitWriter") (T := bF_UW) (N := 6) hx hb htb bc_in_UW hown hK hP 5 (bc_gUW E m) rfl 1 (by decide) (htb _ tw_339) (fun _ h9 => h9) rfl (dt_bc_UW_append 5 rfl) ?_
    refine lv_aload_n hx hb (dt_bc_UW_append 6 rfl) rfl (lv_at hl 0 rfl) ?_
    refine va_get (D := E.1) (ci := 5) (v := .int (m.1 5 2)) (C := "BlockPictures$UnitWriter") (T := bF_UW) (N := 6) hx hb htb bc_in_UW hown hK hP 5 (bc_gUW E m) rfl 2 (by decide) (htb _ tw_341) (fun _ h9 => h9) rfl (dt_bc_UW_append 7 rfl) ?_
    refine lv_iload_n hx hb (dt_bc_UW_append 8 rfl) rfl (lv_at hl 1 rfl) ?_
    obtain ⟨hg1, h⟩ := bp_gi_s h
    refine bc_sI E hx hb hK hP hD hS (bc_ga23 E) hg1 (dt_bc_UW_append 9 rfl) (fun m2 em2 H locs hP hD hS => ?_)
    replace h := bp_nM_s h em2
    refine lv_aload_n hx hb (dt_bc_UW_append 10 rfl) rfl (lv_at hl 0 rfl) ?_
    refine lv_dup hx hb (dt_bc_UW_append 11 rfl) rfl ?_
    refine va_get (D := E.1) (ci := 5) (v := .int (m2.1 5 2)) (C := "BlockPictures$UnitWriter") (T := bF_UW) (N := 6) hx hb htb bc_in_UW hown hK hP 5 (bc_gUW E m2) rfl 2 (by decide) (htb _ tw_341) (fun _ h9 => h9) rfl (dt_bc_UW_append 12 rfl) ?_
    refine lv_iconst (v := 1) hx hb (dt_bc_UW_append 13 rfl) (by decide) ?_
    refine lv_iadd hx hb (dt_bc_UW_append 14 rfl) ?_
    refine bc_pUW_2 E hx hb htb hown hK hP hD hS (htb _ tw_341) (dt_bc_UW_append 15 rfl) (fun m3 em3 H locs hP hD hS => ?_)
    replace h := bp_nM_s h em3
    exact hL30 _ h ls H locs (lv_sub hl [0, 1] rfl) hP hD hS
set_option maxHeartbeats 4000000 in
set_option maxRecDepth 100000 in
theorem wbc_UW_putByte (l : Launch) (E : bc_E) (N : Nat) (a1 : Int32) (m : bp_M) (sz : Nat) (mr : bp_M)  (h : bc_UW_putByte N a1 m = some mr) : Met l y_bc_UW_putByte (Cond.code y_bc_UW_putByte prog_11_method_8_code 2 none :: bp_tb) ({ frames := 1, cells := 0, slots := 0, locals := 21 }) (bc_Pc E m sz [.ref (E.2.1 5), .int a1]) (bc_Qv E m sz mr) 0 0 (va_A (bc_W E m) sz) := by
  refine Met.ofW (cc := prog_11_method_8_code) (maxL := 2) (ret := none) (by decide) rfl ?_
  intro p e s mt args below meth c s₁ B hml hv
  obtain ⟨rfl, hsz, hP, hK, hD0, hst⟩ := hv
  have hx := B.exec
  have hb := B.bytes
  have hr := B.returns
  have htb : ∀ w ∈ bp_tb, w.before _ s = true := fun w hw => atoms_spec (ws := Cond.code y_bc_UW_putByte prog_11_method_8_code 2 none :: bp_tb) B.pre w (List.mem_cons_of_mem _ hw)
  have hown : s.vm.findClass "BlockPictures$UnitWriter" = some mt.cls := findClass_of_methodNamed B.named
  have hlocks := B.notSynchronized
  subst hsz
  have hD := hD0.self (sz := s.heap.size)
  generalize hAe : va_A (bc_W E m) s.heap.size = A at hD hst ⊢
  have hsub : ∀ (u : bp_M) (z q : Nat), s.heap.size ≤ z → va_A (bc_W E u) z q → A q := bc_sub hAe
  have hS : va_S A s.heap s.heap [] := va_S.rf
  have hl := lv_entry ([.ref (E.2.1 5), .int a1]) (n := 2) (Nat.le_of_ble_eq_true rfl)
  rw [lg_entry_eq]
  generalize (lg_sl ([.ref (E.2.1 5), .int a1]) ++ List.replicate (2 - (lg_sl ([.ref (E.2.1 5), .int a1])).length) Slot.unset).toArray = ls at hl ⊢
  have hl : lv_has ls 2 [(0, .ref (E.2.1 5)), (1, .int a1)] := hl
  refine bc_keyV (R := ({ frames := 1, cells := 0, slots := 0, locals := 21 })) E hx hb hr hlocks hK hAe (fun Q hret => ?_)
  clear B hD0 hlocks hr
  generalize ([.ref (E.2.1 5), .int a1] : List Value).toArray = args at htb hret ⊢
  clear hAe
  have hL18 : ∀ (m : bp_M), bc_UW_putByte_L18 N a1 m = some mr → ∀ (ls : Array Slot) (H : Heap) (locs : List Loc), lv_has ls 2 [(0, .ref (E.2.1 5)), (1, .int a1)] → va_P E.1 bp_cl (bc_W E m) H → va_D A (bc_W E m) → va_S A s.heap H locs → W p l e ({ frames := 1, cells := 0, slots := 0, locals := 21 }) s mt args below meth c H locs 0 0 Q (F0 mt 18 ls []) := by
    intro m h ls H locs hl hP hD hS
    rw [bc_UW_putByte_L18] at h
    refine lv_aload_n hx hb (dt_bc_UW_putByte 10 rfl) rfl (lv_at hl 0 rfl) ?_
    refine lv_iload_n hx hb (dt_bc_UW_putByte 11 rfl) rfl (lv_at hl 1 rfl) ?_
    obtain ⟨m1, hm1, h⟩ := bp_cV_s h
    refine bc_callV E hsub hS (va_runV (As := [.int a1]) (rest := []) ⟨hx, hb, hml, hown, htb⟩ (wbc_UW_append l E N a1 m H.size m1 hm1) (cwV 1 htb (bp_goodV tw_733 tw_735 tw_29 tw_78 tw_736) rfl rfl rfl ⟨rfl, hd_bc_UW_append⟩ ⟨Nat.le_of_ble_eq_true rfl, Nat.le_of_ble_eq_true rfl⟩) (bc_preV E hsub hst hK hP hD hS (bc_gUW E m) rfl rfl _) rfl rfl hl.1 rfl (lv_room (Nat.le_of_ble_eq_true rfl)) (dt_bc_UW_putByte 12 rfl) ⟨Nat.zero_le _, Nat.zero_le _⟩) (fun H locs hP hD hS => ?_)
    exact hret _ _ _ _ _ h hP hD hS (dt_bc_UW_putByte 13 rfl)
  suffices hgo : ∀ (H : Heap) (locs : List Loc), va_P E.1 bp_cl (bc_W E m) H → va_D A (bc_W E m) → va_S A s.heap H locs → W p l e ({ frames := 1, cells := 0, slots := 0, locals := 21 }) s mt args below meth c H locs 0 0 Q (F0 mt 0 ls []) from hgo _ _ hP hD hS
  clear hP hD hS
  intro H locs hP hD hS
  unfold bc_UW_putByte at h
  refine lv_aload_n hx hb (dt_bc_UW_putByte 0 rfl) rfl (lv_at hl 0 rfl) ?_
  refine va_get (D := E.1) (ci := 5) (v := .int (m.1 5 3)) (C := "BlockPictures$UnitWriter") (T := bF_UW) (N := 6) hx hb htb bc_in_UW hown hK hP 5 (bc_gUW E m) rfl 3 (by decide) (htb _ tw_343) (fun _ h9 => h9) rfl (dt_bc_UW_putByte 1 rfl) ?_
  refine lv_iconst (v := 2) hx hb (dt_bc_UW_putByte 2 rfl) (by decide) ?_
  refine lv_icmp_ne (tgt := 18) hx hb (dt_bc_UW_putByte 3 rfl) (by decide) (fun hc => ?_) (fun hc => ?_)
  · replace h := (if_pos hc).symm.trans h
    exact hL18 _ h ls H locs (lv_sub hl [0, 1] rfl) hP hD hS
  · replace h := (if_neg (fun hn => hn hc)).symm.trans h
    refine lv_iload_n hx hb (dt_bc_UW_putByte 4 rfl) rfl (lv_at hl 1 rfl) ?_
    refine lv_iconst (v := 3) hx hb (dt_bc_UW_putByte 5 rfl) (by decide) ?_
    refine lv_icmp_gt (tgt := 18) hx hb (dt_bc_UW_putByte 6 rfl) (by decide) (fun hc => ?_) (fun hc => ?_)
    · replace h := (if_pos hc).symm.trans h
      exact hL18 _ h ls H locs (lv_sub hl [0, 1] rfl) hP hD hS
    · replace h := (if_neg hc).symm.trans h
      refine lv_aload_n hx hb (dt_bc_UW_putByte 7 rfl) rfl (lv_at hl 0 rfl) ?_
      refine lv_iconst (v := 3) hx hb (dt_bc_UW_putByte 8 rfl) (by decide) ?_
      obtain ⟨m1, hm1, h⟩ := bp_cV_s h
      refine bc_callV E hsub hS (va_runV (As := [.int 3]) (rest := []) ⟨hx, hb, hml, hown, htb⟩ (wbc_UW_append l E N 3 m H.size m1 hm1) (cwV 1 htb (bp_goodV tw_733 tw_735 tw_29 tw_78 tw_736) rfl rfl rfl ⟨rfl, hd_bc_UW_append⟩ ⟨Nat.le_of_ble_eq_true rfl, Nat.le_of_ble_eq_true rfl⟩) (bc_preV E hsub hst hK hP hD hS (bc_gUW E m) rfl rfl _) rfl rfl hl.1 rfl (lv_room (Nat.le_of_ble_eq_true rfl)) (dt_bc_UW_putByte 9 rfl) ⟨Nat.zero_le _, Nat.zero_le _⟩) (fun H locs hP hD hS => ?_)
      exact hL18 _ h ls H locs (lv_sub hl [0, 1] rfl) hP hD hS
set_option maxHeartbeats 4000000 in
set_option maxRecDepth 100000 in
theorem wbc_UW_putBits (l : Launch) (E : bc_E) (N : Nat) (a1 : Int32) (a2 : Int32) (m : bp_M) (sz : Nat) (mr : bp_M)  (h : bc_UW_putBits N a1 a2 m = some mr) : Met l y_bc_UW_putBits (Cond.code y_bc_UW_putBits prog_11_method_7_code 4 none :: bp_tb) ({ frames := 2, cells := 0, slots := 0, locals := 42 }) (bc_Pc E m sz [.ref (E.2.1 5), .int a1, .int a2]) (bc_Qv E m sz mr) 0 0 (va_A (bc_W E m) sz) := by
  refine Met.ofW (cc := prog_11_method_7_code) (maxL := 4) (ret := none) (by decide) rfl ?_
  intro p e s mt args below meth c s₁ B hml hv
  obtain ⟨rfl, hsz, hP, hK, hD0, hst⟩ := hv
  have hx := B.exec
  have hb := B.bytes
  have hr := B.returns
  have htb : ∀ w ∈ bp_tb, w.before _ s = true := fun w hw => atoms_spec (ws := Cond.code y_bc_UW_putBits prog_11_method_7_code 4 none :: bp_tb) B.pre w (List.mem_cons_of_mem _ hw)
  have hown : s.vm.findClass "BlockPictures$UnitWriter" = some mt.cls := findClass_of_methodNamed B.named
  have hlocks := B.notSynchronized
  subst hsz
  have hD := hD0.self (sz := s.heap.size)
  generalize hAe : va_A (bc_W E m) s.heap.size = A at hD hst ⊢
  have hsub : ∀ (u : bp_M) (z q : Nat), s.heap.size ≤ z → va_A (bc_W E u) z q → A q := bc_sub hAe
  have hS : va_S A s.heap s.heap [] := va_S.rf
  have hl := lv_entry ([.ref (E.2.1 5), .int a1, .int a2]) (n := 4) (Nat.le_of_ble_eq_true rfl)
  rw [lg_entry_eq]
  generalize (lg_sl ([.ref (E.2.1 5), .int a1, .int a2]) ++ List.replicate (4 - (lg_sl ([.ref (E.2.1 5), .int a1, .int a2])).length) Slot.unset).toArray = ls at hl ⊢
  have hl : lv_has ls 4 [(0, .ref (E.2.1 5)), (1, .int a1), (2, .int a2)] := hl
  refine bc_keyV (R := ({ frames := 2, cells := 0, slots := 0, locals := 42 })) E hx hb hr hlocks hK hAe (fun Q hret => ?_)
  clear B hD0 hlocks hr
  generalize ([.ref (E.2.1 5), .int a1, .int a2] : List Value).toArray = args at htb hret ⊢
  clear hAe
  have hL67 : ∀ (m : bp_M), bc_UW_putBits_L67 N a1 a2 m = some mr → ∀ (ls : Array Slot) (H : Heap) (locs : List Loc), lv_has ls 4 [] → va_P E.1 bp_cl (bc_W E m) H → va_D A (bc_W E m) → va_S A s.heap H locs → W p l e ({ frames := 2, cells := 0, slots := 0, locals := 42 }) s mt args below meth c H locs 0 0 Q (F0 mt 67 ls []) := by
    intro m h ls H locs hl hP hD hS
    rw [bc_UW_putBits_L67] at h
    exact hret _ _ _ _ _ h hP hD hS (dt_bc_UW_putBits 40 rfl)
  have hL4 : ∀ (n4 : Nat) (x3 : Int32) (m : bp_M), bc_UW_putBits_L4 N a1 a2 n4 x3 m = some mr → ∀ (ls : Array Slot) (H : Heap) (locs : List Loc), lv_has ls 4 [(0, .ref (E.2.1 5)), (1, .int a1), (3, .int x3)] → va_P E.1 bp_cl (bc_W E m) H → va_D A (bc_W E m) → va_S A s.heap H locs → W p l e ({ frames := 2, cells := 0, slots := 0, locals := 42 }) s mt args below meth c H locs 0 0 Q (F0 mt 4 ls []) := by
    intro n4
    induction n4 with
    | zero =>
      intro x3 m h ls H locs hl hP hD hS
      rw [bc_UW_putBits_L4] at h
      cases h
    | succ n4 ih4 =>
      have hL61 : ∀ (x3 : Int32) (m : bp_M), bc_UW_putBits_L61 (bc_UW_putBits_L4 N a1 a2 n4) N a1 a2 x3 m = some mr → ∀ (ls : Array Slot) (H : Heap) (locs : List Loc), lv_has ls 4 [(0, .ref (E.2.1 5)), (1, .int a1), (3, .int x3)] → va_P E.1 bp_cl (bc_W E m) H → va_D A (bc_W E m) → va_S A s.heap H locs → W p l e ({ frames := 2, cells := 0, slots := 0, locals := 42 }) s mt args below meth c H locs 0 0 Q (F0 mt 61 ls []) := by
        intro x3 m h ls H locs hl hP hD hS
        rw [bc_UW_putBits_L61] at h
        obtain ⟨y1, ey1⟩ : ∃ z : Int32, z = x3 + (-1) := ⟨_, rfl⟩
        replace h := bp_nI_s h ey1
        refine lv_iinc (k := 2) (v := y1) hx hb (dt_bc_UW_putBits 38 rfl) hl rfl (by rw [ey1]; rfl) (Nat.le_of_ble_eq_true rfl) rfl (fun ls hl => ?_)
        have hl : lv_has ls 4 [(3, .int y1), (0, .ref (E.2.1 5)), (1, .int a1)] := hl
        refine lv_goto (tgt := 4) hx hb (dt_bc_UW_putBits 39 rfl) (by decide) ?_
        exact ih4 _ _ h ls H locs (lv_sub hl [1, 2, 0] rfl) hP hD hS
      intro x3 m h ls H locs hl hP hD hS
      rw [bc_UW_putBits_L4] at h
      refine lv_iload_n hx hb (dt_bc_UW_putBits 4 rfl) rfl (lv_at hl 2 rfl) ?_
      refine lv_if_lt (tgt := 67) hx hb (dt_bc_UW_putBits 5 rfl) (by decide) (fun hc => ?_) (fun hc => ?_)
      · replace h := (if_pos hc).symm.trans h
        exact hL67 _ h ls H locs (lv_sub hl [] rfl) hP hD hS
      · replace h := (if_neg hc).symm.trans h
        refine lv_aload_n hx hb (dt_bc_UW_putBits 6 rfl) rfl (lv_at hl 0 rfl) ?_
        refine lv_iconst (v := 2) hx hb (dt_bc_UW_putBits 7 rfl) (by decide) ?_
        refine lv_aload_n hx hb (dt_bc_UW_putBits 8 rfl) rfl (lv_at hl 0 rfl) ?_
        refine va_get (D := E.1) (ci := 5) (v := .int (m.1 5 4)) (C := "BlockPictures$UnitWriter") (T := bF_UW) (N := 6) hx hb htb bc_in_UW hown hK hP 5 (bc_gUW E m) rfl 4 (by decide) (htb _ tw_344) (fun _ h9 => h9) rfl (dt_bc_UW_putBits 9 rfl) ?_
        refine lv_imul hx hb (dt_bc_UW_putBits 10 rfl) ?_
        refine lv_iload_n hx hb (dt_bc_UW_putBits 11 rfl) rfl (lv_at hl 1 rfl) ?_
        refine lv_iload_n hx hb (dt_bc_UW_putBits 12 rfl) rfl (lv_at hl 2 rfl) ?_
        refine lv_ishr hx hb (dt_bc_UW_putBits 13 rfl) ?_
        refine lv_iconst (v := 1) hx hb (dt_bc_UW_putBits 14 rfl) (by decide) ?_
        refine lv_iand hx hb (dt_bc_UW_putBits 15 rfl) ?_
        refine lv_iadd hx hb (dt_bc_UW_putBits 16 rfl) ?_
        refine bc_pUW_4 E hx hb htb hown hK hP hD hS (htb _ tw_344) (dt_bc_UW_putBits 17 rfl) (fun m1 em1 H locs hP hD hS => ?_)
        replace h := bp_nM_s h em1
        refine lv_aload_n hx hb (dt_bc_UW_putBits 18 rfl) rfl (lv_at hl 0 rfl) ?_
        refine lv_dup hx hb (dt_bc_UW_putBits 19 rfl) rfl ?_
        refine va_get (D := E.1) (ci := 5) (v := .int (m1.1 5 5)) (C := "BlockPictures$UnitWriter") (T := bF_UW) (N := 6) hx hb htb bc_in_UW hown hK hP 5 (bc_gUW E m1) rfl 5 (by decide) (htb _ tw_345) (fun _ h9 => h9) rfl (dt_bc_UW_putBits 20 rfl) ?_
        refine lv_iconst (v := 1) hx hb (dt_bc_UW_putBits 21 rfl) (by decide) ?_
        refine lv_iadd hx hb (dt_bc_UW_putBits 22 rfl) ?_
        refine bc_pUW_5 E hx hb htb hown hK hP hD hS (htb _ tw_345) (dt_bc_UW_putBits 23 rfl) (fun m2 em2 H locs hP hD hS => ?_)
        replace h := bp_nM_s h em2
        refine lv_aload_n hx hb (dt_bc_UW_putBits 24 rfl) rfl (lv_at hl 0 rfl) ?_
        refine va_get (D := E.1) (ci := 5) (v := .int (m2.1 5 5)) (C := "BlockPictures$UnitWriter") (T := bF_UW) (N := 6) hx hb htb bc_in_UW hown hK hP 5 (bc_gUW E m2) rfl 5 (by decide) (htb _ tw_345) (fun _ h9 => h9) rfl (dt_bc_UW_putBits 25 rfl) ?_
        refine lv_bipush (v := 8) hx hb (dt_bc_UW_putBits 26 rfl) (by decide) ?_
        refine lv_icmp_ne (tgt := 61) hx hb (dt_bc_UW_putBits 27 rfl) (by decide) (fun hc => ?_) (fun hc => ?_)
        · replace h := (if_pos hc).symm.trans h
          exact hL61 _ _ h ls H locs (lv_sub hl [0, 1, 2] rfl) hP hD hS
        · replace h := (if_neg (fun hn => hn hc)).symm.trans h
          refine lv_aload_n hx hb (dt_bc_UW_putBits 28 rfl) rfl (lv_at hl 0 rfl) ?_
          refine lv_aload_n hx hb (dt_bc_UW_putBits 29 rfl) rfl (lv_at hl 0 rfl) ?_
          refine va_get (D := E.1) (ci := 5) (v := .int (m2.1 5 4)) (C := "BlockPictures$UnitWriter") (T := bF_UW) (N := 6) hx hb htb bc_in_UW hown hK hP 5 (bc_gUW E m2) rfl 4 (by decide) (htb _ tw_344) (fun _ h9 => h9) rfl (dt_bc_UW_putBits 30 rfl) ?_
          obtain ⟨m3, hm3, h⟩ := bp_cV_s h
          refine bc_callV E hsub hS (va_runV (As := [.int (m2.1 5 4)]) (rest := []) ⟨hx, hb, hml, hown, htb⟩ (wbc_UW_putByte l E N (m2.1 5 4) m2 H.size m3 hm3) (cwV 1 htb (bp_goodV tw_729 tw_731 tw_28 tw_78 tw_732) rfl rfl rfl ⟨rfl, hd_bc_UW_putByte⟩ ⟨Nat.le_of_ble_eq_true rfl, Nat.le_of_ble_eq_true rfl⟩) (bc_preV E hsub hst hK hP hD hS (bc_gUW E m2) rfl rfl _) rfl rfl hl.1 rfl (lv_room (Nat.le_of_ble_eq_true rfl)) (dt_bc_UW_putBits 31 rfl) ⟨Nat.zero_le _, Nat.zero_le _⟩) (fun H locs hP hD hS => ?_)
          refine lv_aload_n hx hb (dt_bc_UW_putBits 32 rfl) rfl (lv_at hl 0 rfl) ?_
          refine lv_iconst (v := 0) hx hb (dt_bc_UW_putBits 33 rfl) (by decide) ?_
          refine bc_pUW_4 E hx hb htb hown hK hP hD hS (htb _ tw_344) (dt_bc_UW_putBits 34 rfl) (fun m4 em4 H locs hP hD hS => ?_)
          replace h := bp_nM_s h em4
          refine lv_aload_n hx hb (dt_bc_UW_putBits 35 rfl) rfl (lv_at hl 0 rfl) ?_
          refine lv_iconst (v := 0) hx hb (dt_bc_UW_putBits 36 rfl) (by decide) ?_
          refine bc_pUW_5 E hx hb htb hown hK hP hD hS (htb _ tw_345) (dt_bc_UW_putBits 37 rfl) (fun m5 em5 H locs hP hD hS => ?_)
          replace h := bp_nM_s h em5
          exact hL61 _ _ h ls H locs (lv_sub hl [0, 1, 2] rfl) hP hD hS
  suffices hgo : ∀ (H : Heap) (locs : List Loc), va_P E.1 bp_cl (bc_W E m) H → va_D A (bc_W E m) → va_S A s.heap H locs → W p l e ({ frames := 2, cells := 0, slots := 0, locals := 42 }) s mt args below meth c H locs 0 0 Q (F0 mt 0 ls []) from hgo _ _ hP hD hS
  clear hP hD hS
  intro H locs hP hD hS
  unfold bc_UW_putBits at h
  refine lv_iload_n hx hb (dt_bc_UW_putBits 0 rfl) rfl (lv_at hl 2 rfl) ?_
  refine lv_iconst (v := 1) hx hb (dt_bc_UW_putBits 1 rfl) (by decide) ?_
  refine lv_isub hx hb (dt_bc_UW_putBits 2 rfl) ?_
  refine lv_topi (fun y1 ey1 => ?_)
  replace h := bp_nI_s h ey1
  refine lv_istore_n hx hb (dt_bc_UW_putBits 3 rfl) rfl hl (Nat.le_of_ble_eq_true rfl) rfl (fun ls hl => ?_)
  have hl : lv_has ls 4 [(3, .int y1), (0, .ref (E.2.1 5)), (1, .int a1), (2, .int a2)] := hl
  exact hL4 _ _ _ h ls H locs (lv_sub hl [1, 2, 0] rfl) hP hD hS
set_option maxHeartbeats 4000000 in
set_option maxRecDepth 100000 in
theorem wbc_UW_begin (l : Launch) (E : bc_E) (N : Nat) (a1 : Int32) (m : bp_M) (sz : Nat) (mr : bp_M)  (h : bc_UW_begin N a1 m = some mr) : Met l y_bc_UW_begin (Cond.code y_bc_UW_begin prog_11_method_4_code 2 none :: bp_tb) ({ frames := 3, cells := 0, slots := 0, locals := 65 }) (bc_Pc E m sz [.ref (E.2.1 5), .int a1]) (bc_Qv E m sz mr) 0 0 (va_A (bc_W E m) sz) := by
  refine Met.ofW (cc := prog_11_method_4_code) (maxL := 2) (ret := none) (by decide) rfl ?_
  intro p e s mt args below meth c s₁ B hml hv
  obtain ⟨rfl, hsz, hP, hK, hD0, hst⟩ := hv
  have hx := B.exec
  have hb := B.bytes
  have hr := B.returns
  have htb : ∀ w ∈ bp_tb, w.before _ s = true := fun w hw => atoms_spec (ws := Cond.code y_bc_UW_begin prog_11_method_4_code 2 none :: bp_tb) B.pre w (List.mem_cons_of_mem _ hw)
  have hown : s.vm.findClass "BlockPictures$UnitWriter" = some mt.cls := findClass_of_methodNamed B.named
  have hlocks := B.notSynchronized
  subst hsz
  have hD := hD0.self (sz := s.heap.size)
  generalize hAe : va_A (bc_W E m) s.heap.size = A at hD hst ⊢
  have hsub : ∀ (u : bp_M) (z q : Nat), s.heap.size ≤ z → va_A (bc_W E u) z q → A q := bc_sub hAe
  have hS : va_S A s.heap s.heap [] := va_S.rf
  have hl := lv_entry ([.ref (E.2.1 5), .int a1]) (n := 2) (Nat.le_of_ble_eq_true rfl)
  rw [lg_entry_eq]
  generalize (lg_sl ([.ref (E.2.1 5), .int a1]) ++ List.replicate (2 - (lg_sl ([.ref (E.2.1 5), .int a1])).length) Slot.unset).toArray = ls at hl ⊢
  have hl : lv_has ls 2 [(0, .ref (E.2.1 5)), (1, .int a1)] := hl
  refine bc_keyV (R := ({ frames := 3, cells := 0, slots := 0, locals := 65 })) E hx hb hr hlocks hK hAe (fun Q hret => ?_)
  clear B hD0 hlocks hr
  generalize ([.ref (E.2.1 5), .int a1] : List Value).toArray = args at htb hret ⊢
  clear hAe
  suffices hgo : ∀ (H : Heap) (locs : List Loc), va_P E.1 bp_cl (bc_W E m) H → va_D A (bc_W E m) → va_S A s.heap H locs → W p l e ({ frames := 3, cells := 0, slots := 0, locals := 65 }) s mt args below meth c H locs 0 0 Q (F0 mt 0 ls []) from hgo _ _ hP hD hS
  clear hP hD hS
  intro H locs hP hD hS
  unfold bc_UW_begin at h
  refine lv_aload_n hx hb (dt_bc_UW_begin 0 rfl) rfl (lv_at hl 0 rfl) ?_
  refine va_get (D := E.1) (ci := 5) (v := .ref (E.2.1 23)) (C := "BlockPictures$UnitWriter") (T := bF_UW) (N := 6) hx hb htb bc_in_UW hown hK hP 5 (bc_gUW E m) rfl 1 (by decide) (htb _ tw_339) (fun _ h9 => h9) rfl (dt_bc_UW_begin 1 rfl) ?_
  refine lv_iconst (v := 0) hx hb (dt_bc_UW_begin 2 rfl) (by decide) ?_
  refine lv_iconst (v := 0) hx hb (dt_bc_UW_begin 3 rfl) (by decide) ?_
  obtain ⟨hg1, h⟩ := bp_gi_s h
  refine bc_sI E hx hb hK hP hD hS (bc_ga23 E) hg1 (dt_bc_UW_begin 4 rfl) (fun m2 em2 H locs hP hD hS => ?_)
  replace h := bp_nM_s h em2
  refine lv_aload_n hx hb (dt_bc_UW_begin 5 rfl) rfl (lv_at hl 0 rfl) ?_
  refine va_get (D := E.1) (ci := 5) (v := .ref (E.2.1 23)) (C := "BlockPictures$UnitWriter") (T := bF_UW) (N := 6) hx hb htb bc_in_UW hown hK hP 5 (bc_gUW E m2) rfl 1 (by decide) (htb _ tw_339) (fun _ h9 => h9) rfl (dt_bc_UW_begin 6 rfl) ?_
  refine lv_iconst (v := 1) hx hb (dt_bc_UW_begin 7 rfl) (by decide) ?_
  refine lv_iconst (v := 0) hx hb (dt_bc_UW_begin 8 rfl) (by decide) ?_
  obtain ⟨hg3, h⟩ := bp_gi_s h
  refine bc_sI E hx hb hK hP hD hS (bc_ga23 E) hg3 (dt_bc_UW_begin 9 rfl) (fun m4 em4 H locs hP hD hS => ?_)
  replace h := bp_nM_s h em4
  refine lv_aload_n hx hb (dt_bc_UW_begin 10 rfl) rfl (lv_at hl 0 rfl) ?_
  refine va_get (D := E.1) (ci := 5) (v := .ref (E.2.1 23)) (C := "BlockPictures$UnitWriter") (T := bF_UW) (N := 6) hx hb htb bc_in_UW hown hK hP 5 (bc_gUW E m4) rfl 1 (by decide) (htb _ tw_339) (fun _ h9 => h9) rfl (dt_bc_UW_begin 11 rfl) ?_
  refine lv_iconst (v := 2) hx hb (dt_bc_UW_begin 12 rfl) (by decide) ?_
  refine lv_iconst (v := 1) hx hb (dt_bc_UW_begin 13 rfl) (by decide) ?_
  obtain ⟨hg5, h⟩ := bp_gi_s h
  refine bc_sI E hx hb hK hP hD hS (bc_ga23 E) hg5 (dt_bc_UW_begin 14 rfl) (fun m6 em6 H locs hP hD hS => ?_)
  replace h := bp_nM_s h em6
  refine lv_aload_n hx hb (dt_bc_UW_begin 15 rfl) rfl (lv_at hl 0 rfl) ?_
  refine lv_iconst (v := 3) hx hb (dt_bc_UW_begin 16 rfl) (by decide) ?_
  refine bc_pUW_2 E hx hb htb hown hK hP hD hS (htb _ tw_341) (dt_bc_UW_begin 17 rfl) (fun m7 em7 H locs hP hD hS => ?_)
  replace h := bp_nM_s h em7
  refine lv_aload_n hx hb (dt_bc_UW_begin 18 rfl) rfl (lv_at hl 0 rfl) ?_
  refine lv_iconst (v := 0) hx hb (dt_bc_UW_begin 19 rfl) (by decide) ?_
  refine bc_pUW_3 E hx hb htb hown hK hP hD hS (htb _ tw_343) (dt_bc_UW_begin 20 rfl) (fun m8 em8 H locs hP hD hS => ?_)
  replace h := bp_nM_s h em8
  refine lv_aload_n hx hb (dt_bc_UW_begin 21 rfl) rfl (lv_at hl 0 rfl) ?_
  refine lv_iconst (v := 0) hx hb (dt_bc_UW_begin 22 rfl) (by decide) ?_
  refine bc_pUW_4 E hx hb htb hown hK hP hD hS (htb _ tw_344) (dt_bc_UW_begin 23 rfl) (fun m9 em9 H locs hP hD hS => ?_)
  replace h := bp_nM_s h em9
  refine lv_aload_n hx hb (dt_bc_UW_begin 24 rfl) rfl (lv_at hl 0 rfl) ?_
  refine lv_iconst (v := 0) hx hb (dt_bc_UW_begin 25 rfl) (by decide) ?_
  refine bc_pUW_5 E hx hb htb hown hK hP hD hS (htb _ tw_345) (dt_bc_UW_begin 26 rfl) (fun m10 em10 H locs hP hD hS => ?_)
  replace h := bp_nM_s h em10
  refine lv_aload_n hx hb (dt_bc_UW_begin 27 rfl) rfl (lv_at hl 0 rfl) ?_
  refine lv_iload_n hx hb (dt_bc_UW_begin 28 rfl) rfl (lv_at hl 1 rfl) ?_
  refine lv_bipush (v := 8) hx hb (dt_bc_UW_begin 29 rfl) (by decide) ?_
  obtain ⟨m11, hm11, h⟩ := bp_cV_s h
  refine bc_callV E hsub hS (va_runV (As := [.int a1, .int 8]) (rest := []) ⟨hx, hb, hml, hown, htb⟩ (wbc_UW_putBits l E N a1 8 m10 H.size m11 hm11) (cwV 2 htb (bp_goodV tw_725 tw_727 tw_27 tw_78 tw_728) rfl rfl rfl ⟨rfl, hd_bc_UW_putBits⟩ ⟨Nat.le_of_ble_eq_true rfl, Nat.le_of_ble_eq_true rfl⟩) (bc_preV E hsub hst hK hP hD hS (bc_gUW E m10) rfl rfl _) rfl rfl hl.1 rfl (lv_room (Nat.le_of_ble_eq_true rfl)) (dt_bc_UW_begin 30 rfl) ⟨Nat.zero_le _, Nat.zero_le _⟩) (fun H locs hP hD hS => ?_)
  exact hret _ _ _ _ _ h hP hD hS (dt_bc_UW_begin 31 rfl)
set_option maxHeartbeats 4000000 in
set_option maxRecDepth 100000 in
theorem wbc_UW_putNumber (l : Launch) (E : bc_E) (N : Nat) (a1 : Int32) (m : bp_M) (sz : Nat) (mr : bp_M)  (h : bc_UW_putNumber N a1 m = some mr) : Met l y_bc_UW_putNumber (Cond.code y_bc_UW_putNumber prog_11_method_6_code 3 none :: bp_tb) ({ frames := 3, cells := 0, slots := 0, locals := 65 }) (bc_Pc E m sz [.ref (E.2.1 5), .int a1]) (bc_Qv E m sz mr) 0 0 (va_A (bc_W E m) sz) := by
  refine Met.ofW (cc := prog_11_method_6_code) (maxL := 3) (ret := none) (by decide) rfl ?_
  intro p e s mt args below meth c s₁ B hml hv
  obtain ⟨rfl, hsz, hP, hK, hD0, hst⟩ := hv
  have hx := B.exec
  have hb := B.bytes
  have hr := B.returns
  have htb : ∀ w ∈ bp_tb, w.before _ s = true := fun w hw => atoms_spec (ws := Cond.code y_bc_UW_putNumber prog_11_method_6_code 3 none :: bp_tb) B.pre w (List.mem_cons_of_mem _ hw)
  have hown : s.vm.findClass "BlockPictures$UnitWriter" = some mt.cls := findClass_of_methodNamed B.named
  have hlocks := B.notSynchronized
  subst hsz
  have hD := hD0.self (sz := s.heap.size)
  generalize hAe : va_A (bc_W E m) s.heap.size = A at hD hst ⊢
  have hsub : ∀ (u : bp_M) (z q : Nat), s.heap.size ≤ z → va_A (bc_W E u) z q → A q := bc_sub hAe
  have hS : va_S A s.heap s.heap [] := va_S.rf
  have hl := lv_entry ([.ref (E.2.1 5), .int a1]) (n := 3) (Nat.le_of_ble_eq_true rfl)
  rw [lg_entry_eq]
  generalize (lg_sl ([.ref (E.2.1 5), .int a1]) ++ List.replicate (3 - (lg_sl ([.ref (E.2.1 5), .int a1])).length) Slot.unset).toArray = ls at hl ⊢
  have hl : lv_has ls 3 [(0, .ref (E.2.1 5)), (1, .int a1)] := hl
  refine bc_keyV (R := ({ frames := 3, cells := 0, slots := 0, locals := 65 })) E hx hb hr hlocks hK hAe (fun Q hret => ?_)
  clear B hD0 hlocks hr
  generalize ([.ref (E.2.1 5), .int a1] : List Value).toArray = args at htb hret ⊢
  clear hAe
  have hL23 : ∀ (x2 : Int32) (m : bp_M), bc_UW_putNumber_L23 N a1 x2 m = some mr → ∀ (ls : Array Slot) (H : Heap) (locs : List Loc), lv_has ls 3 [(0, .ref (E.2.1 5)), (1, .int a1), (2, .int x2)] → va_P E.1 bp_cl (bc_W E m) H → va_D A (bc_W E m) → va_S A s.heap H locs → W p l e ({ frames := 3, cells := 0, slots := 0, locals := 65 }) s mt args below meth c H locs 0 0 Q (F0 mt 23 ls []) := by
    intro x2 m h ls H locs hl hP hD hS
    rw [bc_UW_putNumber_L23] at h
    refine lv_aload_n hx hb (dt_bc_UW_putNumber 14 rfl) rfl (lv_at hl 0 rfl) ?_
    refine lv_iload_n hx hb (dt_bc_UW_putNumber 15 rfl) rfl (lv_at hl 1 rfl) ?_
    refine lv_iconst (v := 1) hx hb (dt_bc_UW_putNumber 16 rfl) (by decide) ?_
    refine lv_iadd hx hb (dt_bc_UW_putNumber 17 rfl) ?_
    refine lv_iconst (v := 2) hx hb (dt_bc_UW_putNumber 18 rfl) (by decide) ?_
    refine lv_iload_n hx hb (dt_bc_UW_putNumber 19 rfl) rfl (lv_at hl 2 rfl) ?_
    refine lv_imul hx hb (dt_bc_UW_putNumber 20 rfl) ?_
    refine lv_iconst (v := 1) hx hb (dt_bc_UW_putNumber 21 rfl) (by decide) ?_
    refine lv_iadd hx hb (dt_bc_UW_putNumber 22 rfl) ?_
    obtain ⟨m1, hm1, h⟩ := bp_cV_s h
    refine bc_callV E hsub hS (va_runV (As := [.int (a1 + 1 : Int32), .int ((2 * x2 : Int32) + 1 : Int32)]) (rest := []) ⟨hx, hb, hml, hown, htb⟩ (wbc_UW_putBits l E N (a1 + 1 : Int32) ((2 * x2 : Int32) + 1 : Int32) m H.size m1 hm1) (cwV 2 htb (bp_goodV tw_725 tw_727 tw_27 tw_78 tw_728) rfl rfl rfl ⟨rfl, hd_bc_UW_putBits⟩ ⟨Nat.le_of_ble_eq_true rfl, Nat.le_of_ble_eq_true rfl⟩) (bc_preV E hsub hst hK hP hD hS (bc_gUW E m) rfl rfl _) rfl rfl hl.1 rfl (lv_room (Nat.le_of_ble_eq_true rfl)) (dt_bc_UW_putNumber 23 rfl) ⟨Nat.zero_le _, Nat.zero_le _⟩) (fun H locs hP hD hS => ?_)
    exact hret _ _ _ _ _ h hP hD hS (dt_bc_UW_putNumber 24 rfl)
  have hL2 : ∀ (n2 : Nat) (x2 : Int32) (m : bp_M), bc_UW_putNumber_L2 N a1 n2 x2 m = some mr → ∀ (ls : Array Slot) (H : Heap) (locs : List Loc), lv_has ls 3 [(0, .ref (E.2.1 5)), (1, .int a1), (2, .int x2)] → va_P E.1 bp_cl (bc_W E m) H → va_D A (bc_W E m) → va_S A s.heap H locs → W p l e ({ frames := 3, cells := 0, slots := 0, locals := 65 }) s mt args below meth c H locs 0 0 Q (F0 mt 2 ls []) := by
    intro n2
    induction n2 with
    | zero =>
      intro x2 m h ls H locs hl hP hD hS
      rw [bc_UW_putNumber_L2] at h
      cases h
    | succ n2 ih2 =>
      intro x2 m h ls H locs hl hP hD hS
      rw [bc_UW_putNumber_L2] at h
      refine lv_iload_n hx hb (dt_bc_UW_putNumber 2 rfl) rfl (lv_at hl 2 rfl) ?_
      refine lv_bipush (v := 10) hx hb (dt_bc_UW_putNumber 3 rfl) (by decide) ?_
      refine lv_icmp_ge (tgt := 23) hx hb (dt_bc_UW_putNumber 4 rfl) (by decide) (fun hc => ?_) (fun hc => ?_)
      · replace h := (if_pos hc).symm.trans h
        exact hL23 _ _ h ls H locs (lv_sub hl [0, 1, 2] rfl) hP hD hS
      · replace h := (if_neg hc).symm.trans h
        refine lv_iconst (v := 2) hx hb (dt_bc_UW_putNumber 5 rfl) (by decide) ?_
        refine lv_iload_n hx hb (dt_bc_UW_putNumber 6 rfl) rfl (lv_at hl 2 rfl) ?_
        refine lv_ishl hx hb (dt_bc_UW_putNumber 7 rfl) ?_
        refine lv_iload_n hx hb (dt_bc_UW_putNumber 8 rfl) rfl (lv_at hl 1 rfl) ?_
        refine lv_iconst (v := 1) hx hb (dt_bc_UW_putNumber 9 rfl) (by decide) ?_
        refine lv_iadd hx hb (dt_bc_UW_putNumber 10 rfl) ?_
        refine lv_icmp_gt (tgt := 23) hx hb (dt_bc_UW_putNumber 11 rfl) (by decide) (fun hc => ?_) (fun hc => ?_)
        · replace h := (if_pos hc).symm.trans h
          exact hL23 _ _ h ls H locs (lv_sub hl [0, 1, 2] rfl) hP hD hS
        · replace h := (if_neg hc).symm.trans h
          obtain ⟨y1, ey1⟩ : ∃ z : Int32, z = x2 + 1 := ⟨_, rfl⟩
          replace h := bp_nI_s h ey1
          refine lv_iinc (k := 2) (v := y1) hx hb (dt_bc_UW_putNumber 12 rfl) hl rfl (by rw [ey1]; rfl) (Nat.le_of_ble_eq_true rfl) rfl (fun ls hl => ?_)
          have hl : lv_has ls 3 [(2, .int y1), (0, .ref (E.2.1 5)), (1, .int a1)] := hl
          refine lv_goto (tgt := 2) hx hb (dt_bc_UW_putNumber 13 rfl) (by decide) ?_
          exact ih2 _ _ h ls H locs (lv_sub hl [1, 2, 0] rfl) hP hD hS
  suffices hgo : ∀ (H : Heap) (locs : List Loc), va_P E.1 bp_cl (bc_W E m) H → va_D A (bc_W E m) → va_S A s.heap H locs → W p l e ({ frames := 3, cells := 0, slots := 0, locals := 65 }) s mt args below meth c H locs 0 0 Q (F0 mt 0 ls []) from hgo _ _ hP hD hS
  clear hP hD hS
  intro H locs hP hD hS
  unfold bc_UW_putNumber at h
  refine lv_iconst (v := 0) hx hb (dt_bc_UW_putNumber 0 rfl) (by decide) ?_
  refine lv_istore_n hx hb (dt_bc_UW_putNumber 1 rfl) rfl hl (Nat.le_of_ble_eq_true rfl) rfl (fun ls hl => ?_)
  have hl : lv_has ls 3 [(2, .int 0), (0, .ref (E.2.1 5)), (1, .int a1)] := hl
  exact hL2 _ _ _ h ls H locs (lv_sub hl [1, 2, 0] rfl) hP hD hS
set_option maxHeartbeats 4000000 in
set_option maxRecDepth 100000 in
theorem wbc_UW_close (l : Launch) (E : bc_E) (N : Nat)  (m : bp_M) (sz : Nat) (mr : bp_M)  (h : bc_UW_close N m = some mr) : Met l y_bc_UW_close (Cond.code y_bc_UW_close prog_11_method_5_code 1 none :: bp_tb) ({ frames := 3, cells := 0, slots := 0, locals := 65 }) (bc_Pc E m sz [.ref (E.2.1 5)]) (bc_Qv E m sz mr) 0 0 (va_A (bc_W E m) sz) := by
  refine Met.ofW (cc := prog_11_method_5_code) (maxL := 1) (ret := none) (by decide) rfl ?_
  intro p e s mt args below meth c s₁ B hml hv
  obtain ⟨rfl, hsz, hP, hK, hD0, hst⟩ := hv
  have hx := B.exec
  have hb := B.bytes
  have hr := B.returns
  have htb : ∀ w ∈ bp_tb, w.before _ s = true := fun w hw => atoms_spec (ws := Cond.code y_bc_UW_close prog_11_method_5_code 1 none :: bp_tb) B.pre w (List.mem_cons_of_mem _ hw)
  have hown : s.vm.findClass "BlockPictures$UnitWriter" = some mt.cls := findClass_of_methodNamed B.named
  have hlocks := B.notSynchronized
  subst hsz
  have hD := hD0.self (sz := s.heap.size)
  generalize hAe : va_A (bc_W E m) s.heap.size = A at hD hst ⊢
  have hsub : ∀ (u : bp_M) (z q : Nat), s.heap.size ≤ z → va_A (bc_W E u) z q → A q := bc_sub hAe
  have hS : va_S A s.heap s.heap [] := va_S.rf
  have hl := lv_entry ([.ref (E.2.1 5)]) (n := 1) (Nat.le_of_ble_eq_true rfl)
  rw [lg_entry_eq]
  generalize (lg_sl ([.ref (E.2.1 5)]) ++ List.replicate (1 - (lg_sl ([.ref (E.2.1 5)])).length) Slot.unset).toArray = ls at hl ⊢
  have hl : lv_has ls 1 [(0, .ref (E.2.1 5))] := hl
  refine bc_keyV (R := ({ frames := 3, cells := 0, slots := 0, locals := 65 })) E hx hb hr hlocks hK hAe (fun Q hret => ?_)
  clear B hD0 hlocks hr
  generalize ([.ref (E.2.1 5)] : List Value).toArray = args at htb hret ⊢
  clear hAe
  have hL25 : ∀ (m : bp_M), bc_UW_close_L25 N m = some mr → ∀ (ls : Array Slot) (H : Heap) (locs : List Loc), lv_has ls 1 [] → va_P E.1 bp_cl (bc_W E m) H → va_D A (bc_W E m) → va_S A s.heap H locs → W p l e ({ frames := 3, cells := 0, slots := 0, locals := 65 }) s mt args below meth c H locs 0 0 Q (F0 mt 25 ls []) := by
    intro m h ls H locs hl hP hD hS
    rw [bc_UW_close_L25] at h
    exact hret _ _ _ _ _ h hP hD hS (dt_bc_UW_close 14 rfl)
  suffices hgo : ∀ (H : Heap) (locs : List Loc), va_P E.1 bp_cl (bc_W E m) H → va_D A (bc_W E m) → va_S A s.heap H locs → W p l e ({ frames := 3, cells := 0, slots := 0, locals := 65 }) s mt args below meth c H locs 0 0 Q (F0 mt 0 ls []) from hgo _ _ hP hD hS
  clear hP hD hS
  intro H locs hP hD hS
  unfold bc_UW_close at h
  refine lv_aload_n hx hb (dt_bc_UW_close 0 rfl) rfl (lv_at hl 0 rfl) ?_
  refine lv_iconst (v := 1) hx hb (dt_bc_UW_close 1 rfl) (by decide) ?_
  refine lv_iconst (v := 1) hx hb (dt_bc_UW_close 2 rfl) (by decide) ?_
  obtain ⟨m1, hm1, h⟩ := bp_cV_s h
  refine bc_callV E hsub hS (va_runV (As := [.int 1, .int 1]) (rest := []) ⟨hx, hb, hml, hown, htb⟩ (wbc_UW_putBits l E N 1 1 m H.size m1 hm1) (cwV 2 htb (bp_goodV tw_725 tw_727 tw_27 tw_78 tw_728) rfl rfl rfl ⟨rfl, hd_bc_UW_putBits⟩ ⟨Nat.le_of_ble_eq_true rfl, Nat.le_of_ble_eq_true rfl⟩) (bc_preV E hsub hst hK hP hD hS (bc_gUW E m) rfl rfl _) rfl rfl hl.1 rfl (lv_room (Nat.le_of_ble_eq_true rfl)) (dt_bc_UW_close 3 rfl) ⟨Nat.zero_le _, Nat.zero_le _⟩) (fun H locs hP hD hS => ?_)
  refine lv_aload_n hx hb (dt_bc_UW_close 4 rfl) rfl (lv_at hl 0 rfl) ?_
  refine va_get (D := E.1) (ci := 5) (v := .int (m1.1 5 5)) (C := "BlockPictures$UnitWriter") (T := bF_UW) (N := 6) hx hb htb bc_in_UW hown hK hP 5 (bc_gUW E m1) rfl 5 (by decide) (htb _ tw_345) (fun _ h9 => h9) rfl (dt_bc_UW_close 5 rfl) ?_
  refine lv_if_le (tgt := 25) hx hb (dt_bc_UW_close 6 rfl) (by decide) (fun hc => ?_) (fun hc => ?_)
  · replace h := (if_pos hc).symm.trans h
    exact hL25 _ h ls H locs (lv_sub hl [] rfl) hP hD hS
  · replace h := (if_neg hc).symm.trans h
    refine lv_aload_n hx hb (dt_bc_UW_close 7 rfl) rfl (lv_at hl 0 rfl) ?_
    refine lv_iconst (v := 0) hx hb (dt_bc_UW_close 8 rfl) (by decide) ?_
    refine lv_bipush (v := 8) hx hb (dt_bc_UW_close 9 rfl) (by decide) ?_
    refine lv_aload_n hx hb (dt_bc_UW_close 10 rfl) rfl (lv_at hl 0 rfl) ?_
    refine va_get (D := E.1) (ci := 5) (v := .int (m1.1 5 5)) (C := "BlockPictures$UnitWriter") (T := bF_UW) (N := 6) hx hb htb bc_in_UW hown hK hP 5 (bc_gUW E m1) rfl 5 (by decide) (htb _ tw_345) (fun _ h9 => h9) rfl (dt_bc_UW_close 11 rfl) ?_
    refine lv_isub hx hb (dt_bc_UW_close 12 rfl) ?_
    obtain ⟨m2, hm2, h⟩ := bp_cV_s h
    refine bc_callV E hsub hS (va_runV (As := [.int 0, .int (8 - (m1.1 5 5) : Int32)]) (rest := []) ⟨hx, hb, hml, hown, htb⟩ (wbc_UW_putBits l E N 0 (8 - (m1.1 5 5) : Int32) m1 H.size m2 hm2) (cwV 2 htb (bp_goodV tw_725 tw_727 tw_27 tw_78 tw_728) rfl rfl rfl ⟨rfl, hd_bc_UW_putBits⟩ ⟨Nat.le_of_ble_eq_true rfl, Nat.le_of_ble_eq_true rfl⟩) (bc_preV E hsub hst hK hP hD hS (bc_gUW E m1) rfl rfl _) rfl rfl hl.1 rfl (lv_room (Nat.le_of_ble_eq_true rfl)) (dt_bc_UW_close 13 rfl) ⟨Nat.zero_le _, Nat.zero_le _⟩) (fun H locs hP hD hS => ?_)
    exact hL25 _ h ls H locs (lv_sub hl [] rfl) hP hD hS
set_option maxHeartbeats 4000000 in
set_option maxRecDepth 100000 in
theorem wbc_UW_putParameters (l : Launch) (E : bc_E) (N : Nat) (a1 : Int32) (a2 : Int32) (m : bp_M) (sz : Nat) (mr : bp_M)  (h : bc_UW_putParameters N a1 a2 m = some mr) : Met l y_bc_UW_putParameters (Cond.code y_bc_UW_putParameters prog_11_method_2_code 3 none :: bp_tb) ({ frames := 4, cells := 0, slots := 0, locals := 87 }) (bc_Pc E m sz [.ref (E.2.1 5), .int a1, .int a2]) (bc_Qv E m sz mr) 0 0 (va_A (bc_W E m) sz) := by
  refine Met.ofW (cc := prog_11_method_2_code) (maxL := 3) (ret := none) (by decide) rfl ?_
  intro p e s mt args below meth c s₁ B hml hv
  obtain ⟨rfl, hsz, hP, hK, hD0, hst⟩ := hv
  have hx := B.exec
  have hb := B.bytes
  have hr := B.returns
  have htb : ∀ w ∈ bp_tb, w.before _ s = true := fun w hw => atoms_spec (ws := Cond.code y_bc_UW_putParameters prog_11_method_2_code 3 none :: bp_tb) B.pre w (List.mem_cons_of_mem _ hw)
  have hown : s.vm.findClass "BlockPictures$UnitWriter" = some mt.cls := findClass_of_methodNamed B.named
  have hlocks := B.notSynchronized
  subst hsz
  have hD := hD0.self (sz := s.heap.size)
  generalize hAe : va_A (bc_W E m) s.heap.size = A at hD hst ⊢
  have hsub : ∀ (u : bp_M) (z q : Nat), s.heap.size ≤ z → va_A (bc_W E u) z q → A q := bc_sub hAe
  have hS : va_S A s.heap s.heap [] := va_S.rf
  have hl := lv_entry ([.ref (E.2.1 5), .int a1, .int a2]) (n := 3) (Nat.le_of_ble_eq_true rfl)
  rw [lg_entry_eq]
  generalize (lg_sl ([.ref (E.2.1 5), .int a1, .int a2]) ++ List.replicate (3 - (lg_sl ([.ref (E.2.1 5), .int a1, .int a2])).length) Slot.unset).toArray = ls at hl ⊢
  have hl : lv_has ls 3 [(0, .ref (E.2.1 5)), (1, .int a1), (2, .int a2)] := hl
  refine bc_keyV (R := ({ frames := 4, cells := 0, slots := 0, locals := 87 })) E hx hb hr hlocks hK hAe (fun Q hret => ?_)
  clear B hD0 hlocks hr
  generalize ([.ref (E.2.1 5), .int a1, .int a2] : List Value).toArray = args at htb hret ⊢
  clear hAe
  suffices hgo : ∀ (H : Heap) (locs : List Loc), va_P E.1 bp_cl (bc_W E m) H → va_D A (bc_W E m) → va_S A s.heap H locs → W p l e ({ frames := 4, cells := 0, slots := 0, locals := 87 }) s mt args below meth c H locs 0 0 Q (F0 mt 0 ls []) from hgo _ _ hP hD hS
  clear hP hD hS
  intro H locs hP hD hS
  unfold bc_UW_putParameters at h
  refine lv_aload_n hx hb (dt_bc_UW_putParameters 0 rfl) rfl (lv_at hl 0 rfl) ?_
  refine lv_bipush (v := 39) hx hb (dt_bc_UW_putParameters 1 rfl) (by decide) ?_
  obtain ⟨m1, hm1, h⟩ := bp_cV_s h
  refine bc_callV E hsub hS (va_runV (As := [.int 39]) (rest := []) ⟨hx, hb, hml, hown, htb⟩ (wbc_UW_begin l E N 39 m H.size m1 hm1) (cwV 1 htb (bp_goodV tw_721 tw_723 tw_26 tw_78 tw_724) rfl rfl rfl ⟨rfl, hd_bc_UW_begin⟩ ⟨Nat.le_of_ble_eq_true rfl, Nat.le_of_ble_eq_true rfl⟩) (bc_preV E hsub hst hK hP hD hS (bc_gUW E m) rfl rfl _) rfl rfl hl.1 rfl (lv_room (Nat.le_of_ble_eq_true rfl)) (dt_bc_UW_putParameters 2 rfl) ⟨Nat.zero_le _, Nat.zero_le _⟩) (fun H locs hP hD hS => ?_)
  refine lv_aload_n hx hb (dt_bc_UW_putParameters 3 rfl) rfl (lv_at hl 0 rfl) ?_
  refine lv_iload_n hx hb (dt_bc_UW_putParameters 4 rfl) rfl (lv_at hl 1 rfl) ?_
  obtain ⟨m2, hm2, h⟩ := bp_cV_s h
  refine bc_callV E hsub hS (va_runV (As := [.int a1]) (rest := []) ⟨hx, hb, hml, hown, htb⟩ (wbc_UW_putNumber l E N a1 m1 H.size m2 hm2) (cwV 1 htb (bp_goodV tw_737 tw_739 tw_30 tw_78 tw_740) rfl rfl rfl ⟨rfl, hd_bc_UW_putNumber⟩ ⟨Nat.le_of_ble_eq_true rfl, Nat.le_of_ble_eq_true rfl⟩) (bc_preV E hsub hst hK hP hD hS (bc_gUW E m1) rfl rfl _) rfl rfl hl.1 rfl (lv_room (Nat.le_of_ble_eq_true rfl)) (dt_bc_UW_putParameters 5 rfl) ⟨Nat.zero_le _, Nat.zero_le _⟩) (fun H locs hP hD hS => ?_)
  refine lv_aload_n hx hb (dt_bc_UW_putParameters 6 rfl) rfl (lv_at hl 0 rfl) ?_
  refine lv_iload_n hx hb (dt_bc_UW_putParameters 7 rfl) rfl (lv_at hl 2 rfl) ?_
  obtain ⟨m3, hm3, h⟩ := bp_cV_s h
  refine bc_callV E hsub hS (va_runV (As := [.int a2]) (rest := []) ⟨hx, hb, hml, hown, htb⟩ (wbc_UW_putNumber l E N a2 m2 H.size m3 hm3) (cwV 1 htb (bp_goodV tw_737 tw_739 tw_30 tw_78 tw_740) rfl rfl rfl ⟨rfl, hd_bc_UW_putNumber⟩ ⟨Nat.le_of_ble_eq_true rfl, Nat.le_of_ble_eq_true rfl⟩) (bc_preV E hsub hst hK hP hD hS (bc_gUW E m2) rfl rfl _) rfl rfl hl.1 rfl (lv_room (Nat.le_of_ble_eq_true rfl)) (dt_bc_UW_putParameters 8 rfl) ⟨Nat.zero_le _, Nat.zero_le _⟩) (fun H locs hP hD hS => ?_)
  refine lv_aload_n hx hb (dt_bc_UW_putParameters 9 rfl) rfl (lv_at hl 0 rfl) ?_
  obtain ⟨m4, hm4, h⟩ := bp_cV_s h
  refine bc_callV E hsub hS (va_runV (As := []) (rest := []) ⟨hx, hb, hml, hown, htb⟩ (wbc_UW_close l E N  m3 H.size m4 hm4) (cwV 0 htb (bp_goodV tw_741 tw_743 tw_31 tw_78 tw_744) rfl rfl rfl ⟨rfl, hd_bc_UW_close⟩ ⟨Nat.le_of_ble_eq_true rfl, Nat.le_of_ble_eq_true rfl⟩) (bc_preV E hsub hst hK hP hD hS (bc_gUW E m3) rfl rfl _) rfl rfl hl.1 rfl (lv_room (Nat.le_of_ble_eq_true rfl)) (dt_bc_UW_putParameters 10 rfl) ⟨Nat.zero_le _, Nat.zero_le _⟩) (fun H locs hP hD hS => ?_)
  exact hret _ _ _ _ _ h hP hD hS (dt_bc_UW_putParameters 11 rfl)
set_option maxHeartbeats 4000000 in
set_option maxRecDepth 100000 in
theorem wbc_UW_putKeyPicture (l : Launch) (E : bc_E) (N : Nat) (a1 : Int32) (m : bp_M) (sz : Nat) (mr : bp_M)  (h : bc_UW_putKeyPicture N a1 m = some mr) : Met l y_bc_UW_putKeyPicture (Cond.code y_bc_UW_putKeyPicture prog_11_method_3_code 4 none :: bp_tb) ({ frames := 4, cells := 0, slots := 0, locals := 87 }) (bc_Pc E m sz [.ref (E.2.1 5), .int a1]) (bc_Qv E m sz mr) 0 0 (va_A (bc_W E m) sz) := by
  refine Met.ofW (cc := prog_11_method_3_code) (maxL := 4) (ret := none) (by decide) rfl ?_
  intro p e s mt args below meth c s₁ B hml hv
  obtain ⟨rfl, hsz, hP, hK, hD0, hst⟩ := hv
  have hx := B.exec
  have hb := B.bytes
  have hr := B.returns
  have htb : ∀ w ∈ bp_tb, w.before _ s = true := fun w hw => atoms_spec (ws := Cond.code y_bc_UW_putKeyPicture prog_11_method_3_code 4 none :: bp_tb) B.pre w (List.mem_cons_of_mem _ hw)
  have hown : s.vm.findClass "BlockPictures$UnitWriter" = some mt.cls := findClass_of_methodNamed B.named
  have hlocks := B.notSynchronized
  subst hsz
  have hD := hD0.self (sz := s.heap.size)
  generalize hAe : va_A (bc_W E m) s.heap.size = A at hD hst ⊢
  have hsub : ∀ (u : bp_M) (z q : Nat), s.heap.size ≤ z → va_A (bc_W E u) z q → A q := bc_sub hAe
  have hS : va_S A s.heap s.heap [] := va_S.rf
  have hl := lv_entry ([.ref (E.2.1 5), .int a1]) (n := 4) (Nat.le_of_ble_eq_true rfl)
  rw [lg_entry_eq]
  generalize (lg_sl ([.ref (E.2.1 5), .int a1]) ++ List.replicate (4 - (lg_sl ([.ref (E.2.1 5), .int a1])).length) Slot.unset).toArray = ls at hl ⊢
  have hl : lv_has ls 4 [(0, .ref (E.2.1 5)), (1, .int a1)] := hl
  refine bc_keyV (R := ({ frames := 4, cells := 0, slots := 0, locals := 87 })) E hx hb hr hlocks hK hAe (fun Q hret => ?_)
  clear B hD0 hlocks hr
  generalize ([.ref (E.2.1 5), .int a1] : List Value).toArray = args at htb hret ⊢
  clear hAe
  have hL66 : ∀ (m : bp_M), bc_UW_putKeyPicture_L66 N a1 m = some mr → ∀ (ls : Array Slot) (H : Heap) (locs : List Loc), lv_has ls 4 [(0, .ref (E.2.1 5))] → va_P E.1 bp_cl (bc_W E m) H → va_D A (bc_W E m) → va_S A s.heap H locs → W p l e ({ frames := 4, cells := 0, slots := 0, locals := 87 }) s mt args below meth c H locs 0 0 Q (F0 mt 66 ls []) := by
    intro m h ls H locs hl hP hD hS
    rw [bc_UW_putKeyPicture_L66] at h
    refine lv_aload_n hx hb (dt_bc_UW_putKeyPicture 36 rfl) rfl (lv_at hl 0 rfl) ?_
    obtain ⟨m1, hm1, h⟩ := bp_cV_s h
    refine bc_callV E hsub hS (va_runV (As := []) (rest := []) ⟨hx, hb, hml, hown, htb⟩ (wbc_UW_close l E N  m H.size m1 hm1) (cwV 0 htb (bp_goodV tw_741 tw_743 tw_31 tw_78 tw_744) rfl rfl rfl ⟨rfl, hd_bc_UW_close⟩ ⟨Nat.le_of_ble_eq_true rfl, Nat.le_of_ble_eq_true rfl⟩) (bc_preV E hsub hst hK hP hD hS (bc_gUW E m) rfl rfl _) rfl rfl hl.1 rfl (lv_room (Nat.le_of_ble_eq_true rfl)) (dt_bc_UW_putKeyPicture 37 rfl) ⟨Nat.zero_le _, Nat.zero_le _⟩) (fun H locs hP hD hS => ?_)
    exact hret _ _ _ _ _ h hP hD hS (dt_bc_UW_putKeyPicture 38 rfl)
  have hL18 : ∀ (n18 : Nat) (x2 : Int32) (m : bp_M), bc_UW_putKeyPicture_L18 N a1 n18 x2 m = some mr → ∀ (ls : Array Slot) (H : Heap) (locs : List Loc), lv_has ls 4 [(0, .ref (E.2.1 5)), (2, .int x2)] → va_P E.1 bp_cl (bc_W E m) H → va_D A (bc_W E m) → va_S A s.heap H locs → W p l e ({ frames := 4, cells := 0, slots := 0, locals := 87 }) s mt args below meth c H locs 0 0 Q (F0 mt 18 ls []) := by
    intro n18
    induction n18 with
    | zero =>
      intro x2 m h ls H locs hl hP hD hS
      rw [bc_UW_putKeyPicture_L18] at h
      cases h
    | succ n18 ih18 =>
      have hL60 : ∀ (x2 : Int32) (m : bp_M), bc_UW_putKeyPicture_L60 (bc_UW_putKeyPicture_L18 N a1 n18) N a1 x2 m = some mr → ∀ (ls : Array Slot) (H : Heap) (locs : List Loc), lv_has ls 4 [(0, .ref (E.2.1 5)), (2, .int x2)] → va_P E.1 bp_cl (bc_W E m) H → va_D A (bc_W E m) → va_S A s.heap H locs → W p l e ({ frames := 4, cells := 0, slots := 0, locals := 87 }) s mt args below meth c H locs 0 0 Q (F0 mt 60 ls []) := by
        intro x2 m h ls H locs hl hP hD hS
        rw [bc_UW_putKeyPicture_L60] at h
        obtain ⟨y1, ey1⟩ : ∃ z : Int32, z = x2 + 1 := ⟨_, rfl⟩
        replace h := bp_nI_s h ey1
        refine lv_iinc (k := 1) (v := y1) hx hb (dt_bc_UW_putKeyPicture 34 rfl) hl rfl (by rw [ey1]; rfl) (Nat.le_of_ble_eq_true rfl) rfl (fun ls hl => ?_)
        have hl : lv_has ls 4 [(2, .int y1), (0, .ref (E.2.1 5))] := hl
        refine lv_goto (tgt := 18) hx hb (dt_bc_UW_putKeyPicture 35 rfl) (by decide) ?_
        exact ih18 _ _ h ls H locs (lv_sub hl [1, 0] rfl) hP hD hS
      have hL32 : ∀ (n32 : Nat) (x2 : Int32) (x3 : Int32) (m : bp_M), bc_UW_putKeyPicture_L32 (bc_UW_putKeyPicture_L18 N a1 n18) N a1 n32 x2 x3 m = some mr → ∀ (ls : Array Slot) (H : Heap) (locs : List Loc), lv_has ls 4 [(0, .ref (E.2.1 5)), (2, .int x2), (3, .int x3)] → va_P E.1 bp_cl (bc_W E m) H → va_D A (bc_W E m) → va_S A s.heap H locs → W p l e ({ frames := 4, cells := 0, slots := 0, locals := 87 }) s mt args below meth c H locs 0 0 Q (F0 mt 32 ls []) := by
        intro n32
        induction n32 with
        | zero =>
          intro x2 x3 m h ls H locs hl hP hD hS
          rw [bc_UW_putKeyPicture_L32] at h
          cases h
        | succ n32 ih32 =>
          intro x2 x3 m h ls H locs hl hP hD hS
          rw [bc_UW_putKeyPicture_L32] at h
          refine lv_iload_n hx hb (dt_bc_UW_putKeyPicture 20 rfl) rfl (lv_at hl 2 rfl) ?_
          refine lv_bipush (v := 16) hx hb (dt_bc_UW_putKeyPicture 21 rfl) (by decide) ?_
          refine lv_icmp_ge (tgt := 60) hx hb (dt_bc_UW_putKeyPicture 22 rfl) (by decide) (fun hc => ?_) (fun hc => ?_)
          · replace h := (if_pos hc).symm.trans h
            exact hL60 _ _ h ls H locs (lv_sub hl [0, 1] rfl) hP hD hS
          · replace h := (if_neg hc).symm.trans h
            refine lv_aload_n hx hb (dt_bc_UW_putKeyPicture 23 rfl) rfl (lv_at hl 0 rfl) ?_
            refine lv_aload_n hx hb (dt_bc_UW_putKeyPicture 24 rfl) rfl (lv_at hl 0 rfl) ?_
            refine va_get (D := E.1) (ci := 5) (v := .ref (E.2.1 22)) (C := "BlockPictures$UnitWriter") (T := bF_UW) (N := 6) hx hb htb bc_in_UW hown hK hP 5 (bc_gUW E m) rfl 0 (by decide) (htb _ tw_337) (fun _ h9 => h9) rfl (dt_bc_UW_putKeyPicture 25 rfl) ?_
            refine lv_iload_n hx hb (dt_bc_UW_putKeyPicture 26 rfl) rfl (lv_at hl 1 rfl) ?_
            refine lv_iload_n hx hb (dt_bc_UW_putKeyPicture 27 rfl) rfl (lv_at hl 2 rfl) ?_
            obtain ⟨z2, m1, hm1, h⟩ := bp_cI_s h
            refine bc_callI E hsub hS (va_runSN (As := [.int x2, .int x3]) (rest := [.ref (E.2.1 22), .ref (E.2.1 5)]) ⟨hx, hb, hml, hown, htb⟩ (wbc_BP_sampleNumber l E N x2 x3 m H.size z2 m1 hm1) ⟨va_cnB 2 htb (bp_good tw_525) rfl rfl rfl (hst.1 _ (List.mem_of_getElem? (i := 14) rfl)) (htb _ tw_69) hd_bc_BP_sampleNumber ⟨Nat.le_of_ble_eq_true rfl, Nat.le_of_ble_eq_true rfl⟩, htb _ tw_524, trivial⟩ (bc_preS E hsub hst hK hP hD hS _) rfl rfl hl.1 rfl (lv_room (Nat.le_of_ble_eq_true rfl)) (dt_bc_UW_putKeyPicture 28 rfl) ⟨Nat.zero_le _, Nat.zero_le _⟩) (fun H locs hP hD hS => ?_)
            obtain ⟨hg3, h⟩ := bp_gi_s h
            refine bc_lI E hx hb hK hP (bc_ga22 E) hg3 (dt_bc_UW_putKeyPicture 29 rfl) ?_
            refine lv_bipush (v := 8) hx hb (dt_bc_UW_putKeyPicture 30 rfl) (by decide) ?_
            obtain ⟨m4, hm4, h⟩ := bp_cV_s h
            refine bc_callV E hsub hS (va_runV (As := [.int (m1.1 22 z2.toNatClampNeg), .int 8]) (rest := []) ⟨hx, hb, hml, hown, htb⟩ (wbc_UW_putBits l E N (m1.1 22 z2.toNatClampNeg) 8 m1 H.size m4 hm4) (cwV 2 htb (bp_goodV tw_725 tw_727 tw_27 tw_78 tw_728) rfl rfl rfl ⟨rfl, hd_bc_UW_putBits⟩ ⟨Nat.le_of_ble_eq_true rfl, Nat.le_of_ble_eq_true rfl⟩) (bc_preV E hsub hst hK hP hD hS (bc_gUW E m1) rfl rfl _) rfl rfl hl.1 rfl (lv_room (Nat.le_of_ble_eq_true rfl)) (dt_bc_UW_putKeyPicture 31 rfl) ⟨Nat.zero_le _, Nat.zero_le _⟩) (fun H locs hP hD hS => ?_)
            obtain ⟨y5, ey5⟩ : ∃ z : Int32, z = x3 + 1 := ⟨_, rfl⟩
            replace h := bp_nI_s h ey5
            refine lv_iinc (k := 2) (v := y5) hx hb (dt_bc_UW_putKeyPicture 32 rfl) hl rfl (by rw [ey5]; rfl) (Nat.le_of_ble_eq_true rfl) rfl (fun ls hl => ?_)
            have hl : lv_has ls 4 [(3, .int y5), (0, .ref (E.2.1 5)), (2, .int x2)] := hl
            refine lv_goto (tgt := 32) hx hb (dt_bc_UW_putKeyPicture 33 rfl) (by decide) ?_
            exact ih32 _ _ _ h ls H locs (lv_sub hl [1, 2, 0] rfl) hP hD hS
      intro x2 m h ls H locs hl hP hD hS
      rw [bc_UW_putKeyPicture_L18] at h
      refine lv_iload_n hx hb (dt_bc_UW_putKeyPicture 11 rfl) rfl (lv_at hl 1 rfl) ?_
      refine lv_bipush (v := 16) hx hb (dt_bc_UW_putKeyPicture 12 rfl) (by decide) ?_
      refine lv_icmp_ge (tgt := 66) hx hb (dt_bc_UW_putKeyPicture 13 rfl) (by decide) (fun hc => ?_) (fun hc => ?_)
      · replace h := (if_pos hc).symm.trans h
        exact hL66 _ h ls H locs (lv_sub hl [0] rfl) hP hD hS
      · replace h := (if_neg hc).symm.trans h
        refine lv_aload_n hx hb (dt_bc_UW_putKeyPicture 14 rfl) rfl (lv_at hl 0 rfl) ?_
        refine lv_iconst (v := 0) hx hb (dt_bc_UW_putKeyPicture 15 rfl) (by decide) ?_
        refine lv_iconst (v := 2) hx hb (dt_bc_UW_putKeyPicture 16 rfl) (by decide) ?_
        obtain ⟨m1, hm1, h⟩ := bp_cV_s h
        refine bc_callV E hsub hS (va_runV (As := [.int 0, .int 2]) (rest := []) ⟨hx, hb, hml, hown, htb⟩ (wbc_UW_putBits l E N 0 2 m H.size m1 hm1) (cwV 2 htb (bp_goodV tw_725 tw_727 tw_27 tw_78 tw_728) rfl rfl rfl ⟨rfl, hd_bc_UW_putBits⟩ ⟨Nat.le_of_ble_eq_true rfl, Nat.le_of_ble_eq_true rfl⟩) (bc_preV E hsub hst hK hP hD hS (bc_gUW E m) rfl rfl _) rfl rfl hl.1 rfl (lv_room (Nat.le_of_ble_eq_true rfl)) (dt_bc_UW_putKeyPicture 17 rfl) ⟨Nat.zero_le _, Nat.zero_le _⟩) (fun H locs hP hD hS => ?_)
        refine lv_iconst (v := 0) hx hb (dt_bc_UW_putKeyPicture 18 rfl) (by decide) ?_
        refine lv_istore_n hx hb (dt_bc_UW_putKeyPicture 19 rfl) rfl hl (Nat.le_of_ble_eq_true rfl) rfl (fun ls hl => ?_)
        have hl : lv_has ls 4 [(3, .int 0), (0, .ref (E.2.1 5)), (2, .int x2)] := hl
        exact hL32 _ _ _ _ h ls H locs (lv_sub hl [1, 2, 0] rfl) hP hD hS
  suffices hgo : ∀ (H : Heap) (locs : List Loc), va_P E.1 bp_cl (bc_W E m) H → va_D A (bc_W E m) → va_S A s.heap H locs → W p l e ({ frames := 4, cells := 0, slots := 0, locals := 87 }) s mt args below meth c H locs 0 0 Q (F0 mt 0 ls []) from hgo _ _ hP hD hS
  clear hP hD hS
  intro H locs hP hD hS
  unfold bc_UW_putKeyPicture at h
  refine lv_aload_n hx hb (dt_bc_UW_putKeyPicture 0 rfl) rfl (lv_at hl 0 rfl) ?_
  refine lv_bipush (v := 101) hx hb (dt_bc_UW_putKeyPicture 1 rfl) (by decide) ?_
  obtain ⟨m1, hm1, h⟩ := bp_cV_s h
  refine bc_callV E hsub hS (va_runV (As := [.int 101]) (rest := []) ⟨hx, hb, hml, hown, htb⟩ (wbc_UW_begin l E N 101 m H.size m1 hm1) (cwV 1 htb (bp_goodV tw_721 tw_723 tw_26 tw_78 tw_724) rfl rfl rfl ⟨rfl, hd_bc_UW_begin⟩ ⟨Nat.le_of_ble_eq_true rfl, Nat.le_of_ble_eq_true rfl⟩) (bc_preV E hsub hst hK hP hD hS (bc_gUW E m) rfl rfl _) rfl rfl hl.1 rfl (lv_room (Nat.le_of_ble_eq_true rfl)) (dt_bc_UW_putKeyPicture 2 rfl) ⟨Nat.zero_le _, Nat.zero_le _⟩) (fun H locs hP hD hS => ?_)
  refine lv_aload_n hx hb (dt_bc_UW_putKeyPicture 3 rfl) rfl (lv_at hl 0 rfl) ?_
  refine lv_iload_n hx hb (dt_bc_UW_putKeyPicture 4 rfl) rfl (lv_at hl 1 rfl) ?_
  obtain ⟨m2, hm2, h⟩ := bp_cV_s h
  refine bc_callV E hsub hS (va_runV (As := [.int a1]) (rest := []) ⟨hx, hb, hml, hown, htb⟩ (wbc_UW_putNumber l E N a1 m1 H.size m2 hm2) (cwV 1 htb (bp_goodV tw_737 tw_739 tw_30 tw_78 tw_740) rfl rfl rfl ⟨rfl, hd_bc_UW_putNumber⟩ ⟨Nat.le_of_ble_eq_true rfl, Nat.le_of_ble_eq_true rfl⟩) (bc_preV E hsub hst hK hP hD hS (bc_gUW E m1) rfl rfl _) rfl rfl hl.1 rfl (lv_room (Nat.le_of_ble_eq_true rfl)) (dt_bc_UW_putKeyPicture 5 rfl) ⟨Nat.zero_le _, Nat.zero_le _⟩) (fun H locs hP hD hS => ?_)
  refine lv_aload_n hx hb (dt_bc_UW_putKeyPicture 6 rfl) rfl (lv_at hl 0 rfl) ?_
  refine lv_iconst (v := 0) hx hb (dt_bc_UW_putKeyPicture 7 rfl) (by decide) ?_
  obtain ⟨m3, hm3, h⟩ := bp_cV_s h
  refine bc_callV E hsub hS (va_runV (As := [.int 0]) (rest := []) ⟨hx, hb, hml, hown, htb⟩ (wbc_UW_putNumber l E N 0 m2 H.size m3 hm3) (cwV 1 htb (bp_goodV tw_737 tw_739 tw_30 tw_78 tw_740) rfl rfl rfl ⟨rfl, hd_bc_UW_putNumber⟩ ⟨Nat.le_of_ble_eq_true rfl, Nat.le_of_ble_eq_true rfl⟩) (bc_preV E hsub hst hK hP hD hS (bc_gUW E m2) rfl rfl _) rfl rfl hl.1 rfl (lv_room (Nat.le_of_ble_eq_true rfl)) (dt_bc_UW_putKeyPicture 8 rfl) ⟨Nat.zero_le _, Nat.zero_le _⟩) (fun H locs hP hD hS => ?_)
  refine lv_iconst (v := 0) hx hb (dt_bc_UW_putKeyPicture 9 rfl) (by decide) ?_
  refine lv_istore_n hx hb (dt_bc_UW_putKeyPicture 10 rfl) rfl hl (Nat.le_of_ble_eq_true rfl) rfl (fun ls hl => ?_)
  have hl : lv_has ls 4 [(2, .int 0), (0, .ref (E.2.1 5)), (1, .int a1)] := hl
  exact hL18 _ _ _ h ls H locs (lv_sub hl [1, 0] rfl) hP hD hS
set_option maxHeartbeats 4000000 in
set_option maxRecDepth 100000 in
theorem wbc_BP_write (l : Launch) (E : bc_E) (N : Nat) (a1 : Int32) (a2 : Int32) (a3 : Int32) (m : bp_M) (sz : Nat) (r : Int32) (mr : bp_M)  (h : bc_BP_write N a1 a2 a3 m = some (r, mr)) : Met l y_bc_BP_write (Cond.code y_bc_BP_write prog_1_method_16_code 4 (some .int) :: bp_tb) ({ frames := 5, cells := 0, slots := 0, locals := 110 }) (bc_Pc E m sz [.ref (E.2.1 0), .int a1, .int a2, .int a3]) (bc_Qi E m sz r mr) 0 0 (va_A (bc_W E m) sz) := by
  refine Met.ofW (cc := prog_1_method_16_code) (maxL := 4) (ret := (some .int)) (by decide) rfl ?_
  intro p e s mt args below meth c s₁ B hml hv
  obtain ⟨rfl, hsz, hP, hK, hD0, hst⟩ := hv
  have hx := B.exec
  have hb := B.bytes
  have hr := B.returns
  have htb : ∀ w ∈ bp_tb, w.before _ s = true := fun w hw => atoms_spec (ws := Cond.code y_bc_BP_write prog_1_method_16_code 4 (some .int) :: bp_tb) B.pre w (List.mem_cons_of_mem _ hw)
  have hown : s.vm.findClass "BlockPictures" = some mt.cls := findClass_of_methodNamed B.named
  have hlocks := B.notSynchronized
  subst hsz
  have hD := hD0.self (sz := s.heap.size)
  generalize hAe : va_A (bc_W E m) s.heap.size = A at hD hst ⊢
  have hsub : ∀ (u : bp_M) (z q : Nat), s.heap.size ≤ z → va_A (bc_W E u) z q → A q := bc_sub hAe
  have hS : va_S A s.heap s.heap [] := va_S.rf
  have hl := lv_entry ([.ref (E.2.1 0), .int a1, .int a2, .int a3]) (n := 4) (Nat.le_of_ble_eq_true rfl)
  rw [lg_entry_eq]
  generalize (lg_sl ([.ref (E.2.1 0), .int a1, .int a2, .int a3]) ++ List.replicate (4 - (lg_sl ([.ref (E.2.1 0), .int a1, .int a2, .int a3])).length) Slot.unset).toArray = ls at hl ⊢
  have hl : lv_has ls 4 [(0, .ref (E.2.1 0)), (1, .int a1), (2, .int a2), (3, .int a3)] := hl
  refine bc_keyI (R := ({ frames := 5, cells := 0, slots := 0, locals := 110 })) E hx hb hr hlocks hK hAe (fun Q hret => ?_)
  clear B hD0 hlocks hr
  generalize ([.ref (E.2.1 0), .int a1, .int a2, .int a3] : List Value).toArray = args at htb hret ⊢
  clear hAe
  have hL74 : ∀ (m : bp_M), bc_BP_write_L74 N a1 a2 a3 m = some (r, mr) → ∀ (ls : Array Slot) (H : Heap) (locs : List Loc), lv_has ls 4 [] → va_P E.1 bp_cl (bc_W E m) H → va_D A (bc_W E m) → va_S A s.heap H locs → W p l e ({ frames := 5, cells := 0, slots := 0, locals := 110 }) s mt args below meth c H locs 0 0 Q (F0 mt 74 ls []) := by
    intro m h ls H locs hl hP hD hS
    rw [bc_BP_write_L74] at h
    refine lv_iconst (v := (-1)) hx hb (dt_bc_BP_write 38 rfl) (by decide) ?_
    exact hret _ _ _ _ _ _ h hP hD hS (dt_bc_BP_write 39 rfl)
  have hL42 : ∀ (m : bp_M), bc_BP_write_L42 N a1 a2 a3 m = some (r, mr) → ∀ (ls : Array Slot) (H : Heap) (locs : List Loc), lv_has ls 4 [(0, .ref (E.2.1 0)), (1, .int a1), (2, .int a2)] → va_P E.1 bp_cl (bc_W E m) H → va_D A (bc_W E m) → va_S A s.heap H locs → W p l e ({ frames := 5, cells := 0, slots := 0, locals := 110 }) s mt args below meth c H locs 0 0 Q (F0 mt 42 ls []) := by
    intro m h ls H locs hl hP hD hS
    rw [bc_BP_write_L42] at h
    refine lv_iload_n hx hb (dt_bc_BP_write 22 rfl) rfl (lv_at hl 1 rfl) ?_
    refine lv_iconst (v := 5) hx hb (dt_bc_BP_write 23 rfl) (by decide) ?_
    refine lv_icmp_ne (tgt := 74) hx hb (dt_bc_BP_write 24 rfl) (by decide) (fun hc => ?_) (fun hc => ?_)
    · replace h := (if_pos hc).symm.trans h
      exact hL74 _ h ls H locs (lv_sub hl [] rfl) hP hD hS
    · replace h := (if_neg (fun hn => hn hc)).symm.trans h
      refine lv_iload_n hx hb (dt_bc_BP_write 25 rfl) rfl (lv_at hl 2 rfl) ?_
      refine lv_if_lt (tgt := 74) hx hb (dt_bc_BP_write 26 rfl) (by decide) (fun hc => ?_) (fun hc => ?_)
      · replace h := (if_pos hc).symm.trans h
        exact hL74 _ h ls H locs (lv_sub hl [] rfl) hP hD hS
      · replace h := (if_neg hc).symm.trans h
        refine lv_iload_n hx hb (dt_bc_BP_write 27 rfl) rfl (lv_at hl 2 rfl) ?_
        refine lv_sipush (v := 255) hx hb (dt_bc_BP_write 28 rfl) (by decide) ?_
        refine lv_icmp_gt (tgt := 74) hx hb (dt_bc_BP_write 29 rfl) (by decide) (fun hc => ?_) (fun hc => ?_)
        · replace h := (if_pos hc).symm.trans h
          exact hL74 _ h ls H locs (lv_sub hl [] rfl) hP hD hS
        · replace h := (if_neg hc).symm.trans h
          refine lv_aload_n hx hb (dt_bc_BP_write 30 rfl) rfl (lv_at hl 0 rfl) ?_
          refine va_get (D := E.1) (ci := 0) (v := .ref (E.2.1 5)) (C := "BlockPictures") (T := bF_BP) (N := 7) hx hb htb bc_in_BP hown hK hP 0 (bc_gBP E m) rfl 4 (by decide) (htb _ tw_363) (fun _ h9 => h9) rfl (dt_bc_BP_write 31 rfl) ?_
          refine lv_iload_n hx hb (dt_bc_BP_write 32 rfl) rfl (lv_at hl 2 rfl) ?_
          obtain ⟨m1, hm1, h⟩ := bp_cV_s h
          refine bc_callV E hsub hS (va_runV (As := [.int a2]) (rest := []) ⟨hx, hb, hml, hown, htb⟩ (wbc_UW_putKeyPicture l E N a2 m H.size m1 hm1) (cwV 1 htb (bp_goodV tw_745 tw_746 tw_747 tw_78 tw_748) rfl rfl rfl ⟨rfl, hd_bc_UW_putKeyPicture⟩ ⟨Nat.le_of_ble_eq_true rfl, Nat.le_of_ble_eq_true rfl⟩) (bc_preV E hsub hst hK hP hD hS (bc_gUW E m) rfl rfl _) rfl rfl hl.1 rfl (lv_room (Nat.le_of_ble_eq_true rfl)) (dt_bc_BP_write 33 rfl) ⟨Nat.zero_le _, Nat.zero_le _⟩) (fun H locs hP hD hS => ?_)
          refine lv_aload_n hx hb (dt_bc_BP_write 34 rfl) rfl (lv_at hl 0 rfl) ?_
          refine va_get (D := E.1) (ci := 0) (v := .ref (E.2.1 5)) (C := "BlockPictures") (T := bF_BP) (N := 7) hx hb htb bc_in_BP hown hK hP 0 (bc_gBP E m1) rfl 4 (by decide) (htb _ tw_363) (fun _ h9 => h9) rfl (dt_bc_BP_write 35 rfl) ?_
          refine va_get (D := E.1) (ci := 5) (v := .int (m1.1 5 2)) (C := "BlockPictures$UnitWriter") (T := bF_UW) (N := 6) hx hb htb bc_in_UW hown hK hP 5 (bc_gUW E m1) rfl 2 (by decide) (htb _ tw_342) (fun _ h9 => h9) rfl (dt_bc_BP_write 36 rfl) ?_
          exact hret _ _ _ _ _ _ h hP hD hS (dt_bc_BP_write 37 rfl)
  suffices hgo : ∀ (H : Heap) (locs : List Loc), va_P E.1 bp_cl (bc_W E m) H → va_D A (bc_W E m) → va_S A s.heap H locs → W p l e ({ frames := 5, cells := 0, slots := 0, locals := 110 }) s mt args below meth c H locs 0 0 Q (F0 mt 0 ls []) from hgo _ _ hP hD hS
  clear hP hD hS
  intro H locs hP hD hS
  unfold bc_BP_write at h
  refine lv_iload_n hx hb (dt_bc_BP_write 0 rfl) rfl (lv_at hl 1 rfl) ?_
  refine lv_bipush (v := 7) hx hb (dt_bc_BP_write 1 rfl) (by decide) ?_
  refine lv_icmp_ne (tgt := 42) hx hb (dt_bc_BP_write 2 rfl) (by decide) (fun hc => ?_) (fun hc => ?_)
  · replace h := (if_pos hc).symm.trans h
    exact hL42 _ h ls H locs (lv_sub hl [0, 1, 2] rfl) hP hD hS
  · replace h := (if_neg (fun hn => hn hc)).symm.trans h
    refine lv_iload_n hx hb (dt_bc_BP_write 3 rfl) rfl (lv_at hl 2 rfl) ?_
    refine lv_if_lt (tgt := 42) hx hb (dt_bc_BP_write 4 rfl) (by decide) (fun hc => ?_) (fun hc => ?_)
    · replace h := (if_pos hc).symm.trans h
      exact hL42 _ h ls H locs (lv_sub hl [0, 1, 2] rfl) hP hD hS
    · replace h := (if_neg hc).symm.trans h
      refine lv_iload_n hx hb (dt_bc_BP_write 5 rfl) rfl (lv_at hl 2 rfl) ?_
      refine lv_iconst (v := 4) hx hb (dt_bc_BP_write 6 rfl) (by decide) ?_
      refine lv_icmp_ge (tgt := 42) hx hb (dt_bc_BP_write 7 rfl) (by decide) (fun hc => ?_) (fun hc => ?_)
      · replace h := (if_pos hc).symm.trans h
        exact hL42 _ h ls H locs (lv_sub hl [0, 1, 2] rfl) hP hD hS
      · replace h := (if_neg hc).symm.trans h
        refine lv_iload_n hx hb (dt_bc_BP_write 8 rfl) rfl (lv_at hl 3 rfl) ?_
        refine lv_if_lt (tgt := 42) hx hb (dt_bc_BP_write 9 rfl) (by decide) (fun hc => ?_) (fun hc => ?_)
        · replace h := (if_pos hc).symm.trans h
          exact hL42 _ h ls H locs (lv_sub hl [0, 1, 2] rfl) hP hD hS
        · replace h := (if_neg hc).symm.trans h
          refine lv_iload_n hx hb (dt_bc_BP_write 10 rfl) rfl (lv_at hl 3 rfl) ?_
          refine lv_bipush (v := 11) hx hb (dt_bc_BP_write 11 rfl) (by decide) ?_
          refine lv_icmp_gt (tgt := 42) hx hb (dt_bc_BP_write 12 rfl) (by decide) (fun hc => ?_) (fun hc => ?_)
          · replace h := (if_pos hc).symm.trans h
            exact hL42 _ h ls H locs (lv_sub hl [0, 1, 2] rfl) hP hD hS
          · replace h := (if_neg hc).symm.trans h
            refine lv_aload_n hx hb (dt_bc_BP_write 13 rfl) rfl (lv_at hl 0 rfl) ?_
            refine va_get (D := E.1) (ci := 0) (v := .ref (E.2.1 5)) (C := "BlockPictures") (T := bF_BP) (N := 7) hx hb htb bc_in_BP hown hK hP 0 (bc_gBP E m) rfl 4 (by decide) (htb _ tw_363) (fun _ h9 => h9) rfl (dt_bc_BP_write 14 rfl) ?_
            refine lv_iload_n hx hb (dt_bc_BP_write 15 rfl) rfl (lv_at hl 2 rfl) ?_
            refine lv_iload_n hx hb (dt_bc_BP_write 16 rfl) rfl (lv_at hl 3 rfl) ?_
            obtain ⟨m1, hm1, h⟩ := bp_cV_s h
            refine bc_callV E hsub hS (va_runV (As := [.int a2, .int a3]) (rest := []) ⟨hx, hb, hml, hown, htb⟩ (wbc_UW_putParameters l E N a2 a3 m H.size m1 hm1) (cwV 2 htb (bp_goodV tw_717 tw_718 tw_719 tw_78 tw_720) rfl rfl rfl ⟨rfl, hd_bc_UW_putParameters⟩ ⟨Nat.le_of_ble_eq_true rfl, Nat.le_of_ble_eq_true rfl⟩) (bc_preV E hsub hst hK hP hD hS (bc_gUW E m) rfl rfl _) rfl rfl hl.1 rfl (lv_room (Nat.le_of_ble_eq_true rfl)) (dt_bc_BP_write 17 rfl) ⟨Nat.zero_le _, Nat.zero_le _⟩) (fun H locs hP hD hS => ?_)
            refine lv_aload_n hx hb (dt_bc_BP_write 18 rfl) rfl (lv_at hl 0 rfl) ?_
            refine va_get (D := E.1) (ci := 0) (v := .ref (E.2.1 5)) (C := "BlockPictures") (T := bF_BP) (N := 7) hx hb htb bc_in_BP hown hK hP 0 (bc_gBP E m1) rfl 4 (by decide) (htb _ tw_363) (fun _ h9 => h9) rfl (dt_bc_BP_write 19 rfl) ?_
            refine va_get (D := E.1) (ci := 5) (v := .int (m1.1 5 2)) (C := "BlockPictures$UnitWriter") (T := bF_UW) (N := 6) hx hb htb bc_in_UW hown hK hP 5 (bc_gUW E m1) rfl 2 (by decide) (htb _ tw_342) (fun _ h9 => h9) rfl (dt_bc_BP_write 20 rfl) ?_
            exact hret _ _ _ _ _ _ h hP hD hS (dt_bc_BP_write 21 rfl)

set_option maxHeartbeats 4000000 in
set_option maxRecDepth 100000 in
theorem wbc_PA_readPending (l : Launch) (E : bc_E) (N : Nat)  (m : bp_M) (sz : Nat) (mr : bp_M)  (h : bc_PA_readPending N m = some mr) : Met l y_bc_PA_readPending (Cond.code y_bc_PA_readPending prog_6_method_3_code 4 none :: bp_tb) ({ frames := 2, cells := 0, slots := 0, locals := 46 }) (bc_Pc E m sz [.ref (E.2.1 2), .ref (E.2.1 6)]) (bc_Qv E m sz mr) 0 0 (va_A (bc_W E m) sz) := by
  refine Met.ofW (cc := prog_6_method_3_code) (maxL := 4) (ret := none) (by decide) rfl ?_
  intro p e s mt args below meth c s₁ B hml hv
  obtain ⟨rfl, hsz, hP, hK, hD0, hst⟩ := hv
  have hx := B.exec
  have hb := B.bytes
  have hr := B.returns
  have htb : ∀ w ∈ bp_tb, w.before _ s = true := fun w hw => atoms_spec (ws := Cond.code y_bc_PA_readPending prog_6_method_3_code 4 none :: bp_tb) B.pre w (List.mem_cons_of_mem _ hw)
  have hown : s.vm.findClass "BlockPictures$Parameters" = some mt.cls := findClass_of_methodNamed B.named
  have hlocks := B.notSynchronized
  subst hsz
  have hD := hD0.self (sz := s.heap.size)
  generalize hAe : va_A (bc_W E m) s.heap.size = A at hD hst ⊢
  have hsub : ∀ (u : bp_M) (z q : Nat), s.heap.size ≤ z → va_A (bc_W E u) z q → A q := bc_sub hAe
  have hS : va_S A s.heap s.heap [] := va_S.rf
  have hl := lv_entry ([.ref (E.2.1 2), .ref (E.2.1 6)]) (n := 4) (Nat.le_of_ble_eq_true rfl)
  rw [lg_entry_eq]
  generalize (lg_sl ([.ref (E.2.1 2), .ref (E.2.1 6)]) ++ List.replicate (4 - (lg_sl ([.ref (E.2.1 2), .ref (E.2.1 6)])).length) Slot.unset).toArray = ls at hl ⊢
  have hl : lv_has ls 4 [(0, .ref (E.2.1 2)), (1, .ref (E.2.1 6))] := hl
  refine bc_keyV (R := ({ frames := 2, cells := 0, slots := 0, locals := 46 })) E hx hb hr hlocks hK hAe (fun Q hret => ?_)
  clear B hD0 hlocks hr
  generalize ([.ref (E.2.1 2), .ref (E.2.1 6)] : List Value).toArray = args at htb hret ⊢
  clear hAe
  have hL43 : ∀ (m : bp_M), bc_PA_readPending_L43 N m = some mr → ∀ (ls : Array Slot) (H : Heap) (locs : List Loc), lv_has ls 4 [] → va_P E.1 bp_cl (bc_W E m) H → va_D A (bc_W E m) → va_S A s.heap H locs → W p l e ({ frames := 2, cells := 0, slots := 0, locals := 46 }) s mt args below meth c H locs 0 0 Q (F0 mt 43 ls []) := by
    intro m h ls H locs hl hP hD hS
    rw [bc_PA_readPending_L43] at h
    exact hret _ _ _ _ _ h hP hD hS (dt_bc_PA_readPending 26 rfl)
  suffices hgo : ∀ (H : Heap) (locs : List Loc), va_P E.1 bp_cl (bc_W E m) H → va_D A (bc_W E m) → va_S A s.heap H locs → W p l e ({ frames := 2, cells := 0, slots := 0, locals := 46 }) s mt args below meth c H locs 0 0 Q (F0 mt 0 ls []) from hgo _ _ hP hD hS
  clear hP hD hS
  intro H locs hP hD hS
  unfold bc_PA_readPending at h
  refine lv_aload_n hx hb (dt_bc_PA_readPending 0 rfl) rfl (lv_at hl 1 rfl) ?_
  refine lv_iconst (v := 3) hx hb (dt_bc_PA_readPending 1 rfl) (by decide) ?_
  refine lv_iconst (v := 5) hx hb (dt_bc_PA_readPending 2 rfl) (by decide) ?_
  obtain ⟨z2, m1, hm1, h⟩ := bp_cI_s h
  refine bc_callI E hsub hS (va_runV (As := [.int 3, .int 5]) (rest := []) ⟨hx, hb, hml, hown, htb⟩ (wbc_BR_number l E N 3 5 m H.size z2 m1 hm1) (cwV 2 htb (bp_goodV tw_433 tw_434 tw_435 tw_73 tw_436) rfl rfl rfl ⟨rfl, hd_bc_BR_number⟩ ⟨Nat.le_of_ble_eq_true rfl, Nat.le_of_ble_eq_true rfl⟩) (bc_preV E hsub hst hK hP hD hS (bc_gBR E m) rfl rfl _) rfl rfl hl.1 rfl (lv_room (Nat.le_of_ble_eq_true rfl)) (dt_bc_PA_readPending 3 rfl) ⟨Nat.zero_le _, Nat.zero_le _⟩) (fun H locs hP hD hS => ?_)
  refine lv_iconst (v := 1) hx hb (dt_bc_PA_readPending 4 rfl) (by decide) ?_
  refine lv_iadd hx hb (dt_bc_PA_readPending 5 rfl) ?_
  refine lv_topi (fun y3 ey3 => ?_)
  replace h := bp_nI_s h ey3
  refine lv_istore_n hx hb (dt_bc_PA_readPending 6 rfl) rfl hl (Nat.le_of_ble_eq_true rfl) rfl (fun ls hl => ?_)
  have hl : lv_has ls 4 [(2, .int y3), (0, .ref (E.2.1 2)), (1, .ref (E.2.1 6))] := hl
  refine lv_aload_n hx hb (dt_bc_PA_readPending 7 rfl) rfl (lv_at hl 2 rfl) ?_
  refine lv_bipush (v := 11) hx hb (dt_bc_PA_readPending 8 rfl) (by decide) ?_
  refine lv_iconst (v := 5) hx hb (dt_bc_PA_readPending 9 rfl) (by decide) ?_
  obtain ⟨z5, m4, hm4, h⟩ := bp_cI_s h
  refine bc_callI E hsub hS (va_runV (As := [.int 11, .int 5]) (rest := []) ⟨hx, hb, hml, hown, htb⟩ (wbc_BR_number l E N 11 5 m1 H.size z5 m4 hm4) (cwV 2 htb (bp_goodV tw_433 tw_434 tw_435 tw_73 tw_436) rfl rfl rfl ⟨rfl, hd_bc_BR_number⟩ ⟨Nat.le_of_ble_eq_true rfl, Nat.le_of_ble_eq_true rfl⟩) (bc_preV E hsub hst hK hP hD hS (bc_gBR E m1) rfl rfl _) rfl rfl hl.1 rfl (lv_room (Nat.le_of_ble_eq_true rfl)) (dt_bc_PA_readPending 10 rfl) ⟨Nat.zero_le _, Nat.zero_le _⟩) (fun H locs hP hD hS => ?_)
  refine lv_istore_n hx hb (dt_bc_PA_readPending 11 rfl) rfl hl (Nat.le_of_ble_eq_true rfl) rfl (fun ls hl => ?_)
  have hl : lv_has ls 4 [(3, .int z5), (2, .int y3), (0, .ref (E.2.1 2)), (1, .ref (E.2.1 6))] := hl
  refine lv_aload_n hx hb (dt_bc_PA_readPending 12 rfl) rfl (lv_at hl 3 rfl) ?_
  obtain ⟨m6, hm6, h⟩ := bp_cV_s h
  refine bc_callV E hsub hS (va_runV (As := []) (rest := []) ⟨hx, hb, hml, hown, htb⟩ (wbc_BR_needEnd l E N  m4 H.size m6 hm6) (cwV 0 htb (bp_goodV tw_441 tw_442 tw_443 tw_73 tw_444) rfl rfl rfl ⟨rfl, hd_bc_BR_needEnd⟩ ⟨Nat.le_of_ble_eq_true rfl, Nat.le_of_ble_eq_true rfl⟩) (bc_preV E hsub hst hK hP hD hS (bc_gBR E m4) rfl rfl _) rfl rfl hl.1 rfl (lv_room (Nat.le_of_ble_eq_true rfl)) (dt_bc_PA_readPending 13 rfl) ⟨Nat.zero_le _, Nat.zero_le _⟩) (fun H locs hP hD hS => ?_)
  refine lv_aload_n hx hb (dt_bc_PA_readPending 14 rfl) rfl (lv_at hl 3 rfl) ?_
  refine va_get (D := E.1) (ci := 6) (v := .int (m6.1 6 3)) (C := "BlockPictures$BitReader") (T := bF_BR) (N := 4) hx hb htb bc_in_BR hown hK hP 6 (bc_gBR E m6) rfl 3 (by decide) (htb _ tw_165) (fun _ h9 => h9) rfl (dt_bc_PA_readPending 15 rfl) ?_
  refine lv_if_ne (tgt := 43) hx hb (dt_bc_PA_readPending 16 rfl) (by decide) (fun hc => ?_) (fun hc => ?_)
  · replace h := (if_pos hc).symm.trans h
    exact hL43 _ h ls H locs (lv_sub hl [] rfl) hP hD hS
  · replace h := (if_neg (fun hn => hn hc)).symm.trans h
    refine lv_aload_n hx hb (dt_bc_PA_readPending 17 rfl) rfl (lv_at hl 2 rfl) ?_
    refine lv_iconst (v := 1) hx hb (dt_bc_PA_readPending 18 rfl) (by decide) ?_
    obtain ⟨hg8, h⟩ := bp_g_s h
    refine bc_pPA_0 E hx hb htb hown hK hP hD hS hg8 (htb _ tw_127) (dt_bc_PA_readPending 19 rfl) (fun m7 em7 H locs hP hD hS => ?_)
    replace h := bp_nM_s h em7
    refine lv_aload_n hx hb (dt_bc_PA_readPending 20 rfl) rfl (lv_at hl 2 rfl) ?_
    refine lv_iload_n hx hb (dt_bc_PA_readPending 21 rfl) rfl (lv_at hl 1 rfl) ?_
    refine bc_pPA_1 E hx hb htb hown hK hP hD hS (htb _ tw_129) (dt_bc_PA_readPending 22 rfl) (fun m9 em9 H locs hP hD hS => ?_)
    replace h := bp_nM_s h em9
    refine lv_aload_n hx hb (dt_bc_PA_readPending 23 rfl) rfl (lv_at hl 2 rfl) ?_
    refine lv_iload_n hx hb (dt_bc_PA_readPending 24 rfl) rfl (lv_at hl 0 rfl) ?_
    refine bc_pPA_2 E hx hb htb hown hK hP hD hS (htb _ tw_130) (dt_bc_PA_readPending 25 rfl) (fun m10 em10 H locs hP hD hS => ?_)
    replace h := bp_nM_s h em10
    exact hL43 _ h ls H locs (lv_sub hl [] rfl) hP hD hS
set_option maxHeartbeats 4000000 in
set_option maxRecDepth 100000 in
theorem wbc_PB_listReferences (l : Launch) (E : bc_E) (N : Nat)  (m : bp_M) (sz : Nat) (r : Int32) (mr : bp_M)  (h : bc_PB_listReferences N m = some (r, mr)) : Met l y_bc_PB_listReferences (Cond.code y_bc_PB_listReferences prog_8_method_4_code 4 (some .int) :: bp_tb) ({ frames := 0, cells := 0, slots := 0, locals := 0 }) (bc_Pc E m sz [.ref (E.2.1 4), .ref (E.2.1 39)]) (bc_Qi E m sz r mr) 0 0 (va_A (bc_W E m) sz) := by
  refine Met.ofW (cc := prog_8_method_4_code) (maxL := 4) (ret := (some .int)) (by decide) rfl ?_
  intro p e s mt args below meth c s₁ B hml hv
  obtain ⟨rfl, hsz, hP, hK, hD0, hst⟩ := hv
  have hx := B.exec
  have hb := B.bytes
  have hr := B.returns
  have htb : ∀ w ∈ bp_tb, w.before _ s = true := fun w hw => atoms_spec (ws := Cond.code y_bc_PB_listReferences prog_8_method_4_code 4 (some .int) :: bp_tb) B.pre w (List.mem_cons_of_mem _ hw)
  have hown : s.vm.findClass "BlockPictures$PictureBuffer" = some mt.cls := findClass_of_methodNamed B.named
  have hlocks := B.notSynchronized
  subst hsz
  have hD := hD0.self (sz := s.heap.size)
  generalize hAe : va_A (bc_W E m) s.heap.size = A at hD hst ⊢
  have hsub : ∀ (u : bp_M) (z q : Nat), s.heap.size ≤ z → va_A (bc_W E u) z q → A q := bc_sub hAe
  have hS : va_S A s.heap s.heap [] := va_S.rf
  have hl := lv_entry ([.ref (E.2.1 4), .ref (E.2.1 39)]) (n := 4) (Nat.le_of_ble_eq_true rfl)
  rw [lg_entry_eq]
  generalize (lg_sl ([.ref (E.2.1 4), .ref (E.2.1 39)]) ++ List.replicate (4 - (lg_sl ([.ref (E.2.1 4), .ref (E.2.1 39)])).length) Slot.unset).toArray = ls at hl ⊢
  have hl : lv_has ls 4 [(0, .ref (E.2.1 4)), (1, .ref (E.2.1 39))] := hl
  refine bc_keyI (R := ({ frames := 0, cells := 0, slots := 0, locals := 0 })) E hx hb hr hlocks hK hAe (fun Q hret => ?_)
  clear B hD0 hlocks hr
  generalize ([.ref (E.2.1 4), .ref (E.2.1 39)] : List Value).toArray = args at htb hret ⊢
  clear hAe
  have hL43 : ∀ (x2 : Int32) (m : bp_M), bc_PB_listReferences_L43 N x2 m = some (r, mr) → ∀ (ls : Array Slot) (H : Heap) (locs : List Loc), lv_has ls 4 [(2, .int x2)] → va_P E.1 bp_cl (bc_W E m) H → va_D A (bc_W E m) → va_S A s.heap H locs → W p l e ({ frames := 0, cells := 0, slots := 0, locals := 0 }) s mt args below meth c H locs 0 0 Q (F0 mt 43 ls []) := by
    intro x2 m h ls H locs hl hP hD hS
    rw [bc_PB_listReferences_L43] at h
    refine lv_iload_n hx hb (dt_bc_PB_listReferences 25 rfl) rfl (lv_at hl 0 rfl) ?_
    exact hret _ _ _ _ _ _ h hP hD hS (dt_bc_PB_listReferences 26 rfl)
  have hL9 : ∀ (n9 : Nat) (x2 : Int32) (x3 : Int32) (m : bp_M), bc_PB_listReferences_L9 N n9 x2 x3 m = some (r, mr) → ∀ (ls : Array Slot) (H : Heap) (locs : List Loc), lv_has ls 4 [(0, .ref (E.2.1 4)), (1, .ref (E.2.1 39)), (2, .int x2), (3, .int x3)] → va_P E.1 bp_cl (bc_W E m) H → va_D A (bc_W E m) → va_S A s.heap H locs → W p l e ({ frames := 0, cells := 0, slots := 0, locals := 0 }) s mt args below meth c H locs 0 0 Q (F0 mt 9 ls []) := by
    intro n9
    induction n9 with
    | zero =>
      intro x2 x3 m h ls H locs hl hP hD hS
      rw [bc_PB_listReferences_L9] at h
      cases h
    | succ n9 ih9 =>
      have hL37 : ∀ (x2 : Int32) (x3 : Int32) (m : bp_M), bc_PB_listReferences_L37 (bc_PB_listReferences_L9 N n9) N x2 x3 m = some (r, mr) → ∀ (ls : Array Slot) (H : Heap) (locs : List Loc), lv_has ls 4 [(0, .ref (E.2.1 4)), (1, .ref (E.2.1 39)), (2, .int x2), (3, .int x3)] → va_P E.1 bp_cl (bc_W E m) H → va_D A (bc_W E m) → va_S A s.heap H locs → W p l e ({ frames := 0, cells := 0, slots := 0, locals := 0 }) s mt args below meth c H locs 0 0 Q (F0 mt 37 ls []) := by
        intro x2 x3 m h ls H locs hl hP hD hS
        rw [bc_PB_listReferences_L37] at h
        obtain ⟨y1, ey1⟩ : ∃ z : Int32, z = x3 + (-1) := ⟨_, rfl⟩
        replace h := bp_nI_s h ey1
        refine lv_iinc (k := 3) (v := y1) hx hb (dt_bc_PB_listReferences 23 rfl) hl rfl (by rw [ey1]; rfl) (Nat.le_of_ble_eq_true rfl) rfl (fun ls hl => ?_)
        have hl : lv_has ls 4 [(3, .int y1), (0, .ref (E.2.1 4)), (1, .ref (E.2.1 39)), (2, .int x2)] := hl
        refine lv_goto (tgt := 9) hx hb (dt_bc_PB_listReferences 24 rfl) (by decide) ?_
        exact ih9 _ _ _ h ls H locs (lv_sub hl [1, 2, 3, 0] rfl) hP hD hS
      intro x2 x3 m h ls H locs hl hP hD hS
      rw [bc_PB_listReferences_L9] at h
      refine lv_iload_n hx hb (dt_bc_PB_listReferences 7 rfl) rfl (lv_at hl 3 rfl) ?_
      refine lv_if_lt (tgt := 43) hx hb (dt_bc_PB_listReferences 8 rfl) (by decide) (fun hc => ?_) (fun hc => ?_)
      · replace h := (if_pos hc).symm.trans h
        exact hL43 _ _ h ls H locs (lv_sub hl [2] rfl) hP hD hS
      · replace h := (if_neg hc).symm.trans h
        refine lv_aload_n hx hb (dt_bc_PB_listReferences 9 rfl) rfl (lv_at hl 0 rfl) ?_
        refine va_get (D := E.1) (ci := 4) (v := .ref (E.2.1 40)) (C := "BlockPictures$PictureBuffer") (T := bF_PB) (N := 6) hx hb htb bc_in_PB hown hK hP 4 (bc_gPB E m) rfl 0 (by decide) (htb _ tw_307) (fun _ h9 => h9) rfl (dt_bc_PB_listReferences 10 rfl) ?_
        refine lv_iload_n hx hb (dt_bc_PB_listReferences 11 rfl) rfl (lv_at hl 3 rfl) ?_
        obtain ⟨hg1, h⟩ := bp_gi_s h
        refine bc_lP E hx hb hK hP (bc_ga40 E) hg1 (dt_bc_PB_listReferences 12 rfl) (fun q2 eq2 => ?_)
        replace h := bp_nN_s h eq2
        obtain ⟨hg3, h⟩ := bp_g_s h
        refine va_get (D := E.1) (ci := 9) (v := .int (m.1 q2 2)) (C := "BlockPictures$Picture") (T := bF_PI) (N := 4) hx hb htb bc_in_PI hown hK hP q2 (bc_gPI E m hg3) rfl 2 (by decide) (htb _ tw_194) (fun _ h9 => h9) rfl (dt_bc_PB_listReferences 13 rfl) ?_
        refine lv_if_eq (tgt := 37) hx hb (dt_bc_PB_listReferences 14 rfl) (by decide) (fun hc => ?_) (fun hc => ?_)
        · replace h := (if_pos hc).symm.trans h
          exact hL37 _ _ _ h ls H locs (lv_sub hl [0, 1, 2, 3] rfl) hP hD hS
        · replace h := (if_neg hc).symm.trans h
          refine lv_aload_n hx hb (dt_bc_PB_listReferences 15 rfl) rfl (lv_at hl 1 rfl) ?_
          refine lv_iload_n hx hb (dt_bc_PB_listReferences 16 rfl) rfl (lv_at hl 2 rfl) ?_
          refine lv_aload_n hx hb (dt_bc_PB_listReferences 17 rfl) rfl (lv_at hl 0 rfl) ?_
          refine va_get (D := E.1) (ci := 4) (v := .ref (E.2.1 40)) (C := "BlockPictures$PictureBuffer") (T := bF_PB) (N := 6) hx hb htb bc_in_PB hown hK hP 4 (bc_gPB E m) rfl 0 (by decide) (htb _ tw_307) (fun _ h9 => h9) rfl (dt_bc_PB_listReferences 18 rfl) ?_
          refine lv_iload_n hx hb (dt_bc_PB_listReferences 19 rfl) rfl (lv_at hl 3 rfl) ?_
          obtain ⟨hg4, h⟩ := bp_gi_s h
          refine bc_lP E hx hb hK hP (bc_ga40 E) hg4 (dt_bc_PB_listReferences 20 rfl) (fun q5 eq5 => ?_)
          replace h := bp_nN_s h eq5
          obtain ⟨hg6, h⟩ := bp_g_s h
          obtain ⟨hg7, h⟩ := bp_gi_s h
          refine bc_sP E hx hb hK hP hD hS (bc_ga39 E) hg6 hg7 (dt_bc_PB_listReferences 21 rfl) (fun m8 em8 H locs hP hD hS => ?_)
          replace h := bp_nM_s h em8
          obtain ⟨y9, ey9⟩ : ∃ z : Int32, z = x2 + 1 := ⟨_, rfl⟩
          replace h := bp_nI_s h ey9
          refine lv_iinc (k := 2) (v := y9) hx hb (dt_bc_PB_listReferences 22 rfl) hl rfl (by rw [ey9]; rfl) (Nat.le_of_ble_eq_true rfl) rfl (fun ls hl => ?_)
          have hl : lv_has ls 4 [(2, .int y9), (0, .ref (E.2.1 4)), (1, .ref (E.2.1 39)), (3, .int x3)] := hl
          exact hL37 _ _ _ h ls H locs (lv_sub hl [1, 2, 0, 3] rfl) hP hD hS
  suffices hgo : ∀ (H : Heap) (locs : List Loc), va_P E.1 bp_cl (bc_W E m) H → va_D A (bc_W E m) → va_S A s.heap H locs → W p l e ({ frames := 0, cells := 0, slots := 0, locals := 0 }) s mt args below meth c H locs 0 0 Q (F0 mt 0 ls []) from hgo _ _ hP hD hS
  clear hP hD hS
  intro H locs hP hD hS
  unfold bc_PB_listReferences at h
  refine lv_iconst (v := 0) hx hb (dt_bc_PB_listReferences 0 rfl) (by decide) ?_
  refine lv_istore_n hx hb (dt_bc_PB_listReferences 1 rfl) rfl hl (Nat.le_of_ble_eq_true rfl) rfl (fun ls hl => ?_)
  have hl : lv_has ls 4 [(2, .int 0), (0, .ref (E.2.1 4)), (1, .ref (E.2.1 39))] := hl
  refine lv_aload_n hx hb (dt_bc_PB_listReferences 2 rfl) rfl (lv_at hl 1 rfl) ?_
  refine va_get (D := E.1) (ci := 4) (v := .int (m.1 4 1)) (C := "BlockPictures$PictureBuffer") (T := bF_PB) (N := 6) hx hb htb bc_in_PB hown hK hP 4 (bc_gPB E m) rfl 1 (by decide) (htb _ tw_309) (fun _ h9 => h9) rfl (dt_bc_PB_listReferences 3 rfl) ?_
  refine lv_iconst (v := 1) hx hb (dt_bc_PB_listReferences 4 rfl) (by decide) ?_
  refine lv_isub hx hb (dt_bc_PB_listReferences 5 rfl) ?_
  refine lv_topi (fun y1 ey1 => ?_)
  replace h := bp_nI_s h ey1
  refine lv_istore_n hx hb (dt_bc_PB_listReferences 6 rfl) rfl hl (Nat.le_of_ble_eq_true rfl) rfl (fun ls hl => ?_)
  have hl : lv_has ls 4 [(3, .int y1), (2, .int 0), (0, .ref (E.2.1 4)), (1, .ref (E.2.1 39))] := hl
  exact hL9 _ _ _ _ h ls H locs (lv_sub hl [2, 3, 1, 0] rfl) hP hD hS
set_option maxHeartbeats 4000000 in
set_option maxRecDepth 100000 in
theorem wbc_PA_baseFor (l : Launch) (E : bc_E) (N : Nat) (a1 : Int32) (m : bp_M) (sz : Nat) (r : Int32) (mr : bp_M)  (h : bc_PA_baseFor N a1 m = some (r, mr)) : Met l y_bc_PA_baseFor (Cond.code y_bc_PA_baseFor prog_6_method_4_code 2 (some .int) :: bp_tb) ({ frames := 0, cells := 0, slots := 0, locals := 0 }) (bc_Pc E m sz [.ref (E.2.1 2), .int a1]) (bc_Qi E m sz r mr) 0 0 (va_A (bc_W E m) sz) := by
  refine Met.ofW (cc := prog_6_method_4_code) (maxL := 2) (ret := (some .int)) (by decide) rfl ?_
  intro p e s mt args below meth c s₁ B hml hv
  obtain ⟨rfl, hsz, hP, hK, hD0, hst⟩ := hv
  have hx := B.exec
  have hb := B.bytes
  have hr := B.returns
  have htb : ∀ w ∈ bp_tb, w.before _ s = true := fun w hw => atoms_spec (ws := Cond.code y_bc_PA_baseFor prog_6_method_4_code 2 (some .int) :: bp_tb) B.pre w (List.mem_cons_of_mem _ hw)
  have hown : s.vm.findClass "BlockPictures$Parameters" = some mt.cls := findClass_of_methodNamed B.named
  have hlocks := B.notSynchronized
  subst hsz
  have hD := hD0.self (sz := s.heap.size)
  generalize hAe : va_A (bc_W E m) s.heap.size = A at hD hst ⊢
  have hsub : ∀ (u : bp_M) (z q : Nat), s.heap.size ≤ z → va_A (bc_W E u) z q → A q := bc_sub hAe
  have hS : va_S A s.heap s.heap [] := va_S.rf
  have hl := lv_entry ([.ref (E.2.1 2), .int a1]) (n := 2) (Nat.le_of_ble_eq_true rfl)
  rw [lg_entry_eq]
  generalize (lg_sl ([.ref (E.2.1 2), .int a1]) ++ List.replicate (2 - (lg_sl ([.ref (E.2.1 2), .int a1])).length) Slot.unset).toArray = ls at hl ⊢
  have hl : lv_has ls 2 [(0, .ref (E.2.1 2)), (1, .int a1)] := hl
  refine bc_keyI (R := ({ frames := 0, cells := 0, slots := 0, locals := 0 })) E hx hb hr hlocks hK hAe (fun Q hret => ?_)
  clear B hD0 hlocks hr
  generalize ([.ref (E.2.1 2), .int a1] : List Value).toArray = args at htb hret ⊢
  clear hAe
  have hL22 : ∀ (s0 : Int32) (m : bp_M), bc_PA_baseFor_L22 N a1 s0 m = some (r, mr) → ∀ (ls : Array Slot) (H : Heap) (locs : List Loc), lv_has ls 2 [] → va_P E.1 bp_cl (bc_W E m) H → va_D A (bc_W E m) → va_S A s.heap H locs → W p l e ({ frames := 0, cells := 0, slots := 0, locals := 0 }) s mt args below meth c H locs 0 0 Q (F0 mt 22 ls [.int s0]) := by
    intro s0 m h ls H locs hl hP hD hS
    rw [bc_PA_baseFor_L22] at h
    exact hret _ _ _ _ _ _ h hP hD hS (dt_bc_PA_baseFor 10 rfl)
  have hL18 : ∀ (m : bp_M), bc_PA_baseFor_L18 N a1 m = some (r, mr) → ∀ (ls : Array Slot) (H : Heap) (locs : List Loc), lv_has ls 2 [(0, .ref (E.2.1 2))] → va_P E.1 bp_cl (bc_W E m) H → va_D A (bc_W E m) → va_S A s.heap H locs → W p l e ({ frames := 0, cells := 0, slots := 0, locals := 0 }) s mt args below meth c H locs 0 0 Q (F0 mt 18 ls []) := by
    intro m h ls H locs hl hP hD hS
    rw [bc_PA_baseFor_L18] at h
    refine lv_aload_n hx hb (dt_bc_PA_baseFor 8 rfl) rfl (lv_at hl 0 rfl) ?_
    refine va_get (D := E.1) (ci := 2) (v := .int (m.1 2 5)) (C := "BlockPictures$Parameters") (T := bF_PA) (N := 6) hx hb htb bc_in_PA hown hK hP 2 (bc_gPA E m) rfl 5 (by decide) (htb _ tw_135) (fun _ h9 => h9) rfl (dt_bc_PA_baseFor 9 rfl) ?_
    exact hL22 _ _ h ls H locs (lv_sub hl [] rfl) hP hD hS
  suffices hgo : ∀ (H : Heap) (locs : List Loc), va_P E.1 bp_cl (bc_W E m) H → va_D A (bc_W E m) → va_S A s.heap H locs → W p l e ({ frames := 0, cells := 0, slots := 0, locals := 0 }) s mt args below meth c H locs 0 0 Q (F0 mt 0 ls []) from hgo _ _ hP hD hS
  clear hP hD hS
  intro H locs hP hD hS
  unfold bc_PA_baseFor at h
  refine lv_iload_n hx hb (dt_bc_PA_baseFor 0 rfl) rfl (lv_at hl 1 rfl) ?_
  refine lv_if_eq (tgt := 18) hx hb (dt_bc_PA_baseFor 1 rfl) (by decide) (fun hc => ?_) (fun hc => ?_)
  · replace h := (if_pos hc).symm.trans h
    exact hL18 _ h ls H locs (lv_sub hl [0] rfl) hP hD hS
  · replace h := (if_neg hc).symm.trans h
    refine lv_aload_n hx hb (dt_bc_PA_baseFor 2 rfl) rfl (lv_at hl 0 rfl) ?_
    refine va_get (D := E.1) (ci := 2) (v := .int (m.1 2 0)) (C := "BlockPictures$Parameters") (T := bF_PA) (N := 6) hx hb htb bc_in_PA hown hK hP 2 (bc_gPA E m) rfl 0 (by decide) (htb _ tw_127) (fun _ h9 => h9) rfl (dt_bc_PA_baseFor 3 rfl) ?_
    refine lv_if_eq (tgt := 18) hx hb (dt_bc_PA_baseFor 4 rfl) (by decide) (fun hc => ?_) (fun hc => ?_)
    · replace h := (if_pos hc).symm.trans h
      exact hL18 _ h ls H locs (lv_sub hl [0] rfl) hP hD hS
    · replace h := (if_neg hc).symm.trans h
      refine lv_aload_n hx hb (dt_bc_PA_baseFor 5 rfl) rfl (lv_at hl 0 rfl) ?_
      refine va_get (D := E.1) (ci := 2) (v := .int (m.1 2 2)) (C := "BlockPictures$Parameters") (T := bF_PA) (N := 6) hx hb htb bc_in_PA hown hK hP 2 (bc_gPA E m) rfl 2 (by decide) (htb _ tw_130) (fun _ h9 => h9) rfl (dt_bc_PA_baseFor 6 rfl) ?_
      refine lv_goto (tgt := 22) hx hb (dt_bc_PA_baseFor 7 rfl) (by decide) ?_
      exact hL22 _ _ h ls H locs (lv_sub hl [] rfl) hP hD hS
set_option maxHeartbeats 4000000 in
set_option maxRecDepth 100000 in
theorem wbc_BR_signed (l : Launch) (E : bc_E) (N : Nat) (a0 : Int32) (m : bp_M) (sz : Nat) (r : Int32) (mr : bp_M)  (h : bc_BR_signed N a0 m = some (r, mr)) : Met l y_bc_BR_signed (Cond.code y_bc_BR_signed prog_2_method_9_code 1 (some .int) :: bp_tb) ({ frames := 0, cells := 0, slots := 0, locals := 0 }) (bc_Pc E m sz [.int a0]) (bc_Qi E m sz r mr) 0 0 (va_A (bc_W E m) sz) := by
  refine Met.ofW (cc := prog_2_method_9_code) (maxL := 1) (ret := (some .int)) (by decide) rfl ?_
  intro p e s mt args below meth c s₁ B hml hv
  obtain ⟨rfl, hsz, hP, hK, hD0, hst⟩ := hv
  have hx := B.exec
  have hb := B.bytes
  have hr := B.returns
  have htb : ∀ w ∈ bp_tb, w.before _ s = true := fun w hw => atoms_spec (ws := Cond.code y_bc_BR_signed prog_2_method_9_code 1 (some .int) :: bp_tb) B.pre w (List.mem_cons_of_mem _ hw)
  have hown : s.vm.findClass "BlockPictures$BitReader" = some mt.cls := findClass_of_methodNamed B.named
  have hlocks := B.notSynchronized
  subst hsz
  have hD := hD0.self (sz := s.heap.size)
  generalize hAe : va_A (bc_W E m) s.heap.size = A at hD hst ⊢
  have hsub : ∀ (u : bp_M) (z q : Nat), s.heap.size ≤ z → va_A (bc_W E u) z q → A q := bc_sub hAe
  have hS : va_S A s.heap s.heap [] := va_S.rf
  have hl := lv_entry ([.int a0]) (n := 1) (Nat.le_of_ble_eq_true rfl)
  rw [lg_entry_eq]
  generalize (lg_sl ([.int a0]) ++ List.replicate (1 - (lg_sl ([.int a0])).length) Slot.unset).toArray = ls at hl ⊢
  have hl : lv_has ls 1 [(0, .int a0)] := hl
  refine bc_keyI (R := ({ frames := 0, cells := 0, slots := 0, locals := 0 })) E hx hb hr hlocks hK hAe (fun Q hret => ?_)
  clear B hD0 hlocks hr
  generalize ([.int a0] : List Value).toArray = args at htb hret ⊢
  clear hAe
  have hL19 : ∀ (s0 : Int32) (m : bp_M), bc_BR_signed_L19 N a0 s0 m = some (r, mr) → ∀ (ls : Array Slot) (H : Heap) (locs : List Loc), lv_has ls 1 [] → va_P E.1 bp_cl (bc_W E m) H → va_D A (bc_W E m) → va_S A s.heap H locs → W p l e ({ frames := 0, cells := 0, slots := 0, locals := 0 }) s mt args below meth c H locs 0 0 Q (F0 mt 19 ls [.int s0]) := by
    intro s0 m h ls H locs hl hP hD hS
    rw [bc_BR_signed_L19] at h
    exact hret _ _ _ _ _ _ h hP hD hS (dt_bc_BR_signed 15 rfl)
  suffices hgo : ∀ (H : Heap) (locs : List Loc), va_P E.1 bp_cl (bc_W E m) H → va_D A (bc_W E m) → va_S A s.heap H locs → W p l e ({ frames := 0, cells := 0, slots := 0, locals := 0 }) s mt args below meth c H locs 0 0 Q (F0 mt 0 ls []) from hgo _ _ hP hD hS
  clear hP hD hS
  intro H locs hP hD hS
  unfold bc_BR_signed at h
  refine lv_iload_n hx hb (dt_bc_BR_signed 0 rfl) rfl (lv_at hl 0 rfl) ?_
  refine lv_iconst (v := 2) hx hb (dt_bc_BR_signed 1 rfl) (by decide) ?_
  refine lv_irem hx hb (dt_bc_BR_signed 2 rfl) (by decide) ?_
  refine lv_iconst (v := 1) hx hb (dt_bc_BR_signed 3 rfl) (by decide) ?_
  refine lv_icmp_ne (tgt := 15) hx hb (dt_bc_BR_signed 4 rfl) (by decide) (fun hc => ?_) (fun hc => ?_)
  · replace h := (if_pos hc).symm.trans h
    refine lv_iload_n hx hb (dt_bc_BR_signed 11 rfl) rfl (lv_at hl 0 rfl) ?_
    refine lv_iconst (v := 2) hx hb (dt_bc_BR_signed 12 rfl) (by decide) ?_
    refine lv_idiv hx hb (dt_bc_BR_signed 13 rfl) (by decide) ?_
    refine lv_ineg hx hb (dt_bc_BR_signed 14 rfl) ?_
    exact hL19 _ _ h ls H locs (lv_sub hl [] rfl) hP hD hS
  · replace h := (if_neg (fun hn => hn hc)).symm.trans h
    refine lv_iload_n hx hb (dt_bc_BR_signed 5 rfl) rfl (lv_at hl 0 rfl) ?_
    refine lv_iconst (v := 1) hx hb (dt_bc_BR_signed 6 rfl) (by decide) ?_
    refine lv_iadd hx hb (dt_bc_BR_signed 7 rfl) ?_
    refine lv_iconst (v := 2) hx hb (dt_bc_BR_signed 8 rfl) (by decide) ?_
    refine lv_idiv hx hb (dt_bc_BR_signed 9 rfl) (by decide) ?_
    refine lv_goto (tgt := 19) hx hb (dt_bc_BR_signed 10 rfl) (by decide) ?_
    exact hL19 _ _ h ls H locs (lv_sub hl [] rfl) hP hD hS
set_option maxHeartbeats 4000000 in
set_option maxRecDepth 100000 in
theorem wbc_BR_flag (l : Launch) (E : bc_E) (N : Nat)  (m : bp_M) (sz : Nat) (r : Int32) (mr : bp_M)  (h : bc_BR_flag N m = some (r, mr)) : Met l y_bc_BR_flag (Cond.code y_bc_BR_flag prog_2_method_7_code 1 (some .boolean) :: bp_tb) ({ frames := 1, cells := 0, slots := 0, locals := 21 }) (bc_Pc E m sz [.ref (E.2.1 6)]) (bc_Qi E m sz r mr) 0 0 (va_A (bc_W E m) sz) := by
  refine Met.ofW (cc := prog_2_method_7_code) (maxL := 1) (ret := (some .boolean)) (by decide) rfl ?_
  intro p e s mt args below meth c s₁ B hml hv
  obtain ⟨rfl, hsz, hP, hK, hD0, hst⟩ := hv
  have hx := B.exec
  have hb := B.bytes
  have hr := B.returns
  have htb : ∀ w ∈ bp_tb, w.before _ s = true := fun w hw => atoms_spec (ws := Cond.code y_bc_BR_flag prog_2_method_7_code 1 (some .boolean) :: bp_tb) B.pre w (List.mem_cons_of_mem _ hw)
  have hown : s.vm.findClass "BlockPictures$BitReader" = some mt.cls := findClass_of_methodNamed B.named
  have hlocks := B.notSynchronized
  subst hsz
  have hD := hD0.self (sz := s.heap.size)
  generalize hAe : va_A (bc_W E m) s.heap.size = A at hD hst ⊢
  have hsub : ∀ (u : bp_M) (z q : Nat), s.heap.size ≤ z → va_A (bc_W E u) z q → A q := bc_sub hAe
  have hS : va_S A s.heap s.heap [] := va_S.rf
  have hl := lv_entry ([.ref (E.2.1 6)]) (n := 1) (Nat.le_of_ble_eq_true rfl)
  rw [lg_entry_eq]
  generalize (lg_sl ([.ref (E.2.1 6)]) ++ List.replicate (1 - (lg_sl ([.ref (E.2.1 6)])).length) Slot.unset).toArray = ls at hl ⊢
  have hl : lv_has ls 1 [(0, .ref (E.2.1 6))] := hl
  refine bc_keyZ (R := ({ frames := 1, cells := 0, slots := 0, locals := 21 })) E hx hb hr hlocks hK hAe (fun Q hret => ?_)
  clear B hD0 hlocks hr
  generalize ([.ref (E.2.1 6)] : List Value).toArray = args at htb hret ⊢
  clear hAe
  have hL13 : ∀ (s0 : Int32) (m : bp_M), bc_BR_flag_L13 N s0 m = some (r, mr) → ∀ (ls : Array Slot) (H : Heap) (locs : List Loc), lv_has ls 1 [] → va_P E.1 bp_cl (bc_W E m) H → va_D A (bc_W E m) → va_S A s.heap H locs → W p l e ({ frames := 1, cells := 0, slots := 0, locals := 21 }) s mt args below meth c H locs 0 0 Q (F0 mt 13 ls [.int s0]) := by
    intro s0 m h ls H locs hl hP hD hS
    rw [bc_BR_flag_L13] at h
    obtain ⟨hg1, h⟩ := bp_g_s h
    exact hret _ _ _ _ _ _ hg1 h hP hD hS (dt_bc_BR_flag 7 rfl)
  suffices hgo : ∀ (H : Heap) (locs : List Loc), va_P E.1 bp_cl (bc_W E m) H → va_D A (bc_W E m) → va_S A s.heap H locs → W p l e ({ frames := 1, cells := 0, slots := 0, locals := 21 }) s mt args below meth c H locs 0 0 Q (F0 mt 0 ls []) from hgo _ _ hP hD hS
  clear hP hD hS
  intro H locs hP hD hS
  unfold bc_BR_flag at h
  refine lv_aload_n hx hb (dt_bc_BR_flag 0 rfl) rfl (lv_at hl 0 rfl) ?_
  obtain ⟨z2, m1, hm1, h⟩ := bp_cI_s h
  refine bc_callI E hsub hS (va_runV (As := []) (rest := []) ⟨hx, hb, hml, hown, htb⟩ (wbc_BR_nextBit l E N  m H.size z2 m1 hm1) (cwV 0 htb (bp_goodV tw_437 tw_439 tw_6 tw_73 tw_440) rfl rfl rfl ⟨rfl, hd_bc_BR_nextBit⟩ ⟨Nat.le_of_ble_eq_true rfl, Nat.le_of_ble_eq_true rfl⟩) (bc_preV E hsub hst hK hP hD hS (bc_gBR E m) rfl rfl _) rfl rfl hl.1 rfl (lv_room (Nat.le_of_ble_eq_true rfl)) (dt_bc_BR_flag 1 rfl) ⟨Nat.zero_le _, Nat.zero_le _⟩) (fun H locs hP hD hS => ?_)
  refine lv_iconst (v := 1) hx hb (dt_bc_BR_flag 2 rfl) (by decide) ?_
  refine lv_icmp_ne (tgt := 12) hx hb (dt_bc_BR_flag 3 rfl) (by decide) (fun hc => ?_) (fun hc => ?_)
  · replace h := (if_pos hc).symm.trans h
    refine lv_iconst (v := 0) hx hb (dt_bc_BR_flag 6 rfl) (by decide) ?_
    exact hL13 _ _ h ls H locs (lv_sub hl [] rfl) hP hD hS
  · replace h := (if_neg (fun hn => hn hc)).symm.trans h
    refine lv_iconst (v := 1) hx hb (dt_bc_BR_flag 4 rfl) (by decide) ?_
    refine lv_goto (tgt := 13) hx hb (dt_bc_BR_flag 5 rfl) (by decide) ?_
    exact hL13 _ _ h ls H locs (lv_sub hl [] rfl) hP hD hS
set_option maxHeartbeats 4000000 in
set_option maxRecDepth 100000 in
theorem wbc_PD_putFirst (l : Launch) (E : bc_E) (N : Nat) (a1 : Int32) (m : bp_M) (sz : Nat) (mr : bp_M)  (h : bc_PD_putFirst N a1 m = some mr) : Met l y_bc_PD_putFirst (Cond.code y_bc_PD_putFirst prog_9_method_5_code 4 none :: bp_tb) ({ frames := 0, cells := 0, slots := 0, locals := 0 }) (bc_Pc E m sz [.ref (E.2.1 3), .int a1]) (bc_Qv E m sz mr) 0 0 (va_A (bc_W E m) sz) := by
  refine Met.ofW (cc := prog_9_method_5_code) (maxL := 4) (ret := none) (by decide) rfl ?_
  intro p e s mt args below meth c s₁ B hml hv
  obtain ⟨rfl, hsz, hP, hK, hD0, hst⟩ := hv
  have hx := B.exec
  have hb := B.bytes
  have hr := B.returns
  have htb : ∀ w ∈ bp_tb, w.before _ s = true := fun w hw => atoms_spec (ws := Cond.code y_bc_PD_putFirst prog_9_method_5_code 4 none :: bp_tb) B.pre w (List.mem_cons_of_mem _ hw)
  have hown : s.vm.findClass "BlockPictures$PictureDecoder" = some mt.cls := findClass_of_methodNamed B.named
  have hlocks := B.notSynchronized
  subst hsz
  have hD := hD0.self (sz := s.heap.size)
  generalize hAe : va_A (bc_W E m) s.heap.size = A at hD hst ⊢
  have hsub : ∀ (u : bp_M) (z q : Nat), s.heap.size ≤ z → va_A (bc_W E u) z q → A q := bc_sub hAe
  have hS : va_S A s.heap s.heap [] := va_S.rf
  have hl := lv_entry ([.ref (E.2.1 3), .int a1]) (n := 4) (Nat.le_of_ble_eq_true rfl)
  rw [lg_entry_eq]
  generalize (lg_sl ([.ref (E.2.1 3), .int a1]) ++ List.replicate (4 - (lg_sl ([.ref (E.2.1 3), .int a1])).length) Slot.unset).toArray = ls at hl ⊢
  have hl : lv_has ls 4 [(0, .ref (E.2.1 3)), (1, .int a1)] := hl
  refine bc_keyV (R := ({ frames := 0, cells := 0, slots := 0, locals := 0 })) E hx hb hr hlocks hK hAe (fun Q hret => ?_)
  clear B hD0 hlocks hr
  generalize ([.ref (E.2.1 3), .int a1] : List Value).toArray = args at htb hret ⊢
  clear hAe
  have hL33 : ∀ (ql2 : Nat) (m : bp_M), bc_PD_putFirst_L33 N a1 ql2 m = some mr → isPI ql2 → ∀ (ls : Array Slot) (H : Heap) (locs : List Loc), lv_has ls 4 [(0, .ref (E.2.1 3)), (2, .ref (E.2.1 ql2))] → va_P E.1 bp_cl (bc_W E m) H → va_D A (bc_W E m) → va_S A s.heap H locs → W p l e ({ frames := 0, cells := 0, slots := 0, locals := 0 }) s mt args below meth c H locs 0 0 Q (F0 mt 33 ls []) := by
    intro ql2 m h hp_ql2 ls H locs hl hP hD hS
    rw [bc_PD_putFirst_L33] at h
    refine lv_aload_n hx hb (dt_bc_PD_putFirst 21 rfl) rfl (lv_at hl 0 rfl) ?_
    refine va_get (D := E.1) (ci := 3) (v := .ref (E.2.1 39)) (C := "BlockPictures$PictureDecoder") (T := bF_PD) (N := 11) hx hb htb bc_in_PD hown hK hP 3 (bc_gPD E m) rfl 3 (by decide) (htb _ tw_265) (fun _ h9 => h9) rfl (dt_bc_PD_putFirst 22 rfl) ?_
    refine lv_iconst (v := 0) hx hb (dt_bc_PD_putFirst 23 rfl) (by decide) ?_
    refine lv_aload_n hx hb (dt_bc_PD_putFirst 24 rfl) rfl (lv_at hl 1 rfl) ?_
    obtain ⟨hg1, h⟩ := bp_gi_s h
    refine bc_sP E hx hb hK hP hD hS (bc_ga39 E) hp_ql2 hg1 (dt_bc_PD_putFirst 25 rfl) (fun m2 em2 H locs hP hD hS => ?_)
    replace h := bp_nM_s h em2
    exact hret _ _ _ _ _ h hP hD hS (dt_bc_PD_putFirst 26 rfl)
  have hL9 : ∀ (n9 : Nat) (ql2 : Nat) (x3 : Int32) (m : bp_M), bc_PD_putFirst_L9 N a1 n9 ql2 x3 m = some mr → isPI ql2 → ∀ (ls : Array Slot) (H : Heap) (locs : List Loc), lv_has ls 4 [(0, .ref (E.2.1 3)), (2, .ref (E.2.1 ql2)), (3, .int x3)] → va_P E.1 bp_cl (bc_W E m) H → va_D A (bc_W E m) → va_S A s.heap H locs → W p l e ({ frames := 0, cells := 0, slots := 0, locals := 0 }) s mt args below meth c H locs 0 0 Q (F0 mt 9 ls []) := by
    intro n9
    induction n9 with
    | zero =>
      intro ql2 x3 m h hp_ql2 ls H locs hl hP hD hS
      rw [bc_PD_putFirst_L9] at h
      cases h
    | succ n9 ih9 =>
      intro ql2 x3 m h hp_ql2 ls H locs hl hP hD hS
      rw [bc_PD_putFirst_L9] at h
      refine lv_iload_n hx hb (dt_bc_PD_putFirst 7 rfl) rfl (lv_at hl 2 rfl) ?_
      refine lv_if_le (tgt := 33) hx hb (dt_bc_PD_putFirst 8 rfl) (by decide) (fun hc => ?_) (fun hc => ?_)
      · replace h := (if_pos hc).symm.trans h
        exact hL33 _ _ h hp_ql2 ls H locs (lv_sub hl [0, 1] rfl) hP hD hS
      · replace h := (if_neg hc).symm.trans h
        refine lv_aload_n hx hb (dt_bc_PD_putFirst 9 rfl) rfl (lv_at hl 0 rfl) ?_
        refine va_get (D := E.1) (ci := 3) (v := .ref (E.2.1 39)) (C := "BlockPictures$PictureDecoder") (T := bF_PD) (N := 11) hx hb htb bc_in_PD hown hK hP 3 (bc_gPD E m) rfl 3 (by decide) (htb _ tw_265) (fun _ h9 => h9) rfl (dt_bc_PD_putFirst 10 rfl) ?_
        refine lv_iload_n hx hb (dt_bc_PD_putFirst 11 rfl) rfl (lv_at hl 2 rfl) ?_
        refine lv_aload_n hx hb (dt_bc_PD_putFirst 12 rfl) rfl (lv_at hl 0 rfl) ?_
        refine va_get (D := E.1) (ci := 3) (v := .ref (E.2.1 39)) (C := "BlockPictures$PictureDecoder") (T := bF_PD) (N := 11) hx hb htb bc_in_PD hown hK hP 3 (bc_gPD E m) rfl 3 (by decide) (htb _ tw_265) (fun _ h9 => h9) rfl (dt_bc_PD_putFirst 13 rfl) ?_
        refine lv_iload_n hx hb (dt_bc_PD_putFirst 14 rfl) rfl (lv_at hl 2 rfl) ?_
        refine lv_iconst (v := 1) hx hb (dt_bc_PD_putFirst 15 rfl) (by decide) ?_
        refine lv_isub hx hb (dt_bc_PD_putFirst 16 rfl) ?_
        obtain ⟨hg1, h⟩ := bp_gi_s h
        refine bc_lP E hx hb hK hP (bc_ga39 E) hg1 (dt_bc_PD_putFirst 17 rfl) (fun q2 eq2 => ?_)
        replace h := bp_nN_s h eq2
        obtain ⟨hg3, h⟩ := bp_g_s h
        obtain ⟨hg4, h⟩ := bp_gi_s h
        refine bc_sP E hx hb hK hP hD hS (bc_ga39 E) hg3 hg4 (dt_bc_PD_putFirst 18 rfl) (fun m5 em5 H locs hP hD hS => ?_)
        replace h := bp_nM_s h em5
        obtain ⟨y6, ey6⟩ : ∃ z : Int32, z = x3 + (-1) := ⟨_, rfl⟩
        replace h := bp_nI_s h ey6
        refine lv_iinc (k := 2) (v := y6) hx hb (dt_bc_PD_putFirst 19 rfl) hl rfl (by rw [ey6]; rfl) (Nat.le_of_ble_eq_true rfl) rfl (fun ls hl => ?_)
        have hl : lv_has ls 4 [(3, .int y6), (0, .ref (E.2.1 3)), (2, .ref (E.2.1 ql2))] := hl
        refine lv_goto (tgt := 9) hx hb (dt_bc_PD_putFirst 20 rfl) (by decide) ?_
        exact ih9 _ _ _ h hp_ql2 ls H locs (lv_sub hl [1, 2, 0] rfl) hP hD hS
  suffices hgo : ∀ (H : Heap) (locs : List Loc), va_P E.1 bp_cl (bc_W E m) H → va_D A (bc_W E m) → va_S A s.heap H locs → W p l e ({ frames := 0, cells := 0, slots := 0, locals := 0 }) s mt args below meth c H locs 0 0 Q (F0 mt 0 ls []) from hgo _ _ hP hD hS
  clear hP hD hS
  intro H locs hP hD hS
  unfold bc_PD_putFirst at h
  refine lv_aload_n hx hb (dt_bc_PD_putFirst 0 rfl) rfl (lv_at hl 0 rfl) ?_
  refine va_get (D := E.1) (ci := 3) (v := .ref (E.2.1 39)) (C := "BlockPictures$PictureDecoder") (T := bF_PD) (N := 11) hx hb htb bc_in_PD hown hK hP 3 (bc_gPD E m) rfl 3 (by decide) (htb _ tw_265) (fun _ h9 => h9) rfl (dt_bc_PD_putFirst 1 rfl) ?_
  refine lv_iload_n hx hb (dt_bc_PD_putFirst 2 rfl) rfl (lv_at hl 1 rfl) ?_
  obtain ⟨hg1, h⟩ := bp_gi_s h
  refine bc_lP E hx hb hK hP (bc_ga39 E) hg1 (dt_bc_PD_putFirst 3 rfl) (fun q2 eq2 => ?_)
  replace h := bp_nN_s h eq2
  obtain ⟨hg3, h⟩ := bp_g_s h
  refine lv_astore_n hx hb (dt_bc_PD_putFirst 4 rfl) rfl hl (Nat.le_of_ble_eq_true rfl) rfl (fun ls hl => ?_)
  have hl : lv_has ls 4 [(2, .ref (E.2.1 q2)), (0, .ref (E.2.1 3)), (1, .int a1)] := hl
  refine lv_iload_n hx hb (dt_bc_PD_putFirst 5 rfl) rfl (lv_at hl 2 rfl) ?_
  refine lv_istore_n hx hb (dt_bc_PD_putFirst 6 rfl) rfl hl (Nat.le_of_ble_eq_true rfl) rfl (fun ls hl => ?_)
  have hl : lv_has ls 4 [(3, .int a1), (2, .ref (E.2.1 q2)), (0, .ref (E.2.1 3)), (1, .int a1)] := hl
  exact hL9 _ _ _ _ h hg3 ls H locs (lv_sub hl [2, 1, 0] rfl) hP hD hS
set_option maxHeartbeats 4000000 in
set_option maxRecDepth 100000 in
theorem wbc_PD_readUseOfReferences (l : Launch) (E : bc_E) (N : Nat) (a1 : Int32) (m : bp_M) (sz : Nat) (mr : bp_M)  (h : bc_PD_readUseOfReferences N a1 m = some mr) : Met l y_bc_PD_readUseOfReferences (Cond.code y_bc_PD_readUseOfReferences prog_9_method_4_code 3 none :: bp_tb) ({ frames := 2, cells := 0, slots := 0, locals := 46 }) (bc_Pc E m sz [.ref (E.2.1 3), .int a1]) (bc_Qv E m sz mr) 0 0 (va_A (bc_W E m) sz) := by
  refine Met.ofW (cc := prog_9_method_4_code) (maxL := 3) (ret := none) (by decide) rfl ?_
  intro p e s mt args below meth c s₁ B hml hv
  obtain ⟨rfl, hsz, hP, hK, hD0, hst⟩ := hv
  have hx := B.exec
  have hb := B.bytes
  have hr := B.returns
  have htb : ∀ w ∈ bp_tb, w.before _ s = true := fun w hw => atoms_spec (ws := Cond.code y_bc_PD_readUseOfReferences prog_9_method_4_code 3 none :: bp_tb) B.pre w (List.mem_cons_of_mem _ hw)
  have hown : s.vm.findClass "BlockPictures$PictureDecoder" = some mt.cls := findClass_of_methodNamed B.named
  have hlocks := B.notSynchronized
  subst hsz
  have hD := hD0.self (sz := s.heap.size)
  generalize hAe : va_A (bc_W E m) s.heap.size = A at hD hst ⊢
  have hsub : ∀ (u : bp_M) (z q : Nat), s.heap.size ≤ z → va_A (bc_W E u) z q → A q := bc_sub hAe
  have hS : va_S A s.heap s.heap [] := va_S.rf
  have hl := lv_entry ([.ref (E.2.1 3), .int a1]) (n := 3) (Nat.le_of_ble_eq_true rfl)
  rw [lg_entry_eq]
  generalize (lg_sl ([.ref (E.2.1 3), .int a1]) ++ List.replicate (3 - (lg_sl ([.ref (E.2.1 3), .int a1])).length) Slot.unset).toArray = ls at hl ⊢
  have hl : lv_has ls 3 [(0, .ref (E.2.1 3)), (1, .int a1)] := hl
  refine bc_keyV (R := ({ frames := 2, cells := 0, slots := 0, locals := 46 })) E hx hb hr hlocks hK hAe (fun Q hret => ?_)
  clear B hD0 hlocks hr
  generalize ([.ref (E.2.1 3), .int a1] : List Value).toArray = args at htb hret ⊢
  clear hAe
  have hL82 : ∀ (x2 : Int32) (m : bp_M), bc_PD_readUseOfReferences_L82 N a1 x2 m = some mr → ∀ (ls : Array Slot) (H : Heap) (locs : List Loc), lv_has ls 3 [(0, .ref (E.2.1 3)), (2, .int x2)] → va_P E.1 bp_cl (bc_W E m) H → va_D A (bc_W E m) → va_S A s.heap H locs → W p l e ({ frames := 2, cells := 0, slots := 0, locals := 46 }) s mt args below meth c H locs 0 0 Q (F0 mt 82 ls []) := by
    intro x2 m h ls H locs hl hP hD hS
    rw [bc_PD_readUseOfReferences_L82] at h
    refine lv_aload_n hx hb (dt_bc_PD_readUseOfReferences 41 rfl) rfl (lv_at hl 0 rfl) ?_
    refine lv_iload_n hx hb (dt_bc_PD_readUseOfReferences 42 rfl) rfl (lv_at hl 1 rfl) ?_
    obtain ⟨m1, hm1, h⟩ := bp_cV_s h
    refine bc_callV E hsub hS (va_runV (As := [.int x2]) (rest := []) ⟨hx, hb, hml, hown, htb⟩ (wbc_PD_putFirst l E N x2 m H.size m1 hm1) (cwV 1 htb (bp_goodV tw_474 tw_476 tw_9 tw_72 tw_477) rfl rfl rfl ⟨rfl, hd_bc_PD_putFirst⟩ ⟨Nat.le_of_ble_eq_true rfl, Nat.le_of_ble_eq_true rfl⟩) (bc_preV E hsub hst hK hP hD hS (bc_gPD E m) rfl rfl _) rfl rfl hl.1 rfl (lv_room (Nat.le_of_ble_eq_true rfl)) (dt_bc_PD_readUseOfReferences 43 rfl) ⟨Nat.zero_le _, Nat.zero_le _⟩) (fun H locs hP hD hS => ?_)
    exact hret _ _ _ _ _ h hP hD hS (dt_bc_PD_readUseOfReferences 44 rfl)
  have hL48 : ∀ (s0 : Int32) (m : bp_M), bc_PD_readUseOfReferences_L48 N a1 s0 m = some mr → ∀ (ls : Array Slot) (H : Heap) (locs : List Loc), lv_has ls 3 [(0, .ref (E.2.1 3)), (1, .int a1)] → va_P E.1 bp_cl (bc_W E m) H → va_D A (bc_W E m) → va_S A s.heap H locs → W p l e ({ frames := 2, cells := 0, slots := 0, locals := 46 }) s mt args below meth c H locs 0 0 Q (F0 mt 48 ls [.int s0]) := by
    intro s0 m h ls H locs hl hP hD hS
    rw [bc_PD_readUseOfReferences_L48] at h
    refine lv_istore_n hx hb (dt_bc_PD_readUseOfReferences 24 rfl) rfl hl (Nat.le_of_ble_eq_true rfl) rfl (fun ls hl => ?_)
    have hl : lv_has ls 3 [(2, .int s0), (0, .ref (E.2.1 3)), (1, .int a1)] := hl
    refine lv_iload_n hx hb (dt_bc_PD_readUseOfReferences 25 rfl) rfl (lv_at hl 2 rfl) ?_
    refine lv_if_le (tgt := 82) hx hb (dt_bc_PD_readUseOfReferences 26 rfl) (by decide) (fun hc => ?_) (fun hc => ?_)
    · replace h := (if_pos hc).symm.trans h
      exact hL82 _ _ h ls H locs (lv_sub hl [1, 0] rfl) hP hD hS
    · replace h := (if_neg hc).symm.trans h
      refine lv_aload_n hx hb (dt_bc_PD_readUseOfReferences 27 rfl) rfl (lv_at hl 1 rfl) ?_
      refine va_get (D := E.1) (ci := 3) (v := .ref (E.2.1 6)) (C := "BlockPictures$PictureDecoder") (T := bF_PD) (N := 11) hx hb htb bc_in_PD hown hK hP 3 (bc_gPD E m) rfl 0 (by decide) (htb _ tw_259) (fun _ h9 => h9) rfl (dt_bc_PD_readUseOfReferences 28 rfl) ?_
      obtain ⟨z2, m1, hm1, h⟩ := bp_cI_s h
      refine bc_callI E hsub hS (va_runV (As := []) (rest := []) ⟨hx, hb, hml, hown, htb⟩ (wbc_BR_flag l E N  m H.size z2 m1 hm1) (cwV 0 htb (bp_goodV tw_470 tw_471 tw_472 tw_73 tw_473) rfl rfl rfl ⟨rfl, hd_bc_BR_flag⟩ ⟨Nat.le_of_ble_eq_true rfl, Nat.le_of_ble_eq_true rfl⟩) (bc_preV E hsub hst hK hP hD hS (bc_gBR E m) rfl rfl _) rfl rfl hl.1 rfl (lv_room (Nat.le_of_ble_eq_true rfl)) (dt_bc_PD_readUseOfReferences 29 rfl) ⟨Nat.zero_le _, Nat.zero_le _⟩) (fun H locs hP hD hS => ?_)
      refine lv_if_eq (tgt := 82) hx hb (dt_bc_PD_readUseOfReferences 30 rfl) (by decide) (fun hc => ?_) (fun hc => ?_)
      · replace h := (if_pos hc).symm.trans h
        exact hL82 _ _ h ls H locs (lv_sub hl [1, 0] rfl) hP hD hS
      · replace h := (if_neg hc).symm.trans h
        refine lv_aload_n hx hb (dt_bc_PD_readUseOfReferences 31 rfl) rfl (lv_at hl 1 rfl) ?_
        refine lv_aload_n hx hb (dt_bc_PD_readUseOfReferences 32 rfl) rfl (lv_at hl 1 rfl) ?_
        refine va_get (D := E.1) (ci := 3) (v := .ref (E.2.1 6)) (C := "BlockPictures$PictureDecoder") (T := bF_PD) (N := 11) hx hb htb bc_in_PD hown hK hP 3 (bc_gPD E m1) rfl 0 (by decide) (htb _ tw_259) (fun _ h9 => h9) rfl (dt_bc_PD_readUseOfReferences 33 rfl) ?_
        refine lv_aload_n hx hb (dt_bc_PD_readUseOfReferences 34 rfl) rfl (lv_at hl 1 rfl) ?_
        refine va_get (D := E.1) (ci := 3) (v := .int (m1.1 3 4)) (C := "BlockPictures$PictureDecoder") (T := bF_PD) (N := 11) hx hb htb bc_in_PD hown hK hP 3 (bc_gPD E m1) rfl 4 (by decide) (htb _ tw_267) (fun _ h9 => h9) rfl (dt_bc_PD_readUseOfReferences 35 rfl) ?_
        refine lv_iconst (v := 1) hx hb (dt_bc_PD_readUseOfReferences 36 rfl) (by decide) ?_
        refine lv_isub hx hb (dt_bc_PD_readUseOfReferences 37 rfl) ?_
        refine lv_bipush (v := 8) hx hb (dt_bc_PD_readUseOfReferences 38 rfl) (by decide) ?_
        obtain ⟨z4, m3, hm3, h⟩ := bp_cI_s h
        refine bc_callI E hsub hS (va_runV (As := [.int ((m1.1 3 4) - 1 : Int32), .int 8]) (rest := [.ref (E.2.1 3)]) ⟨hx, hb, hml, hown, htb⟩ (wbc_BR_number l E N ((m1.1 3 4) - 1 : Int32) 8 m1 H.size z4 m3 hm3) (cwV 2 htb (bp_goodV tw_461 tw_434 tw_435 tw_73 tw_436) rfl rfl rfl ⟨rfl, hd_bc_BR_number⟩ ⟨Nat.le_of_ble_eq_true rfl, Nat.le_of_ble_eq_true rfl⟩) (bc_preV E hsub hst hK hP hD hS (bc_gBR E m1) rfl rfl _) rfl rfl hl.1 rfl (lv_room (Nat.le_of_ble_eq_true rfl)) (dt_bc_PD_readUseOfReferences 39 rfl) ⟨Nat.zero_le _, Nat.zero_le _⟩) (fun H locs hP hD hS => ?_)
        refine bc_pPD_5 E hx hb htb hown hK hP hD hS (htb _ tw_269) (dt_bc_PD_readUseOfReferences 40 rfl) (fun m5 em5 H locs hP hD hS => ?_)
        replace h := bp_nM_s h em5
        exact hL82 _ _ h ls H locs (lv_sub hl [1, 0] rfl) hP hD hS
  suffices hgo : ∀ (H : Heap) (locs : List Loc), va_P E.1 bp_cl (bc_W E m) H → va_D A (bc_W E m) → va_S A s.heap H locs → W p l e ({ frames := 2, cells := 0, slots := 0, locals := 46 }) s mt args below meth c H locs 0 0 Q (F0 mt 0 ls []) from hgo _ _ hP hD hS
  clear hP hD hS
  intro H locs hP hD hS
  unfold bc_PD_readUseOfReferences at h
  refine lv_aload_n hx hb (dt_bc_PD_readUseOfReferences 0 rfl) rfl (lv_at hl 0 rfl) ?_
  refine lv_aload_n hx hb (dt_bc_PD_readUseOfReferences 1 rfl) rfl (lv_at hl 0 rfl) ?_
  refine va_get (D := E.1) (ci := 3) (v := .ref (E.2.1 6)) (C := "BlockPictures$PictureDecoder") (T := bF_PD) (N := 11) hx hb htb bc_in_PD hown hK hP 3 (bc_gPD E m) rfl 0 (by decide) (htb _ tw_259) (fun _ h9 => h9) rfl (dt_bc_PD_readUseOfReferences 2 rfl) ?_
  refine lv_aload_n hx hb (dt_bc_PD_readUseOfReferences 3 rfl) rfl (lv_at hl 0 rfl) ?_
  refine va_get (D := E.1) (ci := 3) (v := .int (m.1 3 4)) (C := "BlockPictures$PictureDecoder") (T := bF_PD) (N := 11) hx hb htb bc_in_PD hown hK hP 3 (bc_gPD E m) rfl 4 (by decide) (htb _ tw_267) (fun _ h9 => h9) rfl (dt_bc_PD_readUseOfReferences 4 rfl) ?_
  refine lv_iconst (v := 1) hx hb (dt_bc_PD_readUseOfReferences 5 rfl) (by decide) ?_
  refine lv_isub hx hb (dt_bc_PD_readUseOfReferences 6 rfl) ?_
  refine lv_bipush (v := 8) hx hb (dt_bc_PD_readUseOfReferences 7 rfl) (by decide) ?_
  obtain ⟨z2, m1, hm1, h⟩ := bp_cI_s h
  refine bc_callI E hsub hS (va_runV (As := [.int ((m.1 3 4) - 1 : Int32), .int 8]) (rest := [.ref (E.2.1 3)]) ⟨hx, hb, hml, hown, htb⟩ (wbc_BR_number l E N ((m.1 3 4) - 1 : Int32) 8 m H.size z2 m1 hm1) (cwV 2 htb (bp_goodV tw_461 tw_434 tw_435 tw_73 tw_436) rfl rfl rfl ⟨rfl, hd_bc_BR_number⟩ ⟨Nat.le_of_ble_eq_true rfl, Nat.le_of_ble_eq_true rfl⟩) (bc_preV E hsub hst hK hP hD hS (bc_gBR E m) rfl rfl _) rfl rfl hl.1 rfl (lv_room (Nat.le_of_ble_eq_true rfl)) (dt_bc_PD_readUseOfReferences 8 rfl) ⟨Nat.zero_le _, Nat.zero_le _⟩) (fun H locs hP hD hS => ?_)
  refine bc_pPD_9 E hx hb htb hown hK hP hD hS (htb _ tw_274) (dt_bc_PD_readUseOfReferences 9 rfl) (fun m3 em3 H locs hP hD hS => ?_)
  replace h := bp_nM_s h em3
  refine lv_aload_n hx hb (dt_bc_PD_readUseOfReferences 10 rfl) rfl (lv_at hl 0 rfl) ?_
  refine va_get (D := E.1) (ci := 3) (v := .ref (E.2.1 6)) (C := "BlockPictures$PictureDecoder") (T := bF_PD) (N := 11) hx hb htb bc_in_PD hown hK hP 3 (bc_gPD E m3) rfl 0 (by decide) (htb _ tw_259) (fun _ h9 => h9) rfl (dt_bc_PD_readUseOfReferences 11 rfl) ?_
  obtain ⟨z5, m4, hm4, h⟩ := bp_cI_s h
  refine bc_callI E hsub hS (va_runV (As := []) (rest := []) ⟨hx, hb, hml, hown, htb⟩ (wbc_BR_flag l E N  m3 H.size z5 m4 hm4) (cwV 0 htb (bp_goodV tw_470 tw_471 tw_472 tw_73 tw_473) rfl rfl rfl ⟨rfl, hd_bc_BR_flag⟩ ⟨Nat.le_of_ble_eq_true rfl, Nat.le_of_ble_eq_true rfl⟩) (bc_preV E hsub hst hK hP hD hS (bc_gBR E m3) rfl rfl _) rfl rfl hl.1 rfl (lv_room (Nat.le_of_ble_eq_true rfl)) (dt_bc_PD_readUseOfReferences 12 rfl) ⟨Nat.zero_le _, Nat.zero_le _⟩) (fun H locs hP hD hS => ?_)
  refine lv_if_eq (tgt := 47) hx hb (dt_bc_PD_readUseOfReferences 13 rfl) (by decide) (fun hc => ?_) (fun hc => ?_)
  · replace h := (if_pos hc).symm.trans h
    refine lv_iconst (v := 0) hx hb (dt_bc_PD_readUseOfReferences 23 rfl) (by decide) ?_
    exact hL48 _ _ h ls H locs (lv_sub hl [0, 1] rfl) hP hD hS
  · replace h := (if_neg hc).symm.trans h
    refine lv_aload_n hx hb (dt_bc_PD_readUseOfReferences 14 rfl) rfl (lv_at hl 0 rfl) ?_
    refine va_get (D := E.1) (ci := 3) (v := .ref (E.2.1 6)) (C := "BlockPictures$PictureDecoder") (T := bF_PD) (N := 11) hx hb htb bc_in_PD hown hK hP 3 (bc_gPD E m4) rfl 0 (by decide) (htb _ tw_259) (fun _ h9 => h9) rfl (dt_bc_PD_readUseOfReferences 15 rfl) ?_
    refine lv_aload_n hx hb (dt_bc_PD_readUseOfReferences 16 rfl) rfl (lv_at hl 0 rfl) ?_
    refine va_get (D := E.1) (ci := 3) (v := .int (m4.1 3 4)) (C := "BlockPictures$PictureDecoder") (T := bF_PD) (N := 11) hx hb htb bc_in_PD hown hK hP 3 (bc_gPD E m4) rfl 4 (by decide) (htb _ tw_267) (fun _ h9 => h9) rfl (dt_bc_PD_readUseOfReferences 17 rfl) ?_
    refine lv_iconst (v := 1) hx hb (dt_bc_PD_readUseOfReferences 18 rfl) (by decide) ?_
    refine lv_isub hx hb (dt_bc_PD_readUseOfReferences 19 rfl) ?_
    refine lv_bipush (v := 8) hx hb (dt_bc_PD_readUseOfReferences 20 rfl) (by decide) ?_
    obtain ⟨z7, m6, hm6, h⟩ := bp_cI_s h
    refine bc_callI E hsub hS (va_runV (As := [.int ((m4.1 3 4) - 1 : Int32), .int 8]) (rest := []) ⟨hx, hb, hml, hown, htb⟩ (wbc_BR_number l E N ((m4.1 3 4) - 1 : Int32) 8 m4 H.size z7 m6 hm6) (cwV 2 htb (bp_goodV tw_461 tw_434 tw_435 tw_73 tw_436) rfl rfl rfl ⟨rfl, hd_bc_BR_number⟩ ⟨Nat.le_of_ble_eq_true rfl, Nat.le_of_ble_eq_true rfl⟩) (bc_preV E hsub hst hK hP hD hS (bc_gBR E m4) rfl rfl _) rfl rfl hl.1 rfl (lv_room (Nat.le_of_ble_eq_true rfl)) (dt_bc_PD_readUseOfReferences 21 rfl) ⟨Nat.zero_le _, Nat.zero_le _⟩) (fun H locs hP hD hS => ?_)
    refine lv_goto (tgt := 48) hx hb (dt_bc_PD_readUseOfReferences 22 rfl) (by decide) ?_
    exact hL48 _ _ h ls H locs (lv_sub hl [0, 1] rfl) hP hD hS
set_option maxHeartbeats 4000000 in
set_option maxRecDepth 100000 in
theorem wbc_PD_readHeader (l : Launch) (E : bc_E) (N : Nat) (a1 : Int32) (a2 : Int32) (a3 : Int32) (m : bp_M) (sz : Nat) (mr : bp_M)  (h : bc_PD_readHeader N a1 a2 a3 m = some mr) : Met l y_bc_PD_readHeader (Cond.code y_bc_PD_readHeader prog_9_method_3_code 4 none :: bp_tb) ({ frames := 3, cells := 0, slots := 0, locals := 68 }) (bc_Pc E m sz [.ref (E.2.1 3), .int a1, .int a2, .int a3]) (bc_Qv E m sz mr) 0 0 (va_A (bc_W E m) sz) := by
  refine Met.ofW (cc := prog_9_method_3_code) (maxL := 4) (ret := none) (by decide) rfl ?_
  intro p e s mt args below meth c s₁ B hml hv
  obtain ⟨rfl, hsz, hP, hK, hD0, hst⟩ := hv
  have hx := B.exec
  have hb := B.bytes
  have hr := B.returns
  have htb : ∀ w ∈ bp_tb, w.before _ s = true := fun w hw => atoms_spec (ws := Cond.code y_bc_PD_readHeader prog_9_method_3_code 4 none :: bp_tb) B.pre w (List.mem_cons_of_mem _ hw)
  have hown : s.vm.findClass "BlockPictures$PictureDecoder" = some mt.cls := findClass_of_methodNamed B.named
  have hlocks := B.notSynchronized
  subst hsz
  have hD := hD0.self (sz := s.heap.size)
  generalize hAe : va_A (bc_W E m) s.heap.size = A at hD hst ⊢
  have hsub : ∀ (u : bp_M) (z q : Nat), s.heap.size ≤ z → va_A (bc_W E u) z q → A q := bc_sub hAe
  have hS : va_S A s.heap s.heap [] := va_S.rf
  have hl := lv_entry ([.ref (E.2.1 3), .int a1, .int a2, .int a3]) (n := 4) (Nat.le_of_ble_eq_true rfl)
  rw [lg_entry_eq]
  generalize (lg_sl ([.ref (E.2.1 3), .int a1, .int a2, .int a3]) ++ List.replicate (4 - (lg_sl ([.ref (E.2.1 3), .int a1, .int a2, .int a3])).length) Slot.unset).toArray = ls at hl ⊢
  have hl : lv_has ls 4 [(0, .ref (E.2.1 3)), (1, .int a1), (2, .int a2), (3, .int a3)] := hl
  refine bc_keyV (R := ({ frames := 3, cells := 0, slots := 0, locals := 68 })) E hx hb hr hlocks hK hAe (fun Q hret => ?_)
  clear B hD0 hlocks hr
  generalize ([.ref (E.2.1 3), .int a1, .int a2, .int a3] : List Value).toArray = args at htb hret ⊢
  clear hAe
  have hL104 : ∀ (m : bp_M), bc_PD_readHeader_L104 N a1 a2 a3 m = some mr → ∀ (ls : Array Slot) (H : Heap) (locs : List Loc), lv_has ls 4 [] → va_P E.1 bp_cl (bc_W E m) H → va_D A (bc_W E m) → va_S A s.heap H locs → W p l e ({ frames := 3, cells := 0, slots := 0, locals := 68 }) s mt args below meth c H locs 0 0 Q (F0 mt 104 ls []) := by
    intro m h ls H locs hl hP hD hS
    rw [bc_PD_readHeader_L104] at h
    exact hret _ _ _ _ _ h hP hD hS (dt_bc_PD_readHeader 51 rfl)
  have hL90 : ∀ (m : bp_M), bc_PD_readHeader_L90 N a1 a2 a3 m = some mr → ∀ (ls : Array Slot) (H : Heap) (locs : List Loc), lv_has ls 4 [(0, .ref (E.2.1 3)), (1, .int a1), (2, .int a2)] → va_P E.1 bp_cl (bc_W E m) H → va_D A (bc_W E m) → va_S A s.heap H locs → W p l e ({ frames := 3, cells := 0, slots := 0, locals := 68 }) s mt args below meth c H locs 0 0 Q (F0 mt 90 ls []) := by
    intro m h ls H locs hl hP hD hS
    rw [bc_PD_readHeader_L90] at h
    refine lv_aload_n hx hb (dt_bc_PD_readHeader 43 rfl) rfl (lv_at hl 0 rfl) ?_
    refine lv_iconst (v := (-1)) hx hb (dt_bc_PD_readHeader 44 rfl) (by decide) ?_
    refine bc_pPD_5 E hx hb htb hown hK hP hD hS (htb _ tw_269) (dt_bc_PD_readHeader 45 rfl) (fun m1 em1 H locs hP hD hS => ?_)
    replace h := bp_nM_s h em1
    refine lv_iload_n hx hb (dt_bc_PD_readHeader 46 rfl) rfl (lv_at hl 1 rfl) ?_
    refine lv_if_ne (tgt := 104) hx hb (dt_bc_PD_readHeader 47 rfl) (by decide) (fun hc => ?_) (fun hc => ?_)
    · replace h := (if_pos hc).symm.trans h
      exact hL104 _ h ls H locs (lv_sub hl [] rfl) hP hD hS
    · replace h := (if_neg (fun hn => hn hc)).symm.trans h
      refine lv_aload_n hx hb (dt_bc_PD_readHeader 48 rfl) rfl (lv_at hl 0 rfl) ?_
      refine lv_iload_n hx hb (dt_bc_PD_readHeader 49 rfl) rfl (lv_at hl 2 rfl) ?_
      obtain ⟨m2, hm2, h⟩ := bp_cV_s h
      refine bc_callV E hsub hS (va_runV (As := [.int a2]) (rest := []) ⟨hx, hb, hml, hown, htb⟩ (wbc_PD_readUseOfReferences l E N a2 m1 H.size m2 hm2) (cwV 1 htb (bp_goodV tw_466 tw_468 tw_8 tw_72 tw_469) rfl rfl rfl ⟨rfl, hd_bc_PD_readUseOfReferences⟩ ⟨Nat.le_of_ble_eq_true rfl, Nat.le_of_ble_eq_true rfl⟩) (bc_preV E hsub hst hK hP hD hS (bc_gPD E m1) rfl rfl _) rfl rfl hl.1 rfl (lv_room (Nat.le_of_ble_eq_true rfl)) (dt_bc_PD_readHeader 50 rfl) ⟨Nat.zero_le _, Nat.zero_le _⟩) (fun H locs hP hD hS => ?_)
      exact hL104 _ h ls H locs (lv_sub hl [] rfl) hP hD hS
  have hL82 : ∀ (m : bp_M), bc_PD_readHeader_L82 N a1 a2 a3 m = some mr → ∀ (ls : Array Slot) (H : Heap) (locs : List Loc), lv_has ls 4 [(0, .ref (E.2.1 3)), (1, .int a1), (2, .int a2)] → va_P E.1 bp_cl (bc_W E m) H → va_D A (bc_W E m) → va_S A s.heap H locs → W p l e ({ frames := 3, cells := 0, slots := 0, locals := 68 }) s mt args below meth c H locs 0 0 Q (F0 mt 82 ls []) := by
    intro m h ls H locs hl hP hD hS
    rw [bc_PD_readHeader_L82] at h
    refine lv_aload_n hx hb (dt_bc_PD_readHeader 39 rfl) rfl (lv_at hl 0 rfl) ?_
    refine va_get (D := E.1) (ci := 3) (v := .ref (E.2.1 6)) (C := "BlockPictures$PictureDecoder") (T := bF_PD) (N := 11) hx hb htb bc_in_PD hown hK hP 3 (bc_gPD E m) rfl 0 (by decide) (htb _ tw_259) (fun _ h9 => h9) rfl (dt_bc_PD_readHeader 40 rfl) ?_
    refine lv_iconst (v := 5) hx hb (dt_bc_PD_readHeader 41 rfl) (by decide) ?_
    obtain ⟨m1, hm1, h⟩ := bp_cV_s h
    refine bc_callV E hsub hS (va_runV (As := [.int 5]) (rest := []) ⟨hx, hb, hml, hown, htb⟩ (wbc_BR_fail l E N 5 m H.size m1 hm1) (cwV 1 htb (bp_goodV tw_465 tw_421 tw_422 tw_73 tw_423) rfl rfl rfl ⟨rfl, hd_bc_BR_fail⟩ ⟨Nat.le_of_ble_eq_true rfl, Nat.le_of_ble_eq_true rfl⟩) (bc_preV E hsub hst hK hP hD hS (bc_gBR E m) rfl rfl _) rfl rfl hl.1 rfl (lv_room (Nat.le_of_ble_eq_true rfl)) (dt_bc_PD_readHeader 42 rfl) ⟨Nat.zero_le _, Nat.zero_le _⟩) (fun H locs hP hD hS => ?_)
    exact hL90 _ h ls H locs (lv_sub hl [0, 1, 2] rfl) hP hD hS
  have hL35 : ∀ (s0 : Int32) (m : bp_M), bc_PD_readHeader_L35 N a1 a2 a3 s0 m = some mr → ∀ (ls : Array Slot) (H : Heap) (locs : List Loc), lv_has ls 4 [(0, .ref (E.2.1 3)), (1, .int a1), (2, .int a2), (3, .int a3)] → va_P E.1 bp_cl (bc_W E m) H → va_D A (bc_W E m) → va_S A s.heap H locs → W p l e ({ frames := 3, cells := 0, slots := 0, locals := 68 }) s mt args below meth c H locs 0 0 Q (F0 mt 35 ls [.int s0, .ref (E.2.1 10)]) := by
    intro s0 m h ls H locs hl hP hD hS
    rw [bc_PD_readHeader_L35] at h
    obtain ⟨hg2, h⟩ := bp_g_s h
    refine bc_pPI_2 E hx hb htb hown hK hP hD hS (by decide) hg2 (htb _ tw_193) (dt_bc_PD_readHeader 17 rfl) (fun m1 em1 H locs hP hD hS => ?_)
    replace h := bp_nM_s h em1
    refine lv_aload_n hx hb (dt_bc_PD_readHeader 18 rfl) rfl (lv_at hl 0 rfl) ?_
    refine va_get (D := E.1) (ci := 3) (v := .ref (E.2.1 10)) (C := "BlockPictures$PictureDecoder") (T := bF_PD) (N := 11) hx hb htb bc_in_PD hown hK hP 3 (bc_gPD E m1) rfl 1 (by decide) (htb _ tw_261) (fun _ h9 => h9) rfl (dt_bc_PD_readHeader 19 rfl) ?_
    refine lv_iconst (v := 1) hx hb (dt_bc_PD_readHeader 20 rfl) (by decide) ?_
    obtain ⟨hg4, h⟩ := bp_g_s h
    refine bc_pPI_3 E hx hb htb hown hK hP hD hS (by decide) hg4 (htb _ tw_197) (dt_bc_PD_readHeader 21 rfl) (fun m3 em3 H locs hP hD hS => ?_)
    replace h := bp_nM_s h em3
    refine lv_aload_n hx hb (dt_bc_PD_readHeader 22 rfl) rfl (lv_at hl 0 rfl) ?_
    refine lv_iload_n hx hb (dt_bc_PD_readHeader 23 rfl) rfl (lv_at hl 3 rfl) ?_
    refine lv_aload_n hx hb (dt_bc_PD_readHeader 24 rfl) rfl (lv_at hl 0 rfl) ?_
    refine va_get (D := E.1) (ci := 3) (v := .ref (E.2.1 6)) (C := "BlockPictures$PictureDecoder") (T := bF_PD) (N := 11) hx hb htb bc_in_PD hown hK hP 3 (bc_gPD E m3) rfl 0 (by decide) (htb _ tw_259) (fun _ h9 => h9) rfl (dt_bc_PD_readHeader 25 rfl) ?_
    refine lv_sipush (v := 2048) hx hb (dt_bc_PD_readHeader 26 rfl) (by decide) ?_
    refine lv_iconst (v := 5) hx hb (dt_bc_PD_readHeader 27 rfl) (by decide) ?_
    obtain ⟨z6, m5, hm5, h⟩ := bp_cI_s h
    refine bc_callI E hsub hS (va_runV (As := [.int 2048, .int 5]) (rest := [.int a3, .ref (E.2.1 3)]) ⟨hx, hb, hml, hown, htb⟩ (wbc_BR_number l E N 2048 5 m3 H.size z6 m5 hm5) (cwV 2 htb (bp_goodV tw_461 tw_434 tw_435 tw_73 tw_436) rfl rfl rfl ⟨rfl, hd_bc_BR_number⟩ ⟨Nat.le_of_ble_eq_true rfl, Nat.le_of_ble_eq_true rfl⟩) (bc_preV E hsub hst hK hP hD hS (bc_gBR E m3) rfl rfl _) rfl rfl hl.1 rfl (lv_room (Nat.le_of_ble_eq_true rfl)) (dt_bc_PD_readHeader 28 rfl) ⟨Nat.zero_le _, Nat.zero_le _⟩) (fun H locs hP hD hS => ?_)
    obtain ⟨z8, m7, hm7, h⟩ := bp_cI_s h
    refine bc_callI E hsub hS (va_runS (As := [.int z6]) (rest := [.int a3, .ref (E.2.1 3)]) ⟨hx, hb, hml, hown, htb⟩ (wbc_BR_signed l E N z6 m5 H.size z8 m7 hm7) (va_cwS 1 htb (bp_goodW tw_462 tw_463 tw_73 tw_464) rfl rfl rfl hd_bc_BR_signed ⟨Nat.le_of_ble_eq_true rfl, Nat.le_of_ble_eq_true rfl⟩) (bc_preS E hsub hst hK hP hD hS _) rfl rfl hl.1 rfl (lv_room (Nat.le_of_ble_eq_true rfl)) (dt_bc_PD_readHeader 29 rfl) ⟨Nat.zero_le _, Nat.zero_le _⟩) (fun H locs hP hD hS => ?_)
    refine lv_iadd hx hb (dt_bc_PD_readHeader 30 rfl) ?_
    refine bc_pPD_10 E hx hb htb hown hK hP hD hS (htb _ tw_275) (dt_bc_PD_readHeader 31 rfl) (fun m9 em9 H locs hP hD hS => ?_)
    replace h := bp_nM_s h em9
    refine lv_aload_n hx hb (dt_bc_PD_readHeader 32 rfl) rfl (lv_at hl 0 rfl) ?_
    refine va_get (D := E.1) (ci := 3) (v := .int (m9.1 3 10)) (C := "BlockPictures$PictureDecoder") (T := bF_PD) (N := 11) hx hb htb bc_in_PD hown hK hP 3 (bc_gPD E m9) rfl 10 (by decide) (htb _ tw_275) (fun _ h9 => h9) rfl (dt_bc_PD_readHeader 33 rfl) ?_
    refine lv_if_lt (tgt := 82) hx hb (dt_bc_PD_readHeader 34 rfl) (by decide) (fun hc => ?_) (fun hc => ?_)
    · replace h := (if_pos hc).symm.trans h
      exact hL82 _ h ls H locs (lv_sub hl [0, 1, 2] rfl) hP hD hS
    · replace h := (if_neg hc).symm.trans h
      refine lv_aload_n hx hb (dt_bc_PD_readHeader 35 rfl) rfl (lv_at hl 0 rfl) ?_
      refine va_get (D := E.1) (ci := 3) (v := .int (m9.1 3 10)) (C := "BlockPictures$PictureDecoder") (T := bF_PD) (N := 11) hx hb htb bc_in_PD hown hK hP 3 (bc_gPD E m9) rfl 10 (by decide) (htb _ tw_275) (fun _ h9 => h9) rfl (dt_bc_PD_readHeader 36 rfl) ?_
      refine lv_bipush (v := 11) hx hb (dt_bc_PD_readHeader 37 rfl) (by decide) ?_
      refine lv_icmp_le (tgt := 90) hx hb (dt_bc_PD_readHeader 38 rfl) (by decide) (fun hc => ?_) (fun hc => ?_)
      · replace h := (if_pos hc).symm.trans h
        exact hL90 _ h ls H locs (lv_sub hl [0, 1, 2] rfl) hP hD hS
      · replace h := (if_neg hc).symm.trans h
        exact hL82 _ h ls H locs (lv_sub hl [0, 1, 2] rfl) hP hD hS
  have hL30 : ∀ (m : bp_M), bc_PD_readHeader_L30 N a1 a2 a3 m = some mr → ∀ (ls : Array Slot) (H : Heap) (locs : List Loc), lv_has ls 4 [(0, .ref (E.2.1 3)), (1, .int a1), (2, .int a2), (3, .int a3)] → va_P E.1 bp_cl (bc_W E m) H → va_D A (bc_W E m) → va_S A s.heap H locs → W p l e ({ frames := 3, cells := 0, slots := 0, locals := 68 }) s mt args below meth c H locs 0 0 Q (F0 mt 30 ls [.ref (E.2.1 10)]) := by
    intro m h ls H locs hl hP hD hS
    rw [bc_PD_readHeader_L30] at h
    refine lv_iconst (v := 1) hx hb (dt_bc_PD_readHeader 14 rfl) (by decide) ?_
    refine lv_goto (tgt := 35) hx hb (dt_bc_PD_readHeader 15 rfl) (by decide) ?_
    exact hL35 _ _ h ls H locs (lv_sub hl [0, 1, 2, 3] rfl) hP hD hS
  suffices hgo : ∀ (H : Heap) (locs : List Loc), va_P E.1 bp_cl (bc_W E m) H → va_D A (bc_W E m) → va_S A s.heap H locs → W p l e ({ frames := 3, cells := 0, slots := 0, locals := 68 }) s mt args below meth c H locs 0 0 Q (F0 mt 0 ls []) from hgo _ _ hP hD hS
  clear hP hD hS
  intro H locs hP hD hS
  unfold bc_PD_readHeader at h
  refine lv_aload_n hx hb (dt_bc_PD_readHeader 0 rfl) rfl (lv_at hl 0 rfl) ?_
  refine va_get (D := E.1) (ci := 3) (v := .ref (E.2.1 10)) (C := "BlockPictures$PictureDecoder") (T := bF_PD) (N := 11) hx hb htb bc_in_PD hown hK hP 3 (bc_gPD E m) rfl 1 (by decide) (htb _ tw_261) (fun _ h9 => h9) rfl (dt_bc_PD_readHeader 1 rfl) ?_
  refine lv_aload_n hx hb (dt_bc_PD_readHeader 2 rfl) rfl (lv_at hl 0 rfl) ?_
  refine va_get (D := E.1) (ci := 3) (v := .ref (E.2.1 6)) (C := "BlockPictures$PictureDecoder") (T := bF_PD) (N := 11) hx hb htb bc_in_PD hown hK hP 3 (bc_gPD E m) rfl 0 (by decide) (htb _ tw_259) (fun _ h9 => h9) rfl (dt_bc_PD_readHeader 3 rfl) ?_
  refine lv_sipush (v := 255) hx hb (dt_bc_PD_readHeader 4 rfl) (by decide) ?_
  refine lv_iconst (v := 5) hx hb (dt_bc_PD_readHeader 5 rfl) (by decide) ?_
  obtain ⟨z2, m1, hm1, h⟩ := bp_cI_s h
  refine bc_callI E hsub hS (va_runV (As := [.int 255, .int 5]) (rest := [.ref (E.2.1 10)]) ⟨hx, hb, hml, hown, htb⟩ (wbc_BR_number l E N 255 5 m H.size z2 m1 hm1) (cwV 2 htb (bp_goodV tw_461 tw_434 tw_435 tw_73 tw_436) rfl rfl rfl ⟨rfl, hd_bc_BR_number⟩ ⟨Nat.le_of_ble_eq_true rfl, Nat.le_of_ble_eq_true rfl⟩) (bc_preV E hsub hst hK hP hD hS (bc_gBR E m) rfl rfl _) rfl rfl hl.1 rfl (lv_room (Nat.le_of_ble_eq_true rfl)) (dt_bc_PD_readHeader 6 rfl) ⟨Nat.zero_le _, Nat.zero_le _⟩) (fun H locs hP hD hS => ?_)
  refine bc_pPI_1 E hx hb htb hown hK hP hD hS (by decide) (htb _ tw_189) (dt_bc_PD_readHeader 7 rfl) (fun m3 em3 H locs hP hD hS => ?_)
  replace h := bp_nM_s h em3
  refine lv_aload_n hx hb (dt_bc_PD_readHeader 8 rfl) rfl (lv_at hl 0 rfl) ?_
  refine va_get (D := E.1) (ci := 3) (v := .ref (E.2.1 10)) (C := "BlockPictures$PictureDecoder") (T := bF_PD) (N := 11) hx hb htb bc_in_PD hown hK hP 3 (bc_gPD E m3) rfl 1 (by decide) (htb _ tw_261) (fun _ h9 => h9) rfl (dt_bc_PD_readHeader 9 rfl) ?_
  refine lv_iload_n hx hb (dt_bc_PD_readHeader 10 rfl) rfl (lv_at hl 1 rfl) ?_
  refine lv_if_ne (tgt := 30) hx hb (dt_bc_PD_readHeader 11 rfl) (by decide) (fun hc => ?_) (fun hc => ?_)
  · replace h := (if_pos hc).symm.trans h
    exact hL30 _ h ls H locs (lv_sub hl [0, 1, 2, 3] rfl) hP hD hS
  · replace h := (if_neg (fun hn => hn hc)).symm.trans h
    refine lv_iload_n hx hb (dt_bc_PD_readHeader 12 rfl) rfl (lv_at hl 2 rfl) ?_
    refine lv_if_le (tgt := 34) hx hb (dt_bc_PD_readHeader 13 rfl) (by decide) (fun hc => ?_) (fun hc => ?_)
    · replace h := (if_pos hc).symm.trans h
      refine lv_iconst (v := 0) hx hb (dt_bc_PD_readHeader 16 rfl) (by decide) ?_
      exact hL35 _ _ h ls H locs (lv_sub hl [0, 1, 2, 3] rfl) hP hD hS
    · replace h := (if_neg hc).symm.trans h
      exact hL30 _ h ls H locs (lv_sub hl [0, 1, 2, 3] rfl) hP hD hS
set_option maxHeartbeats 4000000 in
set_option maxRecDepth 100000 in
theorem wbc_RO_clearBlock (l : Launch) (E : bc_E) (N : Nat) (o0 : Nat) (a1 : Int32) (m : bp_M) (sz : Nat) (mr : bp_M) (hp_o0 : isRO o0) (h : bc_RO_clearBlock N o0 a1 m = some mr) : Met l y_bc_RO_clearBlock (Cond.code y_bc_RO_clearBlock prog_3_method_3_code 2 none :: bp_tb) ({ frames := 0, cells := 0, slots := 0, locals := 0 }) (bc_Pc E m sz [.ref (E.2.1 o0), .int a1]) (bc_Qv E m sz mr) 0 0 (va_A (bc_W E m) sz) := by
  refine Met.ofW (cc := prog_3_method_3_code) (maxL := 2) (ret := none) (by decide) rfl ?_
  intro p e s mt args below meth c s₁ B hml hv
  obtain ⟨rfl, hsz, hP, hK, hD0, hst⟩ := hv
  have hx := B.exec
  have hb := B.bytes
  have hr := B.returns
  have htb : ∀ w ∈ bp_tb, w.before _ s = true := fun w hw => atoms_spec (ws := Cond.code y_bc_RO_clearBlock prog_3_method_3_code 2 none :: bp_tb) B.pre w (List.mem_cons_of_mem _ hw)
  have hown : s.vm.findClass "BlockPictures$BlockRows" = some mt.cls := findClass_of_methodNamed B.named
  have hlocks := B.notSynchronized
  subst hsz
  have hD := hD0.self (sz := s.heap.size)
  generalize hAe : va_A (bc_W E m) s.heap.size = A at hD hst ⊢
  have hsub : ∀ (u : bp_M) (z q : Nat), s.heap.size ≤ z → va_A (bc_W E u) z q → A q := bc_sub hAe
  have hS : va_S A s.heap s.heap [] := va_S.rf
  have hl := lv_entry ([.ref (E.2.1 o0), .int a1]) (n := 2) (Nat.le_of_ble_eq_true rfl)
  rw [lg_entry_eq]
  generalize (lg_sl ([.ref (E.2.1 o0), .int a1]) ++ List.replicate (2 - (lg_sl ([.ref (E.2.1 o0), .int a1])).length) Slot.unset).toArray = ls at hl ⊢
  have hl : lv_has ls 2 [(0, .ref (E.2.1 o0)), (1, .int a1)] := hl
  refine bc_keyV (R := ({ frames := 0, cells := 0, slots := 0, locals := 0 })) E hx hb hr hlocks hK hAe (fun Q hret => ?_)
  clear B hD0 hlocks hr
  generalize ([.ref (E.2.1 o0), .int a1] : List Value).toArray = args at htb hret ⊢
  clear hAe
  suffices hgo : ∀ (H : Heap) (locs : List Loc), va_P E.1 bp_cl (bc_W E m) H → va_D A (bc_W E m) → va_S A s.heap H locs → W p l e ({ frames := 0, cells := 0, slots := 0, locals := 0 }) s mt args below meth c H locs 0 0 Q (F0 mt 0 ls []) from hgo _ _ hP hD hS
  clear hP hD hS
  intro H locs hP hD hS
  unfold bc_RO_clearBlock at h
  refine lv_aload_n hx hb (dt_bc_RO_clearBlock 0 rfl) rfl (lv_at hl 0 rfl) ?_
  refine va_get (D := E.1) (ci := 8) (v := .ref (E.2.1 (5 * o0 - 16))) (C := "BlockPictures$BlockRows") (T := bF_RO) (N := 6) hx hb htb bc_in_RO hown hK hP o0 (bc_gRO E m hp_o0) rfl 0 (by decide) (htb _ tw_215) (fun _ h9 => h9) rfl (dt_bc_RO_clearBlock 1 rfl) ?_
  refine lv_iload_n hx hb (dt_bc_RO_clearBlock 2 rfl) rfl (lv_at hl 1 rfl) ?_
  refine lv_iconst (v := 0) hx hb (dt_bc_RO_clearBlock 3 rfl) (by decide) ?_
  obtain ⟨hg1, h⟩ := bp_gi_s h
  obtain ⟨hg2, h⟩ := bp_g_s h
  refine bc_sZ E hx hb hK hP hD hS (bc_gro0 E hp_o0) hg1 hg2 (dt_bc_RO_clearBlock 4 rfl) (fun m3 em3 H locs hP hD hS => ?_)
  replace h := bp_nM_s h em3
  refine lv_aload_n hx hb (dt_bc_RO_clearBlock 5 rfl) rfl (lv_at hl 0 rfl) ?_
  refine va_get (D := E.1) (ci := 8) (v := .ref (E.2.1 (5 * o0 - 15))) (C := "BlockPictures$BlockRows") (T := bF_RO) (N := 6) hx hb htb bc_in_RO hown hK hP o0 (bc_gRO E m3 hp_o0) rfl 1 (by decide) (htb _ tw_218) (fun _ h9 => h9) rfl (dt_bc_RO_clearBlock 6 rfl) ?_
  refine lv_iload_n hx hb (dt_bc_RO_clearBlock 7 rfl) rfl (lv_at hl 1 rfl) ?_
  refine lv_iconst (v := 0) hx hb (dt_bc_RO_clearBlock 8 rfl) (by decide) ?_
  obtain ⟨hg4, h⟩ := bp_gi_s h
  obtain ⟨hg5, h⟩ := bp_g_s h
  refine bc_sZ E hx hb hK hP hD hS (bc_gro1 E hp_o0) hg4 hg5 (dt_bc_RO_clearBlock 9 rfl) (fun m6 em6 H locs hP hD hS => ?_)
  replace h := bp_nM_s h em6
  refine lv_aload_n hx hb (dt_bc_RO_clearBlock 10 rfl) rfl (lv_at hl 0 rfl) ?_
  refine va_get (D := E.1) (ci := 8) (v := .ref (E.2.1 (5 * o0 - 14))) (C := "BlockPictures$BlockRows") (T := bF_RO) (N := 6) hx hb htb bc_in_RO hown hK hP o0 (bc_gRO E m6 hp_o0) rfl 2 (by decide) (htb _ tw_220) (fun _ h9 => h9) rfl (dt_bc_RO_clearBlock 11 rfl) ?_
  refine lv_iload_n hx hb (dt_bc_RO_clearBlock 12 rfl) rfl (lv_at hl 1 rfl) ?_
  refine lv_iconst (v := 0) hx hb (dt_bc_RO_clearBlock 13 rfl) (by decide) ?_
  obtain ⟨hg7, h⟩ := bp_gi_s h
  refine bc_sI E hx hb hK hP hD hS (bc_gro2 E hp_o0) hg7 (dt_bc_RO_clearBlock 14 rfl) (fun m8 em8 H locs hP hD hS => ?_)
  replace h := bp_nM_s h em8
  refine lv_aload_n hx hb (dt_bc_RO_clearBlock 15 rfl) rfl (lv_at hl 0 rfl) ?_
  refine va_get (D := E.1) (ci := 8) (v := .ref (E.2.1 (5 * o0 - 13))) (C := "BlockPictures$BlockRows") (T := bF_RO) (N := 6) hx hb htb bc_in_RO hown hK hP o0 (bc_gRO E m8 hp_o0) rfl 3 (by decide) (htb _ tw_222) (fun _ h9 => h9) rfl (dt_bc_RO_clearBlock 16 rfl) ?_
  refine lv_iload_n hx hb (dt_bc_RO_clearBlock 17 rfl) rfl (lv_at hl 1 rfl) ?_
  refine lv_iconst (v := 0) hx hb (dt_bc_RO_clearBlock 18 rfl) (by decide) ?_
  obtain ⟨hg9, h⟩ := bp_gi_s h
  refine bc_sI E hx hb hK hP hD hS (bc_gro3 E hp_o0) hg9 (dt_bc_RO_clearBlock 19 rfl) (fun m10 em10 H locs hP hD hS => ?_)
  replace h := bp_nM_s h em10
  refine lv_aload_n hx hb (dt_bc_RO_clearBlock 20 rfl) rfl (lv_at hl 0 rfl) ?_
  refine va_get (D := E.1) (ci := 8) (v := .ref (E.2.1 (5 * o0 - 12))) (C := "BlockPictures$BlockRows") (T := bF_RO) (N := 6) hx hb htb bc_in_RO hown hK hP o0 (bc_gRO E m10 hp_o0) rfl 4 (by decide) (htb _ tw_225) (fun _ h9 => h9) rfl (dt_bc_RO_clearBlock 21 rfl) ?_
  refine lv_iload_n hx hb (dt_bc_RO_clearBlock 22 rfl) rfl (lv_at hl 1 rfl) ?_
  refine lv_iconst (v := 0) hx hb (dt_bc_RO_clearBlock 23 rfl) (by decide) ?_
  obtain ⟨hg11, h⟩ := bp_gi_s h
  refine bc_sI E hx hb hK hP hD hS (bc_gro4 E hp_o0) hg11 (dt_bc_RO_clearBlock 24 rfl) (fun m12 em12 H locs hP hD hS => ?_)
  replace h := bp_nM_s h em12
  exact hret _ _ _ _ _ h hP hD hS (dt_bc_RO_clearBlock 25 rfl)
set_option maxHeartbeats 4000000 in
set_option maxRecDepth 100000 in
theorem wbc_RO_predicted (l : Launch) (E : bc_E) (N : Nat) (a0 : Nat) (a1 : Int32) (m : bp_M) (sz : Nat) (r : Int32) (mr : bp_M)  (h : bc_RO_predicted N a0 a1 m = some (r, mr)) : Met l y_bc_RO_predicted (Cond.code y_bc_RO_predicted prog_3_method_4_code 5 (some .int) :: bp_tb) ({ frames := 1, cells := 0, slots := 0, locals := 40 }) (bc_Pc E m sz [.ref (E.2.1 a0), .int a1]) (bc_Qi E m sz r mr) 0 0 (va_A (bc_W E m) sz) := by
  refine Met.ofW (cc := prog_3_method_4_code) (maxL := 5) (ret := (some .int)) (by decide) rfl ?_
  intro p e s mt args below meth c s₁ B hml hv
  obtain ⟨rfl, hsz, hP, hK, hD0, hst⟩ := hv
  have hx := B.exec
  have hb := B.bytes
  have hr := B.returns
  have htb : ∀ w ∈ bp_tb, w.before _ s = true := fun w hw => atoms_spec (ws := Cond.code y_bc_RO_predicted prog_3_method_4_code 5 (some .int) :: bp_tb) B.pre w (List.mem_cons_of_mem _ hw)
  have hown : s.vm.findClass "BlockPictures$BlockRows" = some mt.cls := findClass_of_methodNamed B.named
  have hlocks := B.notSynchronized
  subst hsz
  have hD := hD0.self (sz := s.heap.size)
  generalize hAe : va_A (bc_W E m) s.heap.size = A at hD hst ⊢
  have hsub : ∀ (u : bp_M) (z q : Nat), s.heap.size ≤ z → va_A (bc_W E u) z q → A q := bc_sub hAe
  have hS : va_S A s.heap s.heap [] := va_S.rf
  have hl := lv_entry ([.ref (E.2.1 a0), .int a1]) (n := 5) (Nat.le_of_ble_eq_true rfl)
  rw [lg_entry_eq]
  generalize (lg_sl ([.ref (E.2.1 a0), .int a1]) ++ List.replicate (5 - (lg_sl ([.ref (E.2.1 a0), .int a1])).length) Slot.unset).toArray = ls at hl ⊢
  have hl : lv_has ls 5 [(0, .ref (E.2.1 a0)), (1, .int a1)] := hl
  refine bc_keyI (R := ({ frames := 1, cells := 0, slots := 0, locals := 40 })) E hx hb hr hlocks hK hAe (fun Q hret => ?_)
  clear B hD0 hlocks hr
  generalize ([.ref (E.2.1 a0), .int a1] : List Value).toArray = args at htb hret ⊢
  clear hAe
  have hL49 : ∀ (x2 : Int32) (x3 : Int32) (s0 : Int32) (m : bp_M), bc_RO_predicted_L49 N a0 a1 x2 x3 s0 m = some (r, mr) → ∀ (ls : Array Slot) (H : Heap) (locs : List Loc), lv_has ls 5 [(2, .int x2), (3, .int x3)] → va_P E.1 bp_cl (bc_W E m) H → va_D A (bc_W E m) → va_S A s.heap H locs → W p l e ({ frames := 1, cells := 0, slots := 0, locals := 40 }) s mt args below meth c H locs 0 0 Q (F0 mt 49 ls [.int s0]) := by
    intro x2 x3 s0 m h ls H locs hl hP hD hS
    rw [bc_RO_predicted_L49] at h
    refine lv_istore hx hb (dt_bc_RO_predicted 39 rfl) hl (Nat.le_of_ble_eq_true rfl) rfl (fun ls hl => ?_)
    have hl : lv_has ls 5 [(4, .int s0), (2, .int x2), (3, .int x3)] := hl
    refine lv_iload_n hx hb (dt_bc_RO_predicted 40 rfl) rfl (lv_at hl 1 rfl) ?_
    refine lv_iload_n hx hb (dt_bc_RO_predicted 41 rfl) rfl (lv_at hl 2 rfl) ?_
    refine va_mmin hx hb (hml.trans hl.1.symm) hown (htb _ tw_493) (htb _ tw_494) (htb _ tw_81) (htb _ tw_495) (Nat.le_of_ble_eq_true rfl) (Nat.le_of_ble_eq_true rfl) (Nat.zero_le _) (Nat.zero_le _) (dt_bc_RO_predicted 42 rfl) ?_
    refine lv_iload_n hx hb (dt_bc_RO_predicted 43 rfl) rfl (lv_at hl 1 rfl) ?_
    refine lv_iload_n hx hb (dt_bc_RO_predicted 44 rfl) rfl (lv_at hl 2 rfl) ?_
    refine va_mmax hx hb (hml.trans hl.1.symm) hown (htb _ tw_496) (htb _ tw_497) (htb _ tw_81) (htb _ tw_498) (Nat.le_of_ble_eq_true rfl) (Nat.le_of_ble_eq_true rfl) (Nat.zero_le _) (Nat.zero_le _) (dt_bc_RO_predicted 45 rfl) ?_
    refine lv_iload hx hb (dt_bc_RO_predicted 46 rfl) (lv_at hl 0 rfl) ?_
    refine va_mmin hx hb (hml.trans hl.1.symm) hown (htb _ tw_493) (htb _ tw_494) (htb _ tw_81) (htb _ tw_495) (Nat.le_of_ble_eq_true rfl) (Nat.le_of_ble_eq_true rfl) (Nat.zero_le _) (Nat.zero_le _) (dt_bc_RO_predicted 47 rfl) ?_
    refine va_mmax hx hb (hml.trans hl.1.symm) hown (htb _ tw_496) (htb _ tw_497) (htb _ tw_81) (htb _ tw_498) (Nat.le_of_ble_eq_true rfl) (Nat.le_of_ble_eq_true rfl) (Nat.zero_le _) (Nat.zero_le _) (dt_bc_RO_predicted 48 rfl) ?_
    exact hret _ _ _ _ _ _ h hP hD hS (dt_bc_RO_predicted 49 rfl)
  have hL15 : ∀ (s0 : Int32) (m : bp_M), bc_RO_predicted_L15 N a0 a1 s0 m = some (r, mr) → ∀ (ls : Array Slot) (H : Heap) (locs : List Loc), lv_has ls 5 [(0, .ref (E.2.1 a0)), (1, .int a1)] → va_P E.1 bp_cl (bc_W E m) H → va_D A (bc_W E m) → va_S A s.heap H locs → W p l e ({ frames := 1, cells := 0, slots := 0, locals := 40 }) s mt args below meth c H locs 0 0 Q (F0 mt 15 ls [.int s0]) := by
    intro s0 m h ls H locs hl hP hD hS
    rw [bc_RO_predicted_L15] at h
    refine lv_istore_n hx hb (dt_bc_RO_predicted 11 rfl) rfl hl (Nat.le_of_ble_eq_true rfl) rfl (fun ls hl => ?_)
    have hl : lv_has ls 5 [(2, .int s0), (0, .ref (E.2.1 a0)), (1, .int a1)] := hl
    refine lv_iload_n hx hb (dt_bc_RO_predicted 12 rfl) rfl (lv_at hl 2 rfl) ?_
    refine lv_iconst (v := 4) hx hb (dt_bc_RO_predicted 13 rfl) (by decide) ?_
    refine lv_icmp_ge (tgt := 23) hx hb (dt_bc_RO_predicted 14 rfl) (by decide) (fun hc => ?_) (fun hc => ?_)
    · replace h := (if_pos hc).symm.trans h
      refine lv_aload_n hx hb (dt_bc_RO_predicted 17 rfl) rfl (lv_at hl 1 rfl) ?_
      refine lv_iload_n hx hb (dt_bc_RO_predicted 18 rfl) rfl (lv_at hl 2 rfl) ?_
      refine lv_iconst (v := 4) hx hb (dt_bc_RO_predicted 19 rfl) (by decide) ?_
      refine lv_isub hx hb (dt_bc_RO_predicted 20 rfl) ?_
      obtain ⟨hg1, h⟩ := bp_g_s h
      obtain ⟨hg2, h⟩ := bp_gi_s h
      refine bc_lI E hx hb hK hP (bc_gisI E hg1) hg2 (dt_bc_RO_predicted 21 rfl) ?_
      refine lv_topi (fun y3 ey3 => ?_)
      replace h := bp_nI_s h ey3
      refine lv_istore_n hx hb (dt_bc_RO_predicted 22 rfl) rfl hl (Nat.le_of_ble_eq_true rfl) rfl (fun ls hl => ?_)
      have hl : lv_has ls 5 [(3, .int y3), (2, .int s0), (0, .ref (E.2.1 a0)), (1, .int a1)] := hl
      refine lv_iload_n hx hb (dt_bc_RO_predicted 23 rfl) rfl (lv_at hl 3 rfl) ?_
      refine lv_iconst (v := 4) hx hb (dt_bc_RO_predicted 24 rfl) (by decide) ?_
      refine lv_irem hx hb (dt_bc_RO_predicted 25 rfl) (by decide) ?_
      refine lv_iconst (v := 3) hx hb (dt_bc_RO_predicted 26 rfl) (by decide) ?_
      refine lv_icmp_ne (tgt := 44) hx hb (dt_bc_RO_predicted 27 rfl) (by decide) (fun hc => ?_) (fun hc => ?_)
      · replace h := (if_pos hc).symm.trans h
        refine lv_aload_n hx hb (dt_bc_RO_predicted 34 rfl) rfl (lv_at hl 2 rfl) ?_
        refine lv_iload_n hx hb (dt_bc_RO_predicted 35 rfl) rfl (lv_at hl 3 rfl) ?_
        refine lv_iconst (v := 3) hx hb (dt_bc_RO_predicted 36 rfl) (by decide) ?_
        refine lv_isub hx hb (dt_bc_RO_predicted 37 rfl) ?_
        obtain ⟨hg4, h⟩ := bp_g_s h
        obtain ⟨hg5, h⟩ := bp_gi_s h
        refine bc_lI E hx hb hK hP (bc_gisI E hg4) hg5 (dt_bc_RO_predicted 38 rfl) ?_
        exact hL49 _ _ _ _ h ls H locs (lv_sub hl [1, 0] rfl) hP hD hS
      · replace h := (if_neg (fun hn => hn hc)).symm.trans h
        refine lv_aload_n hx hb (dt_bc_RO_predicted 28 rfl) rfl (lv_at hl 2 rfl) ?_
        refine lv_iload_n hx hb (dt_bc_RO_predicted 29 rfl) rfl (lv_at hl 3 rfl) ?_
        refine lv_iconst (v := 5) hx hb (dt_bc_RO_predicted 30 rfl) (by decide) ?_
        refine lv_isub hx hb (dt_bc_RO_predicted 31 rfl) ?_
        obtain ⟨hg6, h⟩ := bp_g_s h
        obtain ⟨hg7, h⟩ := bp_gi_s h
        refine bc_lI E hx hb hK hP (bc_gisI E hg6) hg7 (dt_bc_RO_predicted 32 rfl) ?_
        refine lv_goto (tgt := 49) hx hb (dt_bc_RO_predicted 33 rfl) (by decide) ?_
        exact hL49 _ _ _ _ h ls H locs (lv_sub hl [1, 0] rfl) hP hD hS
    · replace h := (if_neg hc).symm.trans h
      refine lv_iload_n hx hb (dt_bc_RO_predicted 15 rfl) rfl (lv_at hl 0 rfl) ?_
      exact hret _ _ _ _ _ _ h hP hD hS (dt_bc_RO_predicted 16 rfl)
  suffices hgo : ∀ (H : Heap) (locs : List Loc), va_P E.1 bp_cl (bc_W E m) H → va_D A (bc_W E m) → va_S A s.heap H locs → W p l e ({ frames := 1, cells := 0, slots := 0, locals := 40 }) s mt args below meth c H locs 0 0 Q (F0 mt 0 ls []) from hgo _ _ hP hD hS
  clear hP hD hS
  intro H locs hP hD hS
  unfold bc_RO_predicted at h
  refine lv_iload_n hx hb (dt_bc_RO_predicted 0 rfl) rfl (lv_at hl 1 rfl) ?_
  refine lv_iconst (v := 4) hx hb (dt_bc_RO_predicted 1 rfl) (by decide) ?_
  refine lv_irem hx hb (dt_bc_RO_predicted 2 rfl) (by decide) ?_
  refine lv_if_ne (tgt := 10) hx hb (dt_bc_RO_predicted 3 rfl) (by decide) (fun hc => ?_) (fun hc => ?_)
  · replace h := (if_pos hc).symm.trans h
    refine lv_aload_n hx hb (dt_bc_RO_predicted 6 rfl) rfl (lv_at hl 0 rfl) ?_
    refine lv_iload_n hx hb (dt_bc_RO_predicted 7 rfl) rfl (lv_at hl 1 rfl) ?_
    refine lv_iconst (v := 1) hx hb (dt_bc_RO_predicted 8 rfl) (by decide) ?_
    refine lv_isub hx hb (dt_bc_RO_predicted 9 rfl) ?_
    obtain ⟨hg1, h⟩ := bp_g_s h
    obtain ⟨hg2, h⟩ := bp_gi_s h
    refine bc_lI E hx hb hK hP (bc_gisI E hg1) hg2 (dt_bc_RO_predicted 10 rfl) ?_
    exact hL15 _ _ h ls H locs (lv_sub hl [0, 1] rfl) hP hD hS
  · replace h := (if_neg (fun hn => hn hc)).symm.trans h
    refine lv_iconst (v := 0) hx hb (dt_bc_RO_predicted 4 rfl) (by decide) ?_
    refine lv_goto (tgt := 15) hx hb (dt_bc_RO_predicted 5 rfl) (by decide) ?_
    exact hL15 _ _ h ls H locs (lv_sub hl [0, 1] rfl) hP hD hS
set_option maxHeartbeats 4000000 in
set_option maxRecDepth 100000 in
theorem wbc_PD_within (l : Launch) (E : bc_E) (N : Nat) (a1 : Int32) (m : bp_M) (sz : Nat) (r : Int32) (mr : bp_M)  (h : bc_PD_within N a1 m = some (r, mr)) : Met l y_bc_PD_within (Cond.code y_bc_PD_within prog_9_method_11_code 2 (some .int) :: bp_tb) ({ frames := 1, cells := 0, slots := 0, locals := 21 }) (bc_Pc E m sz [.ref (E.2.1 3), .int a1]) (bc_Qi E m sz r mr) 0 0 (va_A (bc_W E m) sz) := by
  refine Met.ofW (cc := prog_9_method_11_code) (maxL := 2) (ret := (some .int)) (by decide) rfl ?_
  intro p e s mt args below meth c s₁ B hml hv
  obtain ⟨rfl, hsz, hP, hK, hD0, hst⟩ := hv
  have hx := B.exec
  have hb := B.bytes
  have hr := B.returns
  have htb : ∀ w ∈ bp_tb, w.before _ s = true := fun w hw => atoms_spec (ws := Cond.code y_bc_PD_within prog_9_method_11_code 2 (some .int) :: bp_tb) B.pre w (List.mem_cons_of_mem _ hw)
  have hown : s.vm.findClass "BlockPictures$PictureDecoder" = some mt.cls := findClass_of_methodNamed B.named
  have hlocks := B.notSynchronized
  subst hsz
  have hD := hD0.self (sz := s.heap.size)
  generalize hAe : va_A (bc_W E m) s.heap.size = A at hD hst ⊢
  have hsub : ∀ (u : bp_M) (z q : Nat), s.heap.size ≤ z → va_A (bc_W E u) z q → A q := bc_sub hAe
  have hS : va_S A s.heap s.heap [] := va_S.rf
  have hl := lv_entry ([.ref (E.2.1 3), .int a1]) (n := 2) (Nat.le_of_ble_eq_true rfl)
  rw [lg_entry_eq]
  generalize (lg_sl ([.ref (E.2.1 3), .int a1]) ++ List.replicate (2 - (lg_sl ([.ref (E.2.1 3), .int a1])).length) Slot.unset).toArray = ls at hl ⊢
  have hl : lv_has ls 2 [(0, .ref (E.2.1 3)), (1, .int a1)] := hl
  refine bc_keyI (R := ({ frames := 1, cells := 0, slots := 0, locals := 21 })) E hx hb hr hlocks hK hAe (fun Q hret => ?_)
  clear B hD0 hlocks hr
  generalize ([.ref (E.2.1 3), .int a1] : List Value).toArray = args at htb hret ⊢
  clear hAe
  have hL12 : ∀ (m : bp_M), bc_PD_within_L12 N a1 m = some (r, mr) → ∀ (ls : Array Slot) (H : Heap) (locs : List Loc), lv_has ls 2 [(0, .ref (E.2.1 3))] → va_P E.1 bp_cl (bc_W E m) H → va_D A (bc_W E m) → va_S A s.heap H locs → W p l e ({ frames := 1, cells := 0, slots := 0, locals := 21 }) s mt args below meth c H locs 0 0 Q (F0 mt 12 ls []) := by
    intro m h ls H locs hl hP hD hS
    rw [bc_PD_within_L12] at h
    refine lv_aload_n hx hb (dt_bc_PD_within 6 rfl) rfl (lv_at hl 0 rfl) ?_
    refine va_get (D := E.1) (ci := 3) (v := .ref (E.2.1 6)) (C := "BlockPictures$PictureDecoder") (T := bF_PD) (N := 11) hx hb htb bc_in_PD hown hK hP 3 (bc_gPD E m) rfl 0 (by decide) (htb _ tw_259) (fun _ h9 => h9) rfl (dt_bc_PD_within 7 rfl) ?_
    refine lv_iconst (v := 5) hx hb (dt_bc_PD_within 8 rfl) (by decide) ?_
    obtain ⟨m1, hm1, h⟩ := bp_cV_s h
    refine bc_callV E hsub hS (va_runV (As := [.int 5]) (rest := []) ⟨hx, hb, hml, hown, htb⟩ (wbc_BR_fail l E N 5 m H.size m1 hm1) (cwV 1 htb (bp_goodV tw_465 tw_421 tw_422 tw_73 tw_423) rfl rfl rfl ⟨rfl, hd_bc_BR_fail⟩ ⟨Nat.le_of_ble_eq_true rfl, Nat.le_of_ble_eq_true rfl⟩) (bc_preV E hsub hst hK hP hD hS (bc_gBR E m) rfl rfl _) rfl rfl hl.1 rfl (lv_room (Nat.le_of_ble_eq_true rfl)) (dt_bc_PD_within 9 rfl) ⟨Nat.zero_le _, Nat.zero_le _⟩) (fun H locs hP hD hS => ?_)
    refine lv_iconst (v := 0) hx hb (dt_bc_PD_within 10 rfl) (by decide) ?_
    exact hret _ _ _ _ _ _ h hP hD hS (dt_bc_PD_within 11 rfl)
  suffices hgo : ∀ (H : Heap) (locs : List Loc), va_P E.1 bp_cl (bc_W E m) H → va_D A (bc_W E m) → va_S A s.heap H locs → W p l e ({ frames := 1, cells := 0, slots := 0, locals := 21 }) s mt args below meth c H locs 0 0 Q (F0 mt 0 ls []) from hgo _ _ hP hD hS
  clear hP hD hS
  intro H locs hP hD hS
  unfold bc_PD_within at h
  refine lv_iload_n hx hb (dt_bc_PD_within 0 rfl) rfl (lv_at hl 1 rfl) ?_
  refine lv_bipush (v := (-64)) hx hb (dt_bc_PD_within 1 rfl) (by decide) ?_
  refine lv_icmp_lt (tgt := 12) hx hb (dt_bc_PD_within 2 rfl) (by decide) (fun hc => ?_) (fun hc => ?_)
  · replace h := (if_pos hc).symm.trans h
    exact hL12 _ h ls H locs (lv_sub hl [0] rfl) hP hD hS
  · replace h := (if_neg hc).symm.trans h
    refine lv_iload_n hx hb (dt_bc_PD_within 3 rfl) rfl (lv_at hl 1 rfl) ?_
    refine lv_bipush (v := 64) hx hb (dt_bc_PD_within 4 rfl) (by decide) ?_
    refine lv_icmp_le (tgt := 22) hx hb (dt_bc_PD_within 5 rfl) (by decide) (fun hc => ?_) (fun hc => ?_)
    · replace h := (if_pos hc).symm.trans h
      refine lv_iload_n hx hb (dt_bc_PD_within 12 rfl) rfl (lv_at hl 1 rfl) ?_
      exact hret _ _ _ _ _ _ h hP hD hS (dt_bc_PD_within 13 rfl)
    · replace h := (if_neg hc).symm.trans h
      exact hL12 _ h ls H locs (lv_sub hl [0] rfl) hP hD hS
set_option maxHeartbeats 4000000 in
set_option maxRecDepth 100000 in
theorem wbc_PD_readInter (l : Launch) (E : bc_E) (N : Nat) (a1 : Int32) (a2 : Int32) (m : bp_M) (sz : Nat) (mr : bp_M)  (h : bc_PD_readInter N a1 a2 m = some mr) : Met l y_bc_PD_readInter (Cond.code y_bc_PD_readInter prog_9_method_10_code 5 none :: bp_tb) ({ frames := 2, cells := 0, slots := 0, locals := 64 }) (bc_Pc E m sz [.ref (E.2.1 3), .int a1, .int a2]) (bc_Qv E m sz mr) 0 0 (va_A (bc_W E m) sz) := by
  refine Met.ofW (cc := prog_9_method_10_code) (maxL := 5) (ret := none) (by decide) rfl ?_
  intro p e s mt args below meth c s₁ B hml hv
  obtain ⟨rfl, hsz, hP, hK, hD0, hst⟩ := hv
  have hx := B.exec
  have hb := B.bytes
  have hr := B.returns
  have htb : ∀ w ∈ bp_tb, w.before _ s = true := fun w hw => atoms_spec (ws := Cond.code y_bc_PD_readInter prog_9_method_10_code 5 none :: bp_tb) B.pre w (List.mem_cons_of_mem _ hw)
  have hown : s.vm.findClass "BlockPictures$PictureDecoder" = some mt.cls := findClass_of_methodNamed B.named
  have hlocks := B.notSynchronized
  subst hsz
  have hD := hD0.self (sz := s.heap.size)
  generalize hAe : va_A (bc_W E m) s.heap.size = A at hD hst ⊢
  have hsub : ∀ (u : bp_M) (z q : Nat), s.heap.size ≤ z → va_A (bc_W E u) z q → A q := bc_sub hAe
  have hS : va_S A s.heap s.heap [] := va_S.rf
  have hl := lv_entry ([.ref (E.2.1 3), .int a1, .int a2]) (n := 5) (Nat.le_of_ble_eq_true rfl)
  rw [lg_entry_eq]
  generalize (lg_sl ([.ref (E.2.1 3), .int a1, .int a2]) ++ List.replicate (5 - (lg_sl ([.ref (E.2.1 3), .int a1, .int a2])).length) Slot.unset).toArray = ls at hl ⊢
  have hl : lv_has ls 5 [(0, .ref (E.2.1 3)), (1, .int a1), (2, .int a2)] := hl
  refine bc_keyV (R := ({ frames := 2, cells := 0, slots := 0, locals := 64 })) E hx hb hr hlocks hK hAe (fun Q hret => ?_)
  clear B hD0 hlocks hr
  generalize ([.ref (E.2.1 3), .int a1, .int a2] : List Value).toArray = args at htb hret ⊢
  clear hAe
  have hL106 : ∀ (x3 : Int32) (x4 : Int32) (m : bp_M), bc_PD_readInter_L106 N a1 a2 x3 x4 m = some mr → ∀ (ls : Array Slot) (H : Heap) (locs : List Loc), lv_has ls 5 [(0, .ref (E.2.1 3)), (1, .int a1), (3, .int x3), (4, .int x4)] → va_P E.1 bp_cl (bc_W E m) H → va_D A (bc_W E m) → va_S A s.heap H locs → W p l e ({ frames := 2, cells := 0, slots := 0, locals := 64 }) s mt args below meth c H locs 0 0 Q (F0 mt 106 ls []) := by
    intro x3 x4 m h ls H locs hl hP hD hS
    rw [bc_PD_readInter_L106] at h
    refine lv_aload_n hx hb (dt_bc_PD_readInter 52 rfl) rfl (lv_at hl 0 rfl) ?_
    refine va_get (D := E.1) (ci := 3) (v := .ref (E.2.1 (m.2 3 6))) (C := "BlockPictures$PictureDecoder") (T := bF_PD) (N := 11) hx hb htb bc_in_PD hown hK hP 3 (bc_gPD E m) rfl 6 (by decide) (htb _ tw_271) (fun _ h9 => h9) rfl (dt_bc_PD_readInter 53 rfl) ?_
    refine bp_topr E.2.1 (fun q1 eq1 => ?_)
    replace h := bp_nN_s h eq1
    obtain ⟨hg2, h⟩ := bp_g_s h
    refine va_get (D := E.1) (ci := 8) (v := .ref (E.2.1 (5 * q1 - 13))) (C := "BlockPictures$BlockRows") (T := bF_RO) (N := 6) hx hb htb bc_in_RO hown hK hP q1 (bc_gRO E m hg2) rfl 3 (by decide) (htb _ tw_223) (fun _ h9 => h9) rfl (dt_bc_PD_readInter 54 rfl) ?_
    refine lv_iload_n hx hb (dt_bc_PD_readInter 55 rfl) rfl (lv_at hl 1 rfl) ?_
    refine lv_iload_n hx hb (dt_bc_PD_readInter 56 rfl) rfl (lv_at hl 2 rfl) ?_
    obtain ⟨hg3, h⟩ := bp_gi_s h
    refine bc_sI E hx hb hK hP hD hS (bc_gro3 E hg2) hg3 (dt_bc_PD_readInter 57 rfl) (fun m4 em4 H locs hP hD hS => ?_)
    replace h := bp_nM_s h em4
    refine lv_aload_n hx hb (dt_bc_PD_readInter 58 rfl) rfl (lv_at hl 0 rfl) ?_
    refine va_get (D := E.1) (ci := 3) (v := .ref (E.2.1 (m4.2 3 6))) (C := "BlockPictures$PictureDecoder") (T := bF_PD) (N := 11) hx hb htb bc_in_PD hown hK hP 3 (bc_gPD E m4) rfl 6 (by decide) (htb _ tw_271) (fun _ h9 => h9) rfl (dt_bc_PD_readInter 59 rfl) ?_
    refine bp_topr E.2.1 (fun q5 eq5 => ?_)
    replace h := bp_nN_s h eq5
    obtain ⟨hg6, h⟩ := bp_g_s h
    refine va_get (D := E.1) (ci := 8) (v := .ref (E.2.1 (5 * q5 - 12))) (C := "BlockPictures$BlockRows") (T := bF_RO) (N := 6) hx hb htb bc_in_RO hown hK hP q5 (bc_gRO E m4 hg6) rfl 4 (by decide) (htb _ tw_226) (fun _ h9 => h9) rfl (dt_bc_PD_readInter 60 rfl) ?_
    refine lv_iload_n hx hb (dt_bc_PD_readInter 61 rfl) rfl (lv_at hl 1 rfl) ?_
    refine lv_iload hx hb (dt_bc_PD_readInter 62 rfl) (lv_at hl 3 rfl) ?_
    obtain ⟨hg7, h⟩ := bp_gi_s h
    refine bc_sI E hx hb hK hP hD hS (bc_gro4 E hg6) hg7 (dt_bc_PD_readInter 63 rfl) (fun m8 em8 H locs hP hD hS => ?_)
    replace h := bp_nM_s h em8
    exact hret _ _ _ _ _ h hP hD hS (dt_bc_PD_readInter 64 rfl)
  have hL61 : ∀ (x3 : Int32) (x4 : Int32) (s0 : Int32) (s1 : Int32) (sq2 : Nat) (m : bp_M), bc_PD_readInter_L61 N a1 a2 x3 x4 s0 s1 sq2 m = some mr → isRO sq2 → ∀ (ls : Array Slot) (H : Heap) (locs : List Loc), lv_has ls 5 [(0, .ref (E.2.1 3)), (1, .int a1), (3, .int x3), (4, .int x4)] → va_P E.1 bp_cl (bc_W E m) H → va_D A (bc_W E m) → va_S A s.heap H locs → W p l e ({ frames := 2, cells := 0, slots := 0, locals := 64 }) s mt args below meth c H locs 0 0 Q (F0 mt 61 ls [.int s0, .int s1, .ref (E.2.1 (5 * sq2 - 14))]) := by
    intro x3 x4 s0 s1 sq2 m h hp_sq2 ls H locs hl hP hD hS
    rw [bc_PD_readInter_L61] at h
    obtain ⟨hg1, h⟩ := bp_gi_s h
    refine bc_sI E hx hb hK hP hD hS (bc_gro2 E hp_sq2) hg1 (dt_bc_PD_readInter 29 rfl) (fun m2 em2 H locs hP hD hS => ?_)
    replace h := bp_nM_s h em2
    refine lv_aload_n hx hb (dt_bc_PD_readInter 30 rfl) rfl (lv_at hl 0 rfl) ?_
    refine lv_iload_n hx hb (dt_bc_PD_readInter 31 rfl) rfl (lv_at hl 2 rfl) ?_
    refine lv_aload_n hx hb (dt_bc_PD_readInter 32 rfl) rfl (lv_at hl 0 rfl) ?_
    refine va_get (D := E.1) (ci := 3) (v := .ref (E.2.1 6)) (C := "BlockPictures$PictureDecoder") (T := bF_PD) (N := 11) hx hb htb bc_in_PD hown hK hP 3 (bc_gPD E m2) rfl 0 (by decide) (htb _ tw_259) (fun _ h9 => h9) rfl (dt_bc_PD_readInter 33 rfl) ?_
    refine lv_sipush (v := 2048) hx hb (dt_bc_PD_readInter 34 rfl) (by decide) ?_
    refine lv_iconst (v := 5) hx hb (dt_bc_PD_readInter 35 rfl) (by decide) ?_
    obtain ⟨z4, m3, hm3, h⟩ := bp_cI_s h
    refine bc_callI E hsub hS (va_runV (As := [.int 2048, .int 5]) (rest := [.int x3, .ref (E.2.1 3)]) ⟨hx, hb, hml, hown, htb⟩ (wbc_BR_number l E N 2048 5 m2 H.size z4 m3 hm3) (cwV 2 htb (bp_goodV tw_461 tw_434 tw_435 tw_73 tw_436) rfl rfl rfl ⟨rfl, hd_bc_BR_number⟩ ⟨Nat.le_of_ble_eq_true rfl, Nat.le_of_ble_eq_true rfl⟩) (bc_preV E hsub hst hK hP hD hS (bc_gBR E m2) rfl rfl _) rfl rfl hl.1 rfl (lv_room (Nat.le_of_ble_eq_true rfl)) (dt_bc_PD_readInter 36 rfl) ⟨Nat.zero_le _, Nat.zero_le _⟩) (fun H locs hP hD hS => ?_)
    obtain ⟨z6, m5, hm5, h⟩ := bp_cI_s h
    refine bc_callI E hsub hS (va_runS (As := [.int z4]) (rest := [.int x3, .ref (E.2.1 3)]) ⟨hx, hb, hml, hown, htb⟩ (wbc_BR_signed l E N z4 m3 H.size z6 m5 hm5) (va_cwS 1 htb (bp_goodW tw_462 tw_463 tw_73 tw_464) rfl rfl rfl hd_bc_BR_signed ⟨Nat.le_of_ble_eq_true rfl, Nat.le_of_ble_eq_true rfl⟩) (bc_preS E hsub hst hK hP hD hS _) rfl rfl hl.1 rfl (lv_room (Nat.le_of_ble_eq_true rfl)) (dt_bc_PD_readInter 37 rfl) ⟨Nat.zero_le _, Nat.zero_le _⟩) (fun H locs hP hD hS => ?_)
    refine lv_iadd hx hb (dt_bc_PD_readInter 38 rfl) ?_
    obtain ⟨z8, m7, hm7, h⟩ := bp_cI_s h
    refine bc_callI E hsub hS (va_runV (As := [.int (x3 + z6 : Int32)]) (rest := []) ⟨hx, hb, hml, hown, htb⟩ (wbc_PD_within l E N (x3 + z6 : Int32) m5 H.size z8 m7 hm7) (cwV 1 htb (bp_goodV tw_499 tw_501 tw_11 tw_72 tw_502) rfl rfl rfl ⟨rfl, hd_bc_PD_within⟩ ⟨Nat.le_of_ble_eq_true rfl, Nat.le_of_ble_eq_true rfl⟩) (bc_preV E hsub hst hK hP hD hS (bc_gPD E m5) rfl rfl _) rfl rfl hl.1 rfl (lv_room (Nat.le_of_ble_eq_true rfl)) (dt_bc_PD_readInter 39 rfl) ⟨Nat.zero_le _, Nat.zero_le _⟩) (fun H locs hP hD hS => ?_)
    refine lv_istore_n hx hb (dt_bc_PD_readInter 40 rfl) rfl hl (Nat.le_of_ble_eq_true rfl) rfl (fun ls hl => ?_)
    have hl : lv_has ls 5 [(3, .int z8), (0, .ref (E.2.1 3)), (1, .int a1), (4, .int x4)] := hl
    refine lv_aload_n hx hb (dt_bc_PD_readInter 41 rfl) rfl (lv_at hl 1 rfl) ?_
    refine lv_iload hx hb (dt_bc_PD_readInter 42 rfl) (lv_at hl 3 rfl) ?_
    refine lv_aload_n hx hb (dt_bc_PD_readInter 43 rfl) rfl (lv_at hl 1 rfl) ?_
    refine va_get (D := E.1) (ci := 3) (v := .ref (E.2.1 6)) (C := "BlockPictures$PictureDecoder") (T := bF_PD) (N := 11) hx hb htb bc_in_PD hown hK hP 3 (bc_gPD E m7) rfl 0 (by decide) (htb _ tw_259) (fun _ h9 => h9) rfl (dt_bc_PD_readInter 44 rfl) ?_
    refine lv_sipush (v := 2048) hx hb (dt_bc_PD_readInter 45 rfl) (by decide) ?_
    refine lv_iconst (v := 5) hx hb (dt_bc_PD_readInter 46 rfl) (by decide) ?_
    obtain ⟨z10, m9, hm9, h⟩ := bp_cI_s h
    refine bc_callI E hsub hS (va_runV (As := [.int 2048, .int 5]) (rest := [.int x4, .ref (E.2.1 3)]) ⟨hx, hb, hml, hown, htb⟩ (wbc_BR_number l E N 2048 5 m7 H.size z10 m9 hm9) (cwV 2 htb (bp_goodV tw_461 tw_434 tw_435 tw_73 tw_436) rfl rfl rfl ⟨rfl, hd_bc_BR_number⟩ ⟨Nat.le_of_ble_eq_true rfl, Nat.le_of_ble_eq_true rfl⟩) (bc_preV E hsub hst hK hP hD hS (bc_gBR E m7) rfl rfl _) rfl rfl hl.1 rfl (lv_room (Nat.le_of_ble_eq_true rfl)) (dt_bc_PD_readInter 47 rfl) ⟨Nat.zero_le _, Nat.zero_le _⟩) (fun H locs hP hD hS => ?_)
    obtain ⟨z12, m11, hm11, h⟩ := bp_cI_s h
    refine bc_callI E hsub hS (va_runS (As := [.int z10]) (rest := [.int x4, .ref (E.2.1 3)]) ⟨hx, hb, hml, hown, htb⟩ (wbc_BR_signed l E N z10 m9 H.size z12 m11 hm11) (va_cwS 1 htb (bp_goodW tw_462 tw_463 tw_73 tw_464) rfl rfl rfl hd_bc_BR_signed ⟨Nat.le_of_ble_eq_true rfl, Nat.le_of_ble_eq_true rfl⟩) (bc_preS E hsub hst hK hP hD hS _) rfl rfl hl.1 rfl (lv_room (Nat.le_of_ble_eq_true rfl)) (dt_bc_PD_readInter 48 rfl) ⟨Nat.zero_le _, Nat.zero_le _⟩) (fun H locs hP hD hS => ?_)
    refine lv_iadd hx hb (dt_bc_PD_readInter 49 rfl) ?_
    obtain ⟨z14, m13, hm13, h⟩ := bp_cI_s h
    refine bc_callI E hsub hS (va_runV (As := [.int (x4 + z12 : Int32)]) (rest := []) ⟨hx, hb, hml, hown, htb⟩ (wbc_PD_within l E N (x4 + z12 : Int32) m11 H.size z14 m13 hm13) (cwV 1 htb (bp_goodV tw_499 tw_501 tw_11 tw_72 tw_502) rfl rfl rfl ⟨rfl, hd_bc_PD_within⟩ ⟨Nat.le_of_ble_eq_true rfl, Nat.le_of_ble_eq_true rfl⟩) (bc_preV E hsub hst hK hP hD hS (bc_gPD E m11) rfl rfl _) rfl rfl hl.1 rfl (lv_room (Nat.le_of_ble_eq_true rfl)) (dt_bc_PD_readInter 50 rfl) ⟨Nat.zero_le _, Nat.zero_le _⟩) (fun H locs hP hD hS => ?_)
    refine lv_istore hx hb (dt_bc_PD_readInter 51 rfl) hl (Nat.le_of_ble_eq_true rfl) rfl (fun ls hl => ?_)
    have hl : lv_has ls 5 [(4, .int z14), (3, .int z8), (0, .ref (E.2.1 3)), (1, .int a1)] := hl
    exact hL106 _ _ _ h ls H locs (lv_sub hl [2, 3, 1, 0] rfl) hP hD hS
  suffices hgo : ∀ (H : Heap) (locs : List Loc), va_P E.1 bp_cl (bc_W E m) H → va_D A (bc_W E m) → va_S A s.heap H locs → W p l e ({ frames := 2, cells := 0, slots := 0, locals := 64 }) s mt args below meth c H locs 0 0 Q (F0 mt 0 ls []) from hgo _ _ hP hD hS
  clear hP hD hS
  intro H locs hP hD hS
  unfold bc_PD_readInter at h
  refine lv_aload_n hx hb (dt_bc_PD_readInter 0 rfl) rfl (lv_at hl 0 rfl) ?_
  refine va_get (D := E.1) (ci := 3) (v := .ref (E.2.1 (m.2 3 6))) (C := "BlockPictures$PictureDecoder") (T := bF_PD) (N := 11) hx hb htb bc_in_PD hown hK hP 3 (bc_gPD E m) rfl 6 (by decide) (htb _ tw_271) (fun _ h9 => h9) rfl (dt_bc_PD_readInter 1 rfl) ?_
  refine bp_topr E.2.1 (fun q1 eq1 => ?_)
  replace h := bp_nN_s h eq1
  obtain ⟨hg2, h⟩ := bp_g_s h
  refine va_get (D := E.1) (ci := 8) (v := .ref (E.2.1 (5 * q1 - 13))) (C := "BlockPictures$BlockRows") (T := bF_RO) (N := 6) hx hb htb bc_in_RO hown hK hP q1 (bc_gRO E m hg2) rfl 3 (by decide) (htb _ tw_223) (fun _ h9 => h9) rfl (dt_bc_PD_readInter 2 rfl) ?_
  refine lv_iload_n hx hb (dt_bc_PD_readInter 3 rfl) rfl (lv_at hl 1 rfl) ?_
  obtain ⟨z4, m3, hm3, h⟩ := bp_cI_s h
  refine bc_callI E hsub hS (va_runS (As := [.ref (E.2.1 (5 * q1 - 13)), .int a1]) (rest := []) ⟨hx, hb, hml, hown, htb⟩ (wbc_RO_predicted l E N (5 * q1 - 13) a1 m H.size z4 m3 hm3) (va_cwS 2 htb (bp_goodW tw_490 tw_491 tw_75 tw_492) rfl rfl rfl hd_bc_RO_predicted ⟨Nat.le_of_ble_eq_true rfl, Nat.le_of_ble_eq_true rfl⟩) (bc_preS E hsub hst hK hP hD hS _) rfl rfl hl.1 rfl (lv_room (Nat.le_of_ble_eq_true rfl)) (dt_bc_PD_readInter 4 rfl) ⟨Nat.zero_le _, Nat.zero_le _⟩) (fun H locs hP hD hS => ?_)
  refine lv_istore_n hx hb (dt_bc_PD_readInter 5 rfl) rfl hl (Nat.le_of_ble_eq_true rfl) rfl (fun ls hl => ?_)
  have hl : lv_has ls 5 [(3, .int z4), (0, .ref (E.2.1 3)), (1, .int a1), (2, .int a2)] := hl
  refine lv_aload_n hx hb (dt_bc_PD_readInter 6 rfl) rfl (lv_at hl 1 rfl) ?_
  refine va_get (D := E.1) (ci := 3) (v := .ref (E.2.1 (m3.2 3 6))) (C := "BlockPictures$PictureDecoder") (T := bF_PD) (N := 11) hx hb htb bc_in_PD hown hK hP 3 (bc_gPD E m3) rfl 6 (by decide) (htb _ tw_271) (fun _ h9 => h9) rfl (dt_bc_PD_readInter 7 rfl) ?_
  refine bp_topr E.2.1 (fun q5 eq5 => ?_)
  replace h := bp_nN_s h eq5
  obtain ⟨hg6, h⟩ := bp_g_s h
  refine va_get (D := E.1) (ci := 8) (v := .ref (E.2.1 (5 * q5 - 12))) (C := "BlockPictures$BlockRows") (T := bF_RO) (N := 6) hx hb htb bc_in_RO hown hK hP q5 (bc_gRO E m3 hg6) rfl 4 (by decide) (htb _ tw_226) (fun _ h9 => h9) rfl (dt_bc_PD_readInter 8 rfl) ?_
  refine lv_iload_n hx hb (dt_bc_PD_readInter 9 rfl) rfl (lv_at hl 2 rfl) ?_
  obtain ⟨z8, m7, hm7, h⟩ := bp_cI_s h
  refine bc_callI E hsub hS (va_runS (As := [.ref (E.2.1 (5 * q5 - 12)), .int a1]) (rest := []) ⟨hx, hb, hml, hown, htb⟩ (wbc_RO_predicted l E N (5 * q5 - 12) a1 m3 H.size z8 m7 hm7) (va_cwS 2 htb (bp_goodW tw_490 tw_491 tw_75 tw_492) rfl rfl rfl hd_bc_RO_predicted ⟨Nat.le_of_ble_eq_true rfl, Nat.le_of_ble_eq_true rfl⟩) (bc_preS E hsub hst hK hP hD hS _) rfl rfl hl.1 rfl (lv_room (Nat.le_of_ble_eq_true rfl)) (dt_bc_PD_readInter 10 rfl) ⟨Nat.zero_le _, Nat.zero_le _⟩) (fun H locs hP hD hS => ?_)
  refine lv_istore hx hb (dt_bc_PD_readInter 11 rfl) hl (Nat.le_of_ble_eq_true rfl) rfl (fun ls hl => ?_)
  have hl : lv_has ls 5 [(4, .int z8), (3, .int z4), (0, .ref (E.2.1 3)), (1, .int a1), (2, .int a2)] := hl
  refine lv_iload_n hx hb (dt_bc_PD_readInter 12 rfl) rfl (lv_at hl 4 rfl) ?_
  refine lv_if_ne (tgt := 106) hx hb (dt_bc_PD_readInter 13 rfl) (by decide) (fun hc => ?_) (fun hc => ?_)
  · replace h := (if_pos hc).symm.trans h
    exact hL106 _ _ _ h ls H locs (lv_sub hl [2, 3, 1, 0] rfl) hP hD hS
  · replace h := (if_neg (fun hn => hn hc)).symm.trans h
    refine lv_aload_n hx hb (dt_bc_PD_readInter 14 rfl) rfl (lv_at hl 2 rfl) ?_
    refine va_get (D := E.1) (ci := 3) (v := .ref (E.2.1 (m7.2 3 6))) (C := "BlockPictures$PictureDecoder") (T := bF_PD) (N := 11) hx hb htb bc_in_PD hown hK hP 3 (bc_gPD E m7) rfl 6 (by decide) (htb _ tw_271) (fun _ h9 => h9) rfl (dt_bc_PD_readInter 15 rfl) ?_
    refine bp_topr E.2.1 (fun q9 eq9 => ?_)
    replace h := bp_nN_s h eq9
    obtain ⟨hg10, h⟩ := bp_g_s h
    refine va_get (D := E.1) (ci := 8) (v := .ref (E.2.1 (5 * q9 - 14))) (C := "BlockPictures$BlockRows") (T := bF_RO) (N := 6) hx hb htb bc_in_RO hown hK hP q9 (bc_gRO E m7 hg10) rfl 2 (by decide) (htb _ tw_221) (fun _ h9 => h9) rfl (dt_bc_PD_readInter 16 rfl) ?_
    refine lv_iload_n hx hb (dt_bc_PD_readInter 17 rfl) rfl (lv_at hl 3 rfl) ?_
    refine lv_aload_n hx hb (dt_bc_PD_readInter 18 rfl) rfl (lv_at hl 2 rfl) ?_
    refine va_get (D := E.1) (ci := 3) (v := .int (m7.1 3 9)) (C := "BlockPictures$PictureDecoder") (T := bF_PD) (N := 11) hx hb htb bc_in_PD hown hK hP 3 (bc_gPD E m7) rfl 9 (by decide) (htb _ tw_274) (fun _ h9 => h9) rfl (dt_bc_PD_readInter 19 rfl) ?_
    refine lv_if_le (tgt := 60) hx hb (dt_bc_PD_readInter 20 rfl) (by decide) (fun hc => ?_) (fun hc => ?_)
    · replace h := (if_pos hc).symm.trans h
      refine lv_iconst (v := 0) hx hb (dt_bc_PD_readInter 28 rfl) (by decide) ?_
      exact hL61 _ _ _ _ _ _ h hg10 ls H locs (lv_sub hl [2, 3, 1, 0] rfl) hP hD hS
    · replace h := (if_neg hc).symm.trans h
      refine lv_aload_n hx hb (dt_bc_PD_readInter 21 rfl) rfl (lv_at hl 2 rfl) ?_
      refine va_get (D := E.1) (ci := 3) (v := .ref (E.2.1 6)) (C := "BlockPictures$PictureDecoder") (T := bF_PD) (N := 11) hx hb htb bc_in_PD hown hK hP 3 (bc_gPD E m7) rfl 0 (by decide) (htb _ tw_259) (fun _ h9 => h9) rfl (dt_bc_PD_readInter 22 rfl) ?_
      refine lv_aload_n hx hb (dt_bc_PD_readInter 23 rfl) rfl (lv_at hl 2 rfl) ?_
      refine va_get (D := E.1) (ci := 3) (v := .int (m7.1 3 9)) (C := "BlockPictures$PictureDecoder") (T := bF_PD) (N := 11) hx hb htb bc_in_PD hown hK hP 3 (bc_gPD E m7) rfl 9 (by decide) (htb _ tw_274) (fun _ h9 => h9) rfl (dt_bc_PD_readInter 24 rfl) ?_
      refine lv_bipush (v := 8) hx hb (dt_bc_PD_readInter 25 rfl) (by decide) ?_
      obtain ⟨z12, m11, hm11, h⟩ := bp_cI_s h
      refine bc_callI E hsub hS (va_runV (As := [.int (m7.1 3 9), .int 8]) (rest := [.int a1, .ref (E.2.1 (5 * q9 - 14))]) ⟨hx, hb, hml, hown, htb⟩ (wbc_BR_number l E N (m7.1 3 9) 8 m7 H.size z12 m11 hm11) (cwV 2 htb (bp_goodV tw_461 tw_434 tw_435 tw_73 tw_436) rfl rfl rfl ⟨rfl, hd_bc_BR_number⟩ ⟨Nat.le_of_ble_eq_true rfl, Nat.le_of_ble_eq_true rfl⟩) (bc_preV E hsub hst hK hP hD hS (bc_gBR E m7) rfl rfl _) rfl rfl hl.1 rfl (lv_room (Nat.le_of_ble_eq_true rfl)) (dt_bc_PD_readInter 26 rfl) ⟨Nat.zero_le _, Nat.zero_le _⟩) (fun H locs hP hD hS => ?_)
      refine lv_goto (tgt := 61) hx hb (dt_bc_PD_readInter 27 rfl) (by decide) ?_
      exact hL61 _ _ _ _ _ _ h hg10 ls H locs (lv_sub hl [2, 3, 1, 0] rfl) hP hD hS

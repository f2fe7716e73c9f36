set_option maxHeartbeats 4000000 in
set_option maxRecDepth 100000 in
theorem wbc_RO_strength (l : Launch) (E : bc_E) (N : Nat) (o0 : Nat) (a1 : Int32) (a2 : Int32) (m : bp_M) (sz : Nat) (r : Int32) (mr : bp_M) (hp_o0 : isRO o0) (h : bc_RO_strength N o0 a1 a2 m = some (r, mr)) : Met l y_bc_RO_strength (Cond.code y_bc_RO_strength prog_3_method_5_code 4 (some .int) :: bp_tb) ({ frames := 1, cells := 0, slots := 0, locals := 40 }) (bc_Pc E m sz [.ref (E.2.1 o0), .int a1, .int a2]) (bc_Qi E m sz r mr) 0 0 (va_A (bc_W E m) sz) := by
  refine Met.ofW (cc := prog_3_method_5_code) (maxL := 4) (ret := (some .int)) (by decide) rfl ?_
  intro p e s mt args below meth c s₁ B hml hv
  obtain ⟨rfl, hsz, hP, hK, hD0, hst⟩ := hv
  have hx := B.exec
  have hb := B.bytes
  have hr := B.returns
  have htb : ∀ w ∈ bp_tb, w.before _ s = true := fun w hw => atoms_spec (ws := Cond.code y_bc_RO_strength prog_3_method_5_code 4 (some .int) :: bp_tb) B.pre w (List.mem_cons_of_mem _ hw)
  have hown : s.vm.findClass "BlockPictures$BlockRows" = some mt.cls := findClass_of_methodNamed B.named
  have hlocks := B.notSynchronized
  subst hsz
  have hD := hD0.self (sz := s.heap.size)
  generalize hAe : va_A (bc_W E m) s.heap.size = A at hD hst ⊢
  have hsub : ∀ (u : bp_M) (z q : Nat), s.heap.size ≤ z → va_A (bc_W E u) z q → A q := bc_sub hAe
  have hS : va_S A s.heap s.heap [] := va_S.rf
  have hl := lv_entry ([.ref (E.2.1 o0), .int a1, .int a2]) (n := 4) (Nat.le_of_ble_eq_true rfl)
  rw [lg_entry_eq]
  generalize (lg_sl ([.ref (E.2.1 o0), .int a1, .int a2]) ++ List.replicate (4 - (lg_sl ([.ref (E.2.1 o0), .int a1, .int a2])).length) Slot.unset).toArray = ls at hl ⊢
  have hl : lv_has ls 4 [(0, .ref (E.2.1 o0)), (1, .int a1), (2, .int a2)] := hl
  refine bc_keyI (R := ({ frames := 1, cells := 0, slots := 0, locals := 40 })) E hx hb hr hlocks hK hAe (fun Q hret => ?_)
  clear B hD0 hlocks hr
  generalize ([.ref (E.2.1 o0), .int a1, .int a2] : List Value).toArray = args at htb hret ⊢
  clear hAe
  have hL108 : ∀ (s0 : Int32) (m : bp_M), bc_RO_strength_L108 N o0 a1 a2 s0 m = some (r, mr) → ∀ (ls : Array Slot) (H : Heap) (locs : List Loc), lv_has ls 4 [] → va_P E.1 bp_cl (bc_W E m) H → va_D A (bc_W E m) → va_S A s.heap H locs → W p l e ({ frames := 1, cells := 0, slots := 0, locals := 40 }) s mt args below meth c H locs 0 0 Q (F0 mt 108 ls [.int s0]) := by
    intro s0 m h ls H locs hl hP hD hS
    rw [bc_RO_strength_L108] at h
    exact hret _ _ _ _ _ _ h hP hD hS (dt_bc_RO_strength 64 rfl)
  have hL98 : ∀ (s0 : Int32) (m : bp_M), bc_RO_strength_L98 N o0 a1 a2 s0 m = some (r, mr) → ∀ (ls : Array Slot) (H : Heap) (locs : List Loc), lv_has ls 4 [] → va_P E.1 bp_cl (bc_W E m) H → va_D A (bc_W E m) → va_S A s.heap H locs → W p l e ({ frames := 1, cells := 0, slots := 0, locals := 40 }) s mt args below meth c H locs 0 0 Q (F0 mt 98 ls [.int s0]) := by
    intro s0 m h ls H locs hl hP hD hS
    rw [bc_RO_strength_L98] at h
    refine lv_istore_n hx hb (dt_bc_RO_strength 58 rfl) rfl hl (Nat.le_of_ble_eq_true rfl) rfl (fun ls hl => ?_)
    have hl : lv_has ls 4 [(3, .int s0)] := hl
    refine lv_iload_n hx hb (dt_bc_RO_strength 59 rfl) rfl (lv_at hl 0 rfl) ?_
    refine lv_if_eq (tgt := 107) hx hb (dt_bc_RO_strength 60 rfl) (by decide) (fun hc => ?_) (fun hc => ?_)
    · replace h := (if_pos hc).symm.trans h
      refine lv_iconst (v := 0) hx hb (dt_bc_RO_strength 63 rfl) (by decide) ?_
      exact hL108 _ _ h ls H locs (lv_sub hl [] rfl) hP hD hS
    · replace h := (if_neg hc).symm.trans h
      refine lv_iconst (v := 1) hx hb (dt_bc_RO_strength 61 rfl) (by decide) ?_
      refine lv_goto (tgt := 108) hx hb (dt_bc_RO_strength 62 rfl) (by decide) ?_
      exact hL108 _ _ h ls H locs (lv_sub hl [] rfl) hP hD hS
  have hL93 : ∀ (m : bp_M), bc_RO_strength_L93 N o0 a1 a2 m = some (r, mr) → ∀ (ls : Array Slot) (H : Heap) (locs : List Loc), lv_has ls 4 [] → va_P E.1 bp_cl (bc_W E m) H → va_D A (bc_W E m) → va_S A s.heap H locs → W p l e ({ frames := 1, cells := 0, slots := 0, locals := 40 }) s mt args below meth c H locs 0 0 Q (F0 mt 93 ls []) := by
    intro m h ls H locs hl hP hD hS
    rw [bc_RO_strength_L93] at h
    refine lv_iconst (v := 1) hx hb (dt_bc_RO_strength 55 rfl) (by decide) ?_
    refine lv_goto (tgt := 98) hx hb (dt_bc_RO_strength 56 rfl) (by decide) ?_
    exact hL98 _ _ h ls H locs (lv_sub hl [] rfl) hP hD hS
  have hL18 : ∀ (m : bp_M), bc_RO_strength_L18 N o0 a1 a2 m = some (r, mr) → ∀ (ls : Array Slot) (H : Heap) (locs : List Loc), lv_has ls 4 [] → va_P E.1 bp_cl (bc_W E m) H → va_D A (bc_W E m) → va_S A s.heap H locs → W p l e ({ frames := 1, cells := 0, slots := 0, locals := 40 }) s mt args below meth c H locs 0 0 Q (F0 mt 18 ls []) := by
    intro m h ls H locs hl hP hD hS
    rw [bc_RO_strength_L18] at h
    refine lv_iconst (v := 2) hx hb (dt_bc_RO_strength 10 rfl) (by decide) ?_
    exact hret _ _ _ _ _ _ h hP hD hS (dt_bc_RO_strength 11 rfl)
  suffices hgo : ∀ (H : Heap) (locs : List Loc), va_P E.1 bp_cl (bc_W E m) H → va_D A (bc_W E m) → va_S A s.heap H locs → W p l e ({ frames := 1, cells := 0, slots := 0, locals := 40 }) s mt args below meth c H locs 0 0 Q (F0 mt 0 ls []) from hgo _ _ hP hD hS
  clear hP hD hS
  intro H locs hP hD hS
  unfold bc_RO_strength at h
  refine lv_aload_n hx hb (dt_bc_RO_strength 0 rfl) rfl (lv_at hl 0 rfl) ?_
  refine va_get (D := E.1) (ci := 8) (v := .ref (E.2.1 (5 * o0 - 16))) (C := "BlockPictures$BlockRows") (T := bF_RO) (N := 6) hx hb htb bc_in_RO hown hK hP o0 (bc_gRO E m hp_o0) rfl 0 (by decide) (htb _ tw_215) (fun _ h9 => h9) rfl (dt_bc_RO_strength 1 rfl) ?_
  refine lv_iload_n hx hb (dt_bc_RO_strength 2 rfl) rfl (lv_at hl 1 rfl) ?_
  obtain ⟨hg1, h⟩ := bp_gi_s h
  refine bc_lZ E hx hb hK hP (bc_gro0 E hp_o0) hg1 (dt_bc_RO_strength 3 rfl) ?_
  refine lv_if_eq (tgt := 18) hx hb (dt_bc_RO_strength 4 rfl) (by decide) (fun hc => ?_) (fun hc => ?_)
  · replace h := (if_pos hc).symm.trans h
    exact hL18 _ h ls H locs (lv_sub hl [] rfl) hP hD hS
  · replace h := (if_neg hc).symm.trans h
    refine lv_aload_n hx hb (dt_bc_RO_strength 5 rfl) rfl (lv_at hl 0 rfl) ?_
    refine va_get (D := E.1) (ci := 8) (v := .ref (E.2.1 (5 * o0 - 16))) (C := "BlockPictures$BlockRows") (T := bF_RO) (N := 6) hx hb htb bc_in_RO hown hK hP o0 (bc_gRO E m hp_o0) rfl 0 (by decide) (htb _ tw_215) (fun _ h9 => h9) rfl (dt_bc_RO_strength 6 rfl) ?_
    refine lv_iload_n hx hb (dt_bc_RO_strength 7 rfl) rfl (lv_at hl 2 rfl) ?_
    obtain ⟨hg2, h⟩ := bp_gi_s h
    refine bc_lZ E hx hb hK hP (bc_gro0 E hp_o0) hg2 (dt_bc_RO_strength 8 rfl) ?_
    refine lv_if_ne (tgt := 20) hx hb (dt_bc_RO_strength 9 rfl) (by decide) (fun hc => ?_) (fun hc => ?_)
    · replace h := (if_pos hc).symm.trans h
      refine lv_aload_n hx hb (dt_bc_RO_strength 12 rfl) rfl (lv_at hl 0 rfl) ?_
      refine va_get (D := E.1) (ci := 8) (v := .ref (E.2.1 (5 * o0 - 15))) (C := "BlockPictures$BlockRows") (T := bF_RO) (N := 6) hx hb htb bc_in_RO hown hK hP o0 (bc_gRO E m hp_o0) rfl 1 (by decide) (htb _ tw_218) (fun _ h9 => h9) rfl (dt_bc_RO_strength 13 rfl) ?_
      refine lv_iload_n hx hb (dt_bc_RO_strength 14 rfl) rfl (lv_at hl 1 rfl) ?_
      obtain ⟨hg3, h⟩ := bp_gi_s h
      refine bc_lZ E hx hb hK hP (bc_gro1 E hp_o0) hg3 (dt_bc_RO_strength 15 rfl) ?_
      refine lv_if_ne (tgt := 93) hx hb (dt_bc_RO_strength 16 rfl) (by decide) (fun hc => ?_) (fun hc => ?_)
      · replace h := (if_pos hc).symm.trans h
        exact hL93 _ h ls H locs (lv_sub hl [] rfl) hP hD hS
      · replace h := (if_neg (fun hn => hn hc)).symm.trans h
        refine lv_aload_n hx hb (dt_bc_RO_strength 17 rfl) rfl (lv_at hl 0 rfl) ?_
        refine va_get (D := E.1) (ci := 8) (v := .ref (E.2.1 (5 * o0 - 15))) (C := "BlockPictures$BlockRows") (T := bF_RO) (N := 6) hx hb htb bc_in_RO hown hK hP o0 (bc_gRO E m hp_o0) rfl 1 (by decide) (htb _ tw_218) (fun _ h9 => h9) rfl (dt_bc_RO_strength 18 rfl) ?_
        refine lv_iload_n hx hb (dt_bc_RO_strength 19 rfl) rfl (lv_at hl 2 rfl) ?_
        obtain ⟨hg4, h⟩ := bp_gi_s h
        refine bc_lZ E hx hb hK hP (bc_gro1 E hp_o0) hg4 (dt_bc_RO_strength 20 rfl) ?_
        refine lv_if_ne (tgt := 93) hx hb (dt_bc_RO_strength 21 rfl) (by decide) (fun hc => ?_) (fun hc => ?_)
        · replace h := (if_pos hc).symm.trans h
          exact hL93 _ h ls H locs (lv_sub hl [] rfl) hP hD hS
        · replace h := (if_neg (fun hn => hn hc)).symm.trans h
          refine lv_aload_n hx hb (dt_bc_RO_strength 22 rfl) rfl (lv_at hl 0 rfl) ?_
          refine va_get (D := E.1) (ci := 8) (v := .ref (E.2.1 (5 * o0 - 14))) (C := "BlockPictures$BlockRows") (T := bF_RO) (N := 6) hx hb htb bc_in_RO hown hK hP o0 (bc_gRO E m hp_o0) rfl 2 (by decide) (htb _ tw_220) (fun _ h9 => h9) rfl (dt_bc_RO_strength 23 rfl) ?_
          refine lv_iload_n hx hb (dt_bc_RO_strength 24 rfl) rfl (lv_at hl 1 rfl) ?_
          obtain ⟨hg5, h⟩ := bp_gi_s h
          refine bc_lI E hx hb hK hP (bc_gro2 E hp_o0) hg5 (dt_bc_RO_strength 25 rfl) ?_
          refine lv_aload_n hx hb (dt_bc_RO_strength 26 rfl) rfl (lv_at hl 0 rfl) ?_
          refine va_get (D := E.1) (ci := 8) (v := .ref (E.2.1 (5 * o0 - 14))) (C := "BlockPictures$BlockRows") (T := bF_RO) (N := 6) hx hb htb bc_in_RO hown hK hP o0 (bc_gRO E m hp_o0) rfl 2 (by decide) (htb _ tw_220) (fun _ h9 => h9) rfl (dt_bc_RO_strength 27 rfl) ?_
          refine lv_iload_n hx hb (dt_bc_RO_strength 28 rfl) rfl (lv_at hl 2 rfl) ?_
          obtain ⟨hg6, h⟩ := bp_gi_s h
          refine bc_lI E hx hb hK hP (bc_gro2 E hp_o0) hg6 (dt_bc_RO_strength 29 rfl) ?_
          refine lv_icmp_ne (tgt := 93) hx hb (dt_bc_RO_strength 30 rfl) (by decide) (fun hc => ?_) (fun hc => ?_)
          · replace h := (if_pos hc).symm.trans h
            exact hL93 _ h ls H locs (lv_sub hl [] rfl) hP hD hS
          · replace h := (if_neg (fun hn => hn hc)).symm.trans h
            refine lv_aload_n hx hb (dt_bc_RO_strength 31 rfl) rfl (lv_at hl 0 rfl) ?_
            refine va_get (D := E.1) (ci := 8) (v := .ref (E.2.1 (5 * o0 - 13))) (C := "BlockPictures$BlockRows") (T := bF_RO) (N := 6) hx hb htb bc_in_RO hown hK hP o0 (bc_gRO E m hp_o0) rfl 3 (by decide) (htb _ tw_222) (fun _ h9 => h9) rfl (dt_bc_RO_strength 32 rfl) ?_
            refine lv_iload_n hx hb (dt_bc_RO_strength 33 rfl) rfl (lv_at hl 1 rfl) ?_
            obtain ⟨hg7, h⟩ := bp_gi_s h
            refine bc_lI E hx hb hK hP (bc_gro3 E hp_o0) hg7 (dt_bc_RO_strength 34 rfl) ?_
            refine lv_aload_n hx hb (dt_bc_RO_strength 35 rfl) rfl (lv_at hl 0 rfl) ?_
            refine va_get (D := E.1) (ci := 8) (v := .ref (E.2.1 (5 * o0 - 13))) (C := "BlockPictures$BlockRows") (T := bF_RO) (N := 6) hx hb htb bc_in_RO hown hK hP o0 (bc_gRO E m hp_o0) rfl 3 (by decide) (htb _ tw_222) (fun _ h9 => h9) rfl (dt_bc_RO_strength 36 rfl) ?_
            refine lv_iload_n hx hb (dt_bc_RO_strength 37 rfl) rfl (lv_at hl 2 rfl) ?_
            obtain ⟨hg8, h⟩ := bp_gi_s h
            refine bc_lI E hx hb hK hP (bc_gro3 E hp_o0) hg8 (dt_bc_RO_strength 38 rfl) ?_
            refine lv_isub hx hb (dt_bc_RO_strength 39 rfl) ?_
            refine va_mabs hx hb (hml.trans hl.1.symm) hown (htb _ tw_579) (htb _ tw_580) (htb _ tw_81) (htb _ tw_581) (Nat.le_of_ble_eq_true rfl) (Nat.le_of_ble_eq_true rfl) (Nat.zero_le _) (Nat.zero_le _) (dt_bc_RO_strength 40 rfl) ?_
            refine lv_iconst (v := 2) hx hb (dt_bc_RO_strength 41 rfl) (by decide) ?_
            refine lv_icmp_ge (tgt := 93) hx hb (dt_bc_RO_strength 42 rfl) (by decide) (fun hc => ?_) (fun hc => ?_)
            · replace h := (if_pos hc).symm.trans h
              exact hL93 _ h ls H locs (lv_sub hl [] rfl) hP hD hS
            · replace h := (if_neg hc).symm.trans h
              refine lv_aload_n hx hb (dt_bc_RO_strength 43 rfl) rfl (lv_at hl 0 rfl) ?_
              refine va_get (D := E.1) (ci := 8) (v := .ref (E.2.1 (5 * o0 - 12))) (C := "BlockPictures$BlockRows") (T := bF_RO) (N := 6) hx hb htb bc_in_RO hown hK hP o0 (bc_gRO E m hp_o0) rfl 4 (by decide) (htb _ tw_225) (fun _ h9 => h9) rfl (dt_bc_RO_strength 44 rfl) ?_
              refine lv_iload_n hx hb (dt_bc_RO_strength 45 rfl) rfl (lv_at hl 1 rfl) ?_
              obtain ⟨hg9, h⟩ := bp_gi_s h
              refine bc_lI E hx hb hK hP (bc_gro4 E hp_o0) hg9 (dt_bc_RO_strength 46 rfl) ?_
              refine lv_aload_n hx hb (dt_bc_RO_strength 47 rfl) rfl (lv_at hl 0 rfl) ?_
              refine va_get (D := E.1) (ci := 8) (v := .ref (E.2.1 (5 * o0 - 12))) (C := "BlockPictures$BlockRows") (T := bF_RO) (N := 6) hx hb htb bc_in_RO hown hK hP o0 (bc_gRO E m hp_o0) rfl 4 (by decide) (htb _ tw_225) (fun _ h9 => h9) rfl (dt_bc_RO_strength 48 rfl) ?_
              refine lv_iload_n hx hb (dt_bc_RO_strength 49 rfl) rfl (lv_at hl 2 rfl) ?_
              obtain ⟨hg10, h⟩ := bp_gi_s h
              refine bc_lI E hx hb hK hP (bc_gro4 E hp_o0) hg10 (dt_bc_RO_strength 50 rfl) ?_
              refine lv_isub hx hb (dt_bc_RO_strength 51 rfl) ?_
              refine va_mabs hx hb (hml.trans hl.1.symm) hown (htb _ tw_579) (htb _ tw_580) (htb _ tw_81) (htb _ tw_581) (Nat.le_of_ble_eq_true rfl) (Nat.le_of_ble_eq_true rfl) (Nat.zero_le _) (Nat.zero_le _) (dt_bc_RO_strength 52 rfl) ?_
              refine lv_iconst (v := 2) hx hb (dt_bc_RO_strength 53 rfl) (by decide) ?_
              refine lv_icmp_lt (tgt := 97) hx hb (dt_bc_RO_strength 54 rfl) (by decide) (fun hc => ?_) (fun hc => ?_)
              · replace h := (if_pos hc).symm.trans h
                refine lv_iconst (v := 0) hx hb (dt_bc_RO_strength 57 rfl) (by decide) ?_
                exact hL98 _ _ h ls H locs (lv_sub hl [] rfl) hP hD hS
              · replace h := (if_neg hc).symm.trans h
                exact hL93 _ h ls H locs (lv_sub hl [] rfl) hP hD hS
    · replace h := (if_neg (fun hn => hn hc)).symm.trans h
      exact hL18 _ h ls H locs (lv_sub hl [] rfl) hP hD hS
set_option maxHeartbeats 4000000 in
set_option maxRecDepth 100000 in
theorem wbc_EF_smoothLine (l : Launch) (E : bc_E) (N : Nat) (a0 : Nat) (a1 : Int32) (a2 : Int32) (a3 : Int32) (a4 : Int32) (m : bp_M) (sz : Nat) (r : Int32) (mr : bp_M)  (h : bc_EF_smoothLine N a0 a1 a2 a3 a4 m = some (r, mr)) : Met l y_bc_EF_smoothLine (Cond.code y_bc_EF_smoothLine prog_4_method_3_code 12 (some .boolean) :: bp_tb) ({ frames := 1, cells := 0, slots := 0, locals := 40 }) (bc_Pc E m sz [.ref (E.2.1 a0), .int a1, .int a2, .int a3, .int a4]) (bc_Qi E m sz r mr) 0 0 (va_A (bc_W E m) sz) := by
  refine Met.ofW (cc := prog_4_method_3_code) (maxL := 12) (ret := (some .boolean)) (by decide) rfl ?_
  intro p e s mt args below meth c s₁ B hml hv
  obtain ⟨rfl, hsz, hP, hK, hD0, hst⟩ := hv
  have hx := B.exec
  have hb := B.bytes
  have hr := B.returns
  have htb : ∀ w ∈ bp_tb, w.before _ s = true := fun w hw => atoms_spec (ws := Cond.code y_bc_EF_smoothLine prog_4_method_3_code 12 (some .boolean) :: bp_tb) B.pre w (List.mem_cons_of_mem _ hw)
  have hown : s.vm.findClass "BlockPictures$EdgeFilter" = some mt.cls := findClass_of_methodNamed B.named
  have hlocks := B.notSynchronized
  subst hsz
  have hD := hD0.self (sz := s.heap.size)
  generalize hAe : va_A (bc_W E m) s.heap.size = A at hD hst ⊢
  have hsub : ∀ (u : bp_M) (z q : Nat), s.heap.size ≤ z → va_A (bc_W E u) z q → A q := bc_sub hAe
  have hS : va_S A s.heap s.heap [] := va_S.rf
  have hl := lv_entry ([.ref (E.2.1 a0), .int a1, .int a2, .int a3, .int a4]) (n := 12) (Nat.le_of_ble_eq_true rfl)
  rw [lg_entry_eq]
  generalize (lg_sl ([.ref (E.2.1 a0), .int a1, .int a2, .int a3, .int a4]) ++ List.replicate (12 - (lg_sl ([.ref (E.2.1 a0), .int a1, .int a2, .int a3, .int a4])).length) Slot.unset).toArray = ls at hl ⊢
  have hl : lv_has ls 12 [(0, .ref (E.2.1 a0)), (1, .int a1), (2, .int a2), (3, .int a3), (4, .int a4)] := hl
  refine bc_keyZ (R := ({ frames := 1, cells := 0, slots := 0, locals := 40 })) E hx hb hr hlocks hK hAe (fun Q hret => ?_)
  clear B hD0 hlocks hr
  generalize ([.ref (E.2.1 a0), .int a1, .int a2, .int a3, .int a4] : List Value).toArray = args at htb hret ⊢
  clear hAe
  have hL178 : ∀ (s0 : Int32) (m : bp_M), bc_EF_smoothLine_L178 N a0 a1 a2 a3 a4 s0 m = some (r, mr) → ∀ (ls : Array Slot) (H : Heap) (locs : List Loc), lv_has ls 12 [] → va_P E.1 bp_cl (bc_W E m) H → va_D A (bc_W E m) → va_S A s.heap H locs → W p l e ({ frames := 1, cells := 0, slots := 0, locals := 40 }) s mt args below meth c H locs 0 0 Q (F0 mt 178 ls [.int s0]) := by
    intro s0 m h ls H locs hl hP hD hS
    rw [bc_EF_smoothLine_L178] at h
    obtain ⟨hg1, h⟩ := bp_g_s h
    exact hret _ _ _ _ _ _ hg1 h hP hD hS (dt_bc_EF_smoothLine 116 rfl)
  have hL173 : ∀ (m : bp_M), bc_EF_smoothLine_L173 N a0 a1 a2 a3 a4 m = some (r, mr) → ∀ (ls : Array Slot) (H : Heap) (locs : List Loc), lv_has ls 12 [] → va_P E.1 bp_cl (bc_W E m) H → va_D A (bc_W E m) → va_S A s.heap H locs → W p l e ({ frames := 1, cells := 0, slots := 0, locals := 40 }) s mt args below meth c H locs 0 0 Q (F0 mt 173 ls []) := by
    intro m h ls H locs hl hP hD hS
    rw [bc_EF_smoothLine_L173] at h
    refine lv_iconst (v := 1) hx hb (dt_bc_EF_smoothLine 113 rfl) (by decide) ?_
    refine lv_goto (tgt := 178) hx hb (dt_bc_EF_smoothLine 114 rfl) (by decide) ?_
    exact hL178 _ _ h ls H locs (lv_sub hl [] rfl) hP hD hS
  have hL80 : ∀ (x5 : Int32) (x6 : Int32) (x7 : Int32) (x8 : Int32) (s0 : Int32) (m : bp_M), bc_EF_smoothLine_L80 N a0 a1 a2 a3 a4 x5 x6 x7 x8 s0 m = some (r, mr) → ∀ (ls : Array Slot) (H : Heap) (locs : List Loc), lv_has ls 12 [(0, .ref (E.2.1 a0)), (1, .int a1), (2, .int a2), (3, .int a3), (4, .int a4), (5, .int x5), (6, .int x6), (7, .int x7), (8, .int x8)] → va_P E.1 bp_cl (bc_W E m) H → va_D A (bc_W E m) → va_S A s.heap H locs → W p l e ({ frames := 1, cells := 0, slots := 0, locals := 40 }) s mt args below meth c H locs 0 0 Q (F0 mt 80 ls [.int s0]) := by
    intro x5 x6 x7 x8 s0 m h ls H locs hl hP hD hS
    rw [bc_EF_smoothLine_L80] at h
    refine lv_istore hx hb (dt_bc_EF_smoothLine 53 rfl) hl (Nat.le_of_ble_eq_true rfl) rfl (fun ls hl => ?_)
    have hl : lv_has ls 12 [(9, .int s0), (0, .ref (E.2.1 a0)), (1, .int a1), (2, .int a2), (3, .int a3), (4, .int a4), (5, .int x5), (6, .int x6), (7, .int x7), (8, .int x8)] := hl
    refine lv_iload hx hb (dt_bc_EF_smoothLine 54 rfl) (lv_at hl 0 rfl) ?_
    refine lv_if_ne (tgt := 89) hx hb (dt_bc_EF_smoothLine 55 rfl) (by decide) (fun hc => ?_) (fun hc => ?_)
    · replace h := (if_pos hc).symm.trans h
      refine lv_iload_n hx hb (dt_bc_EF_smoothLine 58 rfl) rfl (lv_at hl 4 rfl) ?_
      refine lv_iload hx hb (dt_bc_EF_smoothLine 59 rfl) (lv_at hl 5 rfl) ?_
      refine lv_iconst (v := 3) hx hb (dt_bc_EF_smoothLine 60 rfl) (by decide) ?_
      refine lv_idiv hx hb (dt_bc_EF_smoothLine 61 rfl) (by decide) ?_
      refine lv_iadd hx hb (dt_bc_EF_smoothLine 62 rfl) ?_
      refine lv_topi (fun y1 ey1 => ?_)
      replace h := bp_nI_s h ey1
      refine lv_istore hx hb (dt_bc_EF_smoothLine 63 rfl) hl (Nat.le_of_ble_eq_true rfl) rfl (fun ls hl => ?_)
      have hl : lv_has ls 12 [(10, .int y1), (9, .int s0), (0, .ref (E.2.1 a0)), (1, .int a1), (2, .int a2), (3, .int a3), (4, .int a4), (5, .int x5), (6, .int x6), (7, .int x7), (8, .int x8)] := hl
      refine lv_iconst (v := 4) hx hb (dt_bc_EF_smoothLine 64 rfl) (by decide) ?_
      refine lv_iload hx hb (dt_bc_EF_smoothLine 65 rfl) (lv_at hl 9 rfl) ?_
      refine lv_iload hx hb (dt_bc_EF_smoothLine 66 rfl) (lv_at hl 8 rfl) ?_
      refine lv_isub hx hb (dt_bc_EF_smoothLine 67 rfl) ?_
      refine lv_imul hx hb (dt_bc_EF_smoothLine 68 rfl) ?_
      refine lv_iload hx hb (dt_bc_EF_smoothLine 69 rfl) (lv_at hl 7 rfl) ?_
      refine lv_iadd hx hb (dt_bc_EF_smoothLine 70 rfl) ?_
      refine lv_iload hx hb (dt_bc_EF_smoothLine 71 rfl) (lv_at hl 10 rfl) ?_
      refine lv_isub hx hb (dt_bc_EF_smoothLine 72 rfl) ?_
      refine lv_iconst (v := 4) hx hb (dt_bc_EF_smoothLine 73 rfl) (by decide) ?_
      refine lv_iadd hx hb (dt_bc_EF_smoothLine 74 rfl) ?_
      refine lv_iconst (v := 3) hx hb (dt_bc_EF_smoothLine 75 rfl) (by decide) ?_
      refine lv_ishr hx hb (dt_bc_EF_smoothLine 76 rfl) ?_
      refine lv_topi (fun y2 ey2 => ?_)
      replace h := bp_nI_s h ey2
      refine lv_istore hx hb (dt_bc_EF_smoothLine 77 rfl) hl (Nat.le_of_ble_eq_true rfl) rfl (fun ls hl => ?_)
      have hl : lv_has ls 12 [(11, .int y2), (10, .int y1), (9, .int s0), (0, .ref (E.2.1 a0)), (1, .int a1), (2, .int a2), (3, .int a3), (4, .int a4), (5, .int x5), (6, .int x6), (7, .int x7), (8, .int x8)] := hl
      refine lv_iload hx hb (dt_bc_EF_smoothLine 78 rfl) (lv_at hl 1 rfl) ?_
      refine lv_ineg hx hb (dt_bc_EF_smoothLine 79 rfl) ?_
      refine lv_iload hx hb (dt_bc_EF_smoothLine 80 rfl) (lv_at hl 1 rfl) ?_
      refine lv_iload hx hb (dt_bc_EF_smoothLine 81 rfl) (lv_at hl 0 rfl) ?_
      refine va_mmin hx hb (hml.trans hl.1.symm) hown (htb _ tw_587) (htb _ tw_494) (htb _ tw_81) (htb _ tw_495) (Nat.le_of_ble_eq_true rfl) (Nat.le_of_ble_eq_true rfl) (Nat.zero_le _) (Nat.zero_le _) (dt_bc_EF_smoothLine 82 rfl) ?_
      refine va_mmax hx hb (hml.trans hl.1.symm) hown (htb _ tw_588) (htb _ tw_497) (htb _ tw_81) (htb _ tw_498) (Nat.le_of_ble_eq_true rfl) (Nat.le_of_ble_eq_true rfl) (Nat.zero_le _) (Nat.zero_le _) (dt_bc_EF_smoothLine 83 rfl) ?_
      refine lv_topi (fun y3 ey3 => ?_)
      replace h := bp_nI_s h ey3
      refine lv_istore hx hb (dt_bc_EF_smoothLine 84 rfl) hl (Nat.le_of_ble_eq_true rfl) rfl (fun ls hl => ?_)
      have hl : lv_has ls 12 [(11, .int y3), (10, .int y1), (9, .int s0), (0, .ref (E.2.1 a0)), (1, .int a1), (2, .int a2), (3, .int a3), (4, .int a4), (5, .int x5), (6, .int x6), (7, .int x7), (8, .int x8)] := hl
      refine lv_aload_n hx hb (dt_bc_EF_smoothLine 85 rfl) rfl (lv_at hl 3 rfl) ?_
      refine lv_iload_n hx hb (dt_bc_EF_smoothLine 86 rfl) rfl (lv_at hl 4 rfl) ?_
      refine lv_iload_n hx hb (dt_bc_EF_smoothLine 87 rfl) rfl (lv_at hl 5 rfl) ?_
      refine lv_isub hx hb (dt_bc_EF_smoothLine 88 rfl) ?_
      refine lv_iload hx hb (dt_bc_EF_smoothLine 89 rfl) (lv_at hl 9 rfl) ?_
      refine lv_iload hx hb (dt_bc_EF_smoothLine 90 rfl) (lv_at hl 0 rfl) ?_
      refine lv_iadd hx hb (dt_bc_EF_smoothLine 91 rfl) ?_
      obtain ⟨z5, m4, hm4, h⟩ := bp_cI_s h
      refine bc_callI E hsub hS (va_runSN (As := [.int (x6 + y3 : Int32)]) (rest := [.int (a1 - a2 : Int32), .ref (E.2.1 a0)]) ⟨hx, hb, hml, hown, htb⟩ (wbc_BP_limit l E N (x6 + y3 : Int32) m H.size z5 m4 hm4) ⟨va_cnB 1 htb (bp_good tw_522) rfl rfl rfl (hst.1 _ (List.mem_of_getElem? (i := 13) rfl)) (htb _ tw_69) hd_bc_BP_limit ⟨Nat.le_of_ble_eq_true rfl, Nat.le_of_ble_eq_true rfl⟩, htb _ tw_521, trivial⟩ (bc_preS E hsub hst hK hP hD hS _) rfl rfl hl.1 rfl (lv_room (Nat.le_of_ble_eq_true rfl)) (dt_bc_EF_smoothLine 92 rfl) ⟨Nat.zero_le _, Nat.zero_le _⟩) (fun H locs hP hD hS => ?_)
      obtain ⟨hg6, h⟩ := bp_g_s h
      obtain ⟨hg7, h⟩ := bp_gi_s h
      refine bc_sI E hx hb hK hP hD hS (bc_gisI E hg6) hg7 (dt_bc_EF_smoothLine 93 rfl) (fun m8 em8 H locs hP hD hS => ?_)
      replace h := bp_nM_s h em8
      refine lv_aload_n hx hb (dt_bc_EF_smoothLine 94 rfl) rfl (lv_at hl 3 rfl) ?_
      refine lv_iload_n hx hb (dt_bc_EF_smoothLine 95 rfl) rfl (lv_at hl 4 rfl) ?_
      refine lv_iload hx hb (dt_bc_EF_smoothLine 96 rfl) (lv_at hl 10 rfl) ?_
      refine lv_iload hx hb (dt_bc_EF_smoothLine 97 rfl) (lv_at hl 0 rfl) ?_
      refine lv_isub hx hb (dt_bc_EF_smoothLine 98 rfl) ?_
      obtain ⟨z10, m9, hm9, h⟩ := bp_cI_s h
      refine bc_callI E hsub hS (va_runSN (As := [.int (x7 - y3 : Int32)]) (rest := [.int a1, .ref (E.2.1 a0)]) ⟨hx, hb, hml, hown, htb⟩ (wbc_BP_limit l E N (x7 - y3 : Int32) m8 H.size z10 m9 hm9) ⟨va_cnB 1 htb (bp_good tw_522) rfl rfl rfl (hst.1 _ (List.mem_of_getElem? (i := 13) rfl)) (htb _ tw_69) hd_bc_BP_limit ⟨Nat.le_of_ble_eq_true rfl, Nat.le_of_ble_eq_true rfl⟩, htb _ tw_521, trivial⟩ (bc_preS E hsub hst hK hP hD hS _) rfl rfl hl.1 rfl (lv_room (Nat.le_of_ble_eq_true rfl)) (dt_bc_EF_smoothLine 99 rfl) ⟨Nat.zero_le _, Nat.zero_le _⟩) (fun H locs hP hD hS => ?_)
      obtain ⟨hg11, h⟩ := bp_g_s h
      obtain ⟨hg12, h⟩ := bp_gi_s h
      refine bc_sI E hx hb hK hP hD hS (bc_gisI E hg11) hg12 (dt_bc_EF_smoothLine 100 rfl) (fun m13 em13 H locs hP hD hS => ?_)
      replace h := bp_nM_s h em13
      refine lv_aload_n hx hb (dt_bc_EF_smoothLine 101 rfl) rfl (lv_at hl 3 rfl) ?_
      refine lv_iload_n hx hb (dt_bc_EF_smoothLine 102 rfl) rfl (lv_at hl 4 rfl) ?_
      refine lv_iload_n hx hb (dt_bc_EF_smoothLine 103 rfl) rfl (lv_at hl 5 rfl) ?_
      refine lv_isub hx hb (dt_bc_EF_smoothLine 104 rfl) ?_
      obtain ⟨hg14, h⟩ := bp_g_s h
      obtain ⟨hg15, h⟩ := bp_gi_s h
      refine bc_lI E hx hb hK hP (bc_gisI E hg14) hg15 (dt_bc_EF_smoothLine 105 rfl) ?_
      refine lv_iload hx hb (dt_bc_EF_smoothLine 106 rfl) (lv_at hl 9 rfl) ?_
      refine lv_icmp_ne (tgt := 173) hx hb (dt_bc_EF_smoothLine 107 rfl) (by decide) (fun hc => ?_) (fun hc => ?_)
      · replace h := (if_pos hc).symm.trans h
        exact hL173 _ h ls H locs (lv_sub hl [] rfl) hP hD hS
      · replace h := (if_neg (fun hn => hn hc)).symm.trans h
        refine lv_aload_n hx hb (dt_bc_EF_smoothLine 108 rfl) rfl (lv_at hl 3 rfl) ?_
        refine lv_iload_n hx hb (dt_bc_EF_smoothLine 109 rfl) rfl (lv_at hl 4 rfl) ?_
        obtain ⟨hg16, h⟩ := bp_g_s h
        obtain ⟨hg17, h⟩ := bp_gi_s h
        refine bc_lI E hx hb hK hP (bc_gisI E hg16) hg17 (dt_bc_EF_smoothLine 110 rfl) ?_
        refine lv_iload hx hb (dt_bc_EF_smoothLine 111 rfl) (lv_at hl 10 rfl) ?_
        refine lv_icmp_eq (tgt := 177) hx hb (dt_bc_EF_smoothLine 112 rfl) (by decide) (fun hc => ?_) (fun hc => ?_)
        · replace h := (if_pos hc).symm.trans h
          refine lv_iconst (v := 0) hx hb (dt_bc_EF_smoothLine 115 rfl) (by decide) ?_
          exact hL178 _ _ h ls H locs (lv_sub hl [] rfl) hP hD hS
        · replace h := (if_neg hc).symm.trans h
          exact hL173 _ h ls H locs (lv_sub hl [] rfl) hP hD hS
    · replace h := (if_neg (fun hn => hn hc)).symm.trans h
      refine lv_iconst (v := 0) hx hb (dt_bc_EF_smoothLine 56 rfl) (by decide) ?_
      obtain ⟨hg18, h⟩ := bp_g_s h
      exact hret _ _ _ _ _ _ hg18 h hP hD hS (dt_bc_EF_smoothLine 57 rfl)
  have hL79 : ∀ (x5 : Int32) (x6 : Int32) (x7 : Int32) (x8 : Int32) (m : bp_M), bc_EF_smoothLine_L79 N a0 a1 a2 a3 a4 x5 x6 x7 x8 m = some (r, mr) → ∀ (ls : Array Slot) (H : Heap) (locs : List Loc), lv_has ls 12 [(0, .ref (E.2.1 a0)), (1, .int a1), (2, .int a2), (3, .int a3), (4, .int a4), (5, .int x5), (6, .int x6), (7, .int x7), (8, .int x8)] → va_P E.1 bp_cl (bc_W E m) H → va_D A (bc_W E m) → va_S A s.heap H locs → W p l e ({ frames := 1, cells := 0, slots := 0, locals := 40 }) s mt args below meth c H locs 0 0 Q (F0 mt 79 ls []) := by
    intro x5 x6 x7 x8 m h ls H locs hl hP hD hS
    rw [bc_EF_smoothLine_L79] at h
    refine lv_iconst (v := 0) hx hb (dt_bc_EF_smoothLine 52 rfl) (by decide) ?_
    exact hL80 _ _ _ _ _ _ h ls H locs (lv_sub hl [0, 1, 2, 3, 4, 5, 6, 7, 8] rfl) hP hD hS
  suffices hgo : ∀ (H : Heap) (locs : List Loc), va_P E.1 bp_cl (bc_W E m) H → va_D A (bc_W E m) → va_S A s.heap H locs → W p l e ({ frames := 1, cells := 0, slots := 0, locals := 40 }) s mt args below meth c H locs 0 0 Q (F0 mt 0 ls []) from hgo _ _ hP hD hS
  clear hP hD hS
  intro H locs hP hD hS
  unfold bc_EF_smoothLine at h
  refine lv_aload_n hx hb (dt_bc_EF_smoothLine 0 rfl) rfl (lv_at hl 0 rfl) ?_
  refine lv_iload_n hx hb (dt_bc_EF_smoothLine 1 rfl) rfl (lv_at hl 1 rfl) ?_
  refine lv_iconst (v := 2) hx hb (dt_bc_EF_smoothLine 2 rfl) (by decide) ?_
  refine lv_iload_n hx hb (dt_bc_EF_smoothLine 3 rfl) rfl (lv_at hl 2 rfl) ?_
  refine lv_imul hx hb (dt_bc_EF_smoothLine 4 rfl) ?_
  refine lv_isub hx hb (dt_bc_EF_smoothLine 5 rfl) ?_
  obtain ⟨hg1, h⟩ := bp_g_s h
  obtain ⟨hg2, h⟩ := bp_gi_s h
  refine bc_lI E hx hb hK hP (bc_gisI E hg1) hg2 (dt_bc_EF_smoothLine 6 rfl) ?_
  refine lv_topi (fun y3 ey3 => ?_)
  replace h := bp_nI_s h ey3
  refine lv_istore hx hb (dt_bc_EF_smoothLine 7 rfl) hl (Nat.le_of_ble_eq_true rfl) rfl (fun ls hl => ?_)
  have hl : lv_has ls 12 [(5, .int y3), (0, .ref (E.2.1 a0)), (1, .int a1), (2, .int a2), (3, .int a3), (4, .int a4)] := hl
  refine lv_aload_n hx hb (dt_bc_EF_smoothLine 8 rfl) rfl (lv_at hl 1 rfl) ?_
  refine lv_iload_n hx hb (dt_bc_EF_smoothLine 9 rfl) rfl (lv_at hl 2 rfl) ?_
  refine lv_iload_n hx hb (dt_bc_EF_smoothLine 10 rfl) rfl (lv_at hl 3 rfl) ?_
  refine lv_isub hx hb (dt_bc_EF_smoothLine 11 rfl) ?_
  obtain ⟨hg4, h⟩ := bp_g_s h
  obtain ⟨hg5, h⟩ := bp_gi_s h
  refine bc_lI E hx hb hK hP (bc_gisI E hg4) hg5 (dt_bc_EF_smoothLine 12 rfl) ?_
  refine lv_topi (fun y6 ey6 => ?_)
  replace h := bp_nI_s h ey6
  refine lv_istore hx hb (dt_bc_EF_smoothLine 13 rfl) hl (Nat.le_of_ble_eq_true rfl) rfl (fun ls hl => ?_)
  have hl : lv_has ls 12 [(6, .int y6), (5, .int y3), (0, .ref (E.2.1 a0)), (1, .int a1), (2, .int a2), (3, .int a3), (4, .int a4)] := hl
  refine lv_aload_n hx hb (dt_bc_EF_smoothLine 14 rfl) rfl (lv_at hl 2 rfl) ?_
  refine lv_iload_n hx hb (dt_bc_EF_smoothLine 15 rfl) rfl (lv_at hl 3 rfl) ?_
  obtain ⟨hg7, h⟩ := bp_g_s h
  obtain ⟨hg8, h⟩ := bp_gi_s h
  refine bc_lI E hx hb hK hP (bc_gisI E hg7) hg8 (dt_bc_EF_smoothLine 16 rfl) ?_
  refine lv_topi (fun y9 ey9 => ?_)
  replace h := bp_nI_s h ey9
  refine lv_istore hx hb (dt_bc_EF_smoothLine 17 rfl) hl (Nat.le_of_ble_eq_true rfl) rfl (fun ls hl => ?_)
  have hl : lv_has ls 12 [(7, .int y9), (6, .int y6), (5, .int y3), (0, .ref (E.2.1 a0)), (1, .int a1), (2, .int a2), (3, .int a3), (4, .int a4)] := hl
  refine lv_aload_n hx hb (dt_bc_EF_smoothLine 18 rfl) rfl (lv_at hl 3 rfl) ?_
  refine lv_iload_n hx hb (dt_bc_EF_smoothLine 19 rfl) rfl (lv_at hl 4 rfl) ?_
  refine lv_iload_n hx hb (dt_bc_EF_smoothLine 20 rfl) rfl (lv_at hl 5 rfl) ?_
  refine lv_iadd hx hb (dt_bc_EF_smoothLine 21 rfl) ?_
  obtain ⟨hg10, h⟩ := bp_g_s h
  obtain ⟨hg11, h⟩ := bp_gi_s h
  refine bc_lI E hx hb hK hP (bc_gisI E hg10) hg11 (dt_bc_EF_smoothLine 22 rfl) ?_
  refine lv_topi (fun y12 ey12 => ?_)
  replace h := bp_nI_s h ey12
  refine lv_istore hx hb (dt_bc_EF_smoothLine 23 rfl) hl (Nat.le_of_ble_eq_true rfl) rfl (fun ls hl => ?_)
  have hl : lv_has ls 12 [(8, .int y12), (7, .int y9), (6, .int y6), (5, .int y3), (0, .ref (E.2.1 a0)), (1, .int a1), (2, .int a2), (3, .int a3), (4, .int a4)] := hl
  refine lv_iload hx hb (dt_bc_EF_smoothLine 24 rfl) (lv_at hl 2 rfl) ?_
  refine lv_iload hx hb (dt_bc_EF_smoothLine 25 rfl) (lv_at hl 1 rfl) ?_
  refine lv_isub hx hb (dt_bc_EF_smoothLine 26 rfl) ?_
  refine va_mabs hx hb (hml.trans hl.1.symm) hown (htb _ tw_586) (htb _ tw_580) (htb _ tw_81) (htb _ tw_581) (Nat.le_of_ble_eq_true rfl) (Nat.le_of_ble_eq_true rfl) (Nat.zero_le _) (Nat.zero_le _) (dt_bc_EF_smoothLine 27 rfl) ?_
  refine lv_iconst (v := 4) hx hb (dt_bc_EF_smoothLine 28 rfl) (by decide) ?_
  refine lv_iconst (v := 3) hx hb (dt_bc_EF_smoothLine 29 rfl) (by decide) ?_
  refine lv_iload hx hb (dt_bc_EF_smoothLine 30 rfl) (lv_at hl 8 rfl) ?_
  refine lv_imul hx hb (dt_bc_EF_smoothLine 31 rfl) ?_
  refine lv_iadd hx hb (dt_bc_EF_smoothLine 32 rfl) ?_
  refine lv_icmp_ge (tgt := 79) hx hb (dt_bc_EF_smoothLine 33 rfl) (by decide) (fun hc => ?_) (fun hc => ?_)
  · replace h := (if_pos hc).symm.trans h
    exact hL79 _ _ _ _ _ h ls H locs (lv_sub hl [4, 5, 6, 7, 8, 3, 2, 1, 0] rfl) hP hD hS
  · replace h := (if_neg hc).symm.trans h
    refine lv_iload hx hb (dt_bc_EF_smoothLine 34 rfl) (lv_at hl 3 rfl) ?_
    refine lv_iload hx hb (dt_bc_EF_smoothLine 35 rfl) (lv_at hl 2 rfl) ?_
    refine lv_isub hx hb (dt_bc_EF_smoothLine 36 rfl) ?_
    refine va_mabs hx hb (hml.trans hl.1.symm) hown (htb _ tw_586) (htb _ tw_580) (htb _ tw_81) (htb _ tw_581) (Nat.le_of_ble_eq_true rfl) (Nat.le_of_ble_eq_true rfl) (Nat.zero_le _) (Nat.zero_le _) (dt_bc_EF_smoothLine 37 rfl) ?_
    refine lv_iconst (v := 2) hx hb (dt_bc_EF_smoothLine 38 rfl) (by decide) ?_
    refine lv_iload hx hb (dt_bc_EF_smoothLine 39 rfl) (lv_at hl 8 rfl) ?_
    refine lv_iadd hx hb (dt_bc_EF_smoothLine 40 rfl) ?_
    refine lv_icmp_ge (tgt := 79) hx hb (dt_bc_EF_smoothLine 41 rfl) (by decide) (fun hc => ?_) (fun hc => ?_)
    · replace h := (if_pos hc).symm.trans h
      exact hL79 _ _ _ _ _ h ls H locs (lv_sub hl [4, 5, 6, 7, 8, 3, 2, 1, 0] rfl) hP hD hS
    · replace h := (if_neg hc).symm.trans h
      refine lv_iload hx hb (dt_bc_EF_smoothLine 42 rfl) (lv_at hl 0 rfl) ?_
      refine lv_iload hx hb (dt_bc_EF_smoothLine 43 rfl) (lv_at hl 1 rfl) ?_
      refine lv_isub hx hb (dt_bc_EF_smoothLine 44 rfl) ?_
      refine va_mabs hx hb (hml.trans hl.1.symm) hown (htb _ tw_586) (htb _ tw_580) (htb _ tw_81) (htb _ tw_581) (Nat.le_of_ble_eq_true rfl) (Nat.le_of_ble_eq_true rfl) (Nat.zero_le _) (Nat.zero_le _) (dt_bc_EF_smoothLine 45 rfl) ?_
      refine lv_iconst (v := 2) hx hb (dt_bc_EF_smoothLine 46 rfl) (by decide) ?_
      refine lv_iload hx hb (dt_bc_EF_smoothLine 47 rfl) (lv_at hl 8 rfl) ?_
      refine lv_iadd hx hb (dt_bc_EF_smoothLine 48 rfl) ?_
      refine lv_icmp_ge (tgt := 79) hx hb (dt_bc_EF_smoothLine 49 rfl) (by decide) (fun hc => ?_) (fun hc => ?_)
      · replace h := (if_pos hc).symm.trans h
        exact hL79 _ _ _ _ _ h ls H locs (lv_sub hl [4, 5, 6, 7, 8, 3, 2, 1, 0] rfl) hP hD hS
      · replace h := (if_neg hc).symm.trans h
        refine lv_iconst (v := 1) hx hb (dt_bc_EF_smoothLine 50 rfl) (by decide) ?_
        refine lv_goto (tgt := 80) hx hb (dt_bc_EF_smoothLine 51 rfl) (by decide) ?_
        exact hL80 _ _ _ _ _ _ h ls H locs (lv_sub hl [4, 5, 6, 7, 8, 3, 2, 1, 0] rfl) hP hD hS
set_option maxHeartbeats 4000000 in
set_option maxRecDepth 100000 in
theorem wbc_EF_smooth (l : Launch) (E : bc_E) (N : Nat) (a0 : Nat) (a1 : Nat) (a2 : Int32) (m : bp_M) (sz : Nat) (r : Int32) (mr : bp_M) (hp_a1 : isRO a1) (h : bc_EF_smooth N a0 a1 a2 m = some (r, mr)) : Met l y_bc_EF_smooth (Cond.code y_bc_EF_smooth prog_4_method_2_code 12 (some .int) :: bp_tb) ({ frames := 2, cells := 0, slots := 0, locals := 71 }) (bc_Pc E m sz [.ref (E.2.1 a0), .ref (E.2.1 a1), .int a2]) (bc_Qi E m sz r mr) 0 0 (va_A (bc_W E m) sz) := by
  refine Met.ofW (cc := prog_4_method_2_code) (maxL := 12) (ret := (some .int)) (by decide) rfl ?_
  intro p e s mt args below meth c s₁ B hml hv
  obtain ⟨rfl, hsz, hP, hK, hD0, hst⟩ := hv
  have hx := B.exec
  have hb := B.bytes
  have hr := B.returns
  have htb : ∀ w ∈ bp_tb, w.before _ s = true := fun w hw => atoms_spec (ws := Cond.code y_bc_EF_smooth prog_4_method_2_code 12 (some .int) :: bp_tb) B.pre w (List.mem_cons_of_mem _ hw)
  have hown : s.vm.findClass "BlockPictures$EdgeFilter" = some mt.cls := findClass_of_methodNamed B.named
  have hlocks := B.notSynchronized
  subst hsz
  have hD := hD0.self (sz := s.heap.size)
  generalize hAe : va_A (bc_W E m) s.heap.size = A at hD hst ⊢
  have hsub : ∀ (u : bp_M) (z q : Nat), s.heap.size ≤ z → va_A (bc_W E u) z q → A q := bc_sub hAe
  have hS : va_S A s.heap s.heap [] := va_S.rf
  have hl := lv_entry ([.ref (E.2.1 a0), .ref (E.2.1 a1), .int a2]) (n := 12) (Nat.le_of_ble_eq_true rfl)
  rw [lg_entry_eq]
  generalize (lg_sl ([.ref (E.2.1 a0), .ref (E.2.1 a1), .int a2]) ++ List.replicate (12 - (lg_sl ([.ref (E.2.1 a0), .ref (E.2.1 a1), .int a2])).length) Slot.unset).toArray = ls at hl ⊢
  have hl : lv_has ls 12 [(0, .ref (E.2.1 a0)), (1, .ref (E.2.1 a1)), (2, .int a2)] := hl
  refine bc_keyI (R := ({ frames := 2, cells := 0, slots := 0, locals := 71 })) E hx hb hr hlocks hK hAe (fun Q hret => ?_)
  clear B hD0 hlocks hr
  generalize ([.ref (E.2.1 a0), .ref (E.2.1 a1), .int a2] : List Value).toArray = args at htb hret ⊢
  clear hAe
  have hL177 : ∀ (x3 : Int32) (m : bp_M), bc_EF_smooth_L177 N a0 a1 a2 x3 m = some (r, mr) → ∀ (ls : Array Slot) (H : Heap) (locs : List Loc), lv_has ls 12 [(3, .int x3)] → va_P E.1 bp_cl (bc_W E m) H → va_D A (bc_W E m) → va_S A s.heap H locs → W p l e ({ frames := 2, cells := 0, slots := 0, locals := 71 }) s mt args below meth c H locs 0 0 Q (F0 mt 177 ls []) := by
    intro x3 m h ls H locs hl hP hD hS
    rw [bc_EF_smooth_L177] at h
    refine lv_iload_n hx hb (dt_bc_EF_smooth 90 rfl) rfl (lv_at hl 0 rfl) ?_
    exact hret _ _ _ _ _ _ h hP hD hS (dt_bc_EF_smooth 91 rfl)
  have hL5 : ∀ (n5 : Nat) (x3 : Int32) (x4 : Int32) (m : bp_M), bc_EF_smooth_L5 N a0 a1 a2 n5 x3 x4 m = some (r, mr) → ∀ (ls : Array Slot) (H : Heap) (locs : List Loc), lv_has ls 12 [(0, .ref (E.2.1 a0)), (1, .ref (E.2.1 a1)), (2, .int a2), (3, .int x3), (4, .int x4)] → va_P E.1 bp_cl (bc_W E m) H → va_D A (bc_W E m) → va_S A s.heap H locs → W p l e ({ frames := 2, cells := 0, slots := 0, locals := 71 }) s mt args below meth c H locs 0 0 Q (F0 mt 5 ls []) := by
    intro n5
    induction n5 with
    | zero =>
      intro x3 x4 m h ls H locs hl hP hD hS
      rw [bc_EF_smooth_L5] at h
      cases h
    | succ n5 ih5 =>
      have hL171 : ∀ (x3 : Int32) (x4 : Int32) (m : bp_M), bc_EF_smooth_L171 (bc_EF_smooth_L5 N a0 a1 a2 n5) N a0 a1 a2 x3 x4 m = some (r, mr) → ∀ (ls : Array Slot) (H : Heap) (locs : List Loc), lv_has ls 12 [(0, .ref (E.2.1 a0)), (1, .ref (E.2.1 a1)), (2, .int a2), (3, .int x3), (4, .int x4)] → va_P E.1 bp_cl (bc_W E m) H → va_D A (bc_W E m) → va_S A s.heap H locs → W p l e ({ frames := 2, cells := 0, slots := 0, locals := 71 }) s mt args below meth c H locs 0 0 Q (F0 mt 171 ls []) := by
        intro x3 x4 m h ls H locs hl hP hD hS
        rw [bc_EF_smooth_L171] at h
        obtain ⟨y1, ey1⟩ : ∃ z : Int32, z = x4 + 1 := ⟨_, rfl⟩
        replace h := bp_nI_s h ey1
        refine lv_iinc (k := 4) (v := y1) hx hb (dt_bc_EF_smooth 88 rfl) hl rfl (by rw [ey1]; rfl) (Nat.le_of_ble_eq_true rfl) rfl (fun ls hl => ?_)
        have hl : lv_has ls 12 [(4, .int y1), (0, .ref (E.2.1 a0)), (1, .ref (E.2.1 a1)), (2, .int a2), (3, .int x3)] := hl
        refine lv_goto (tgt := 5) hx hb (dt_bc_EF_smooth 89 rfl) (by decide) ?_
        exact ih5 _ _ _ h ls H locs (lv_sub hl [1, 2, 3, 4, 0] rfl) hP hD hS
      have hL127 : ∀ (n127 : Nat) (x3 : Int32) (x4 : Int32) (x5 : Int32) (x8 : Int32) (x9 : Int32) (x10 : Int32) (x11 : Int32) (m : bp_M), bc_EF_smooth_L127 (bc_EF_smooth_L5 N a0 a1 a2 n5) N a0 a1 a2 n127 x3 x4 x5 x8 x9 x10 x11 m = some (r, mr) → ∀ (ls : Array Slot) (H : Heap) (locs : List Loc), lv_has ls 12 [(0, .ref (E.2.1 a0)), (1, .ref (E.2.1 a1)), (2, .int a2), (3, .int x3), (4, .int x4), (5, .int x5), (8, .int x8), (9, .int x9), (10, .int x10), (11, .int x11)] → va_P E.1 bp_cl (bc_W E m) H → va_D A (bc_W E m) → va_S A s.heap H locs → W p l e ({ frames := 2, cells := 0, slots := 0, locals := 71 }) s mt args below meth c H locs 0 0 Q (F0 mt 127 ls []) := by
        intro n127
        induction n127 with
        | zero =>
          intro x3 x4 x5 x8 x9 x10 x11 m h ls H locs hl hP hD hS
          rw [bc_EF_smooth_L127] at h
          cases h
        | succ n127 ih127 =>
          have hL165 : ∀ (x3 : Int32) (x4 : Int32) (x5 : Int32) (x8 : Int32) (x9 : Int32) (x10 : Int32) (x11 : Int32) (m : bp_M), bc_EF_smooth_L165 (bc_EF_smooth_L5 N a0 a1 a2 n5) (bc_EF_smooth_L127 (bc_EF_smooth_L5 N a0 a1 a2 n5) N a0 a1 a2 n127) N a0 a1 a2 x3 x4 x5 x8 x9 x10 x11 m = some (r, mr) → ∀ (ls : Array Slot) (H : Heap) (locs : List Loc), lv_has ls 12 [(0, .ref (E.2.1 a0)), (1, .ref (E.2.1 a1)), (2, .int a2), (3, .int x3), (4, .int x4), (5, .int x5), (8, .int x8), (9, .int x9), (10, .int x10), (11, .int x11)] → va_P E.1 bp_cl (bc_W E m) H → va_D A (bc_W E m) → va_S A s.heap H locs → W p l e ({ frames := 2, cells := 0, slots := 0, locals := 71 }) s mt args below meth c H locs 0 0 Q (F0 mt 165 ls []) := by
            intro x3 x4 x5 x8 x9 x10 x11 m h ls H locs hl hP hD hS
            rw [bc_EF_smooth_L165] at h
            obtain ⟨y1, ey1⟩ : ∃ z : Int32, z = x11 + 1 := ⟨_, rfl⟩
            replace h := bp_nI_s h ey1
            refine lv_iinc (k := 9) (v := y1) hx hb (dt_bc_EF_smooth 86 rfl) hl rfl (by rw [ey1]; rfl) (Nat.le_of_ble_eq_true rfl) rfl (fun ls hl => ?_)
            have hl : lv_has ls 12 [(11, .int y1), (0, .ref (E.2.1 a0)), (1, .ref (E.2.1 a1)), (2, .int a2), (3, .int x3), (4, .int x4), (5, .int x5), (8, .int x8), (9, .int x9), (10, .int x10)] := hl
            refine lv_goto (tgt := 127) hx hb (dt_bc_EF_smooth 87 rfl) (by decide) ?_
            exact ih127 _ _ _ _ _ _ _ _ h ls H locs (lv_sub hl [1, 2, 3, 4, 5, 6, 7, 8, 9, 0] rfl) hP hD hS
          intro x3 x4 x5 x8 x9 x10 x11 m h ls H locs hl hP hD hS
          rw [bc_EF_smooth_L127] at h
          refine lv_iload hx hb (dt_bc_EF_smooth 67 rfl) (lv_at hl 9 rfl) ?_
          refine lv_iconst (v := 4) hx hb (dt_bc_EF_smooth 68 rfl) (by decide) ?_
          refine lv_icmp_ge (tgt := 171) hx hb (dt_bc_EF_smooth 69 rfl) (by decide) (fun hc => ?_) (fun hc => ?_)
          · replace h := (if_pos hc).symm.trans h
            exact hL171 _ _ _ h ls H locs (lv_sub hl [0, 1, 2, 3, 4] rfl) hP hD hS
          · replace h := (if_neg hc).symm.trans h
            refine lv_iload hx hb (dt_bc_EF_smooth 70 rfl) (lv_at hl 6 rfl) ?_
            refine lv_if_le (tgt := 171) hx hb (dt_bc_EF_smooth 71 rfl) (by decide) (fun hc => ?_) (fun hc => ?_)
            · replace h := (if_pos hc).symm.trans h
              exact hL171 _ _ _ h ls H locs (lv_sub hl [0, 1, 2, 3, 4] rfl) hP hD hS
            · replace h := (if_neg hc).symm.trans h
              refine lv_aload_n hx hb (dt_bc_EF_smooth 72 rfl) rfl (lv_at hl 0 rfl) ?_
              refine lv_iload hx hb (dt_bc_EF_smooth 73 rfl) (lv_at hl 5 rfl) ?_
              refine lv_iconst (v := 0) hx hb (dt_bc_EF_smooth 74 rfl) (by decide) ?_
              obtain ⟨z2, m1, hm1, h⟩ := bp_cI_s h
              refine bc_callI E hsub hS (va_runSN (As := [.int x5, .int 0]) (rest := [.ref (E.2.1 a0)]) ⟨hx, hb, hml, hown, htb⟩ (wbc_BP_sampleNumber l E N x5 0 m H.size z2 m1 hm1) ⟨va_cnB 2 htb (bp_good tw_525) rfl rfl rfl (hst.1 _ (List.mem_of_getElem? (i := 12) rfl)) (htb _ tw_69) hd_bc_BP_sampleNumber ⟨Nat.le_of_ble_eq_true rfl, Nat.le_of_ble_eq_true rfl⟩, htb _ tw_524, trivial⟩ (bc_preS E hsub hst hK hP hD hS _) rfl rfl hl.1 rfl (lv_room (Nat.le_of_ble_eq_true rfl)) (dt_bc_EF_smooth 75 rfl) ⟨Nat.zero_le _, Nat.zero_le _⟩) (fun H locs hP hD hS => ?_)
              refine lv_iload hx hb (dt_bc_EF_smooth 76 rfl) (lv_at hl 9 rfl) ?_
              refine lv_iload hx hb (dt_bc_EF_smooth 77 rfl) (lv_at hl 8 rfl) ?_
              refine lv_imul hx hb (dt_bc_EF_smooth 78 rfl) ?_
              refine lv_iadd hx hb (dt_bc_EF_smooth 79 rfl) ?_
              refine lv_iload hx hb (dt_bc_EF_smooth 80 rfl) (lv_at hl 7 rfl) ?_
              refine lv_iload hx hb (dt_bc_EF_smooth 81 rfl) (lv_at hl 6 rfl) ?_
              refine lv_iload_n hx hb (dt_bc_EF_smooth 82 rfl) rfl (lv_at hl 2 rfl) ?_
              obtain ⟨z4, m3, hm3, h⟩ := bp_cI_s h
              refine bc_callI E hsub hS (va_runS (As := [.ref (E.2.1 a0), .int (z2 + (x11 * x10 : Int32) : Int32), .int x9, .int x8, .int a2]) (rest := []) ⟨hx, hb, hml, hown, htb⟩ (wbc_EF_smoothLine l E N a0 (z2 + (x11 * x10 : Int32) : Int32) x9 x8 a2 m1 H.size z4 m3 hm3) (va_cwS 5 htb (bp_goodW tw_583 tw_584 tw_83 tw_585) rfl rfl rfl hd_bc_EF_smoothLine ⟨Nat.le_of_ble_eq_true rfl, Nat.le_of_ble_eq_true rfl⟩) (bc_preS E hsub hst hK hP hD hS _) rfl rfl hl.1 rfl (lv_room (Nat.le_of_ble_eq_true rfl)) (dt_bc_EF_smooth 83 rfl) ⟨Nat.zero_le _, Nat.zero_le _⟩) (fun H locs hP hD hS => ?_)
              refine lv_if_eq (tgt := 165) hx hb (dt_bc_EF_smooth 84 rfl) (by decide) (fun hc => ?_) (fun hc => ?_)
              · replace h := (if_pos hc).symm.trans h
                exact hL165 _ _ _ _ _ _ _ _ h ls H locs (lv_sub hl [0, 1, 2, 3, 4, 5, 6, 7, 8, 9] rfl) hP hD hS
              · replace h := (if_neg hc).symm.trans h
                obtain ⟨y5, ey5⟩ : ∃ z : Int32, z = x3 + 1 := ⟨_, rfl⟩
                replace h := bp_nI_s h ey5
                refine lv_iinc (k := 3) (v := y5) hx hb (dt_bc_EF_smooth 85 rfl) hl rfl (by rw [ey5]; rfl) (Nat.le_of_ble_eq_true rfl) rfl (fun ls hl => ?_)
                have hl : lv_has ls 12 [(3, .int y5), (0, .ref (E.2.1 a0)), (1, .ref (E.2.1 a1)), (2, .int a2), (4, .int x4), (5, .int x5), (8, .int x8), (9, .int x9), (10, .int x10), (11, .int x11)] := hl
                exact hL165 _ _ _ _ _ _ _ _ h ls H locs (lv_sub hl [1, 2, 3, 0, 4, 5, 6, 7, 8, 9] rfl) hP hD hS
      have hL122 : ∀ (x3 : Int32) (x4 : Int32) (x5 : Int32) (x8 : Int32) (x9 : Int32) (s0 : Int32) (m : bp_M), bc_EF_smooth_L122 (bc_EF_smooth_L5 N a0 a1 a2 n5) N a0 a1 a2 x3 x4 x5 x8 x9 s0 m = some (r, mr) → ∀ (ls : Array Slot) (H : Heap) (locs : List Loc), lv_has ls 12 [(0, .ref (E.2.1 a0)), (1, .ref (E.2.1 a1)), (2, .int a2), (3, .int x3), (4, .int x4), (5, .int x5), (8, .int x8), (9, .int x9)] → va_P E.1 bp_cl (bc_W E m) H → va_D A (bc_W E m) → va_S A s.heap H locs → W p l e ({ frames := 2, cells := 0, slots := 0, locals := 71 }) s mt args below meth c H locs 0 0 Q (F0 mt 122 ls [.int s0]) := by
        intro x3 x4 x5 x8 x9 s0 m h ls H locs hl hP hD hS
        rw [bc_EF_smooth_L122] at h
        refine lv_istore hx hb (dt_bc_EF_smooth 64 rfl) hl (Nat.le_of_ble_eq_true rfl) rfl (fun ls hl => ?_)
        have hl : lv_has ls 12 [(10, .int s0), (0, .ref (E.2.1 a0)), (1, .ref (E.2.1 a1)), (2, .int a2), (3, .int x3), (4, .int x4), (5, .int x5), (8, .int x8), (9, .int x9)] := hl
        refine lv_iconst (v := 0) hx hb (dt_bc_EF_smooth 65 rfl) (by decide) ?_
        refine lv_istore hx hb (dt_bc_EF_smooth 66 rfl) hl (Nat.le_of_ble_eq_true rfl) rfl (fun ls hl => ?_)
        have hl : lv_has ls 12 [(11, .int 0), (10, .int s0), (0, .ref (E.2.1 a0)), (1, .ref (E.2.1 a1)), (2, .int a2), (3, .int x3), (4, .int x4), (5, .int x5), (8, .int x8), (9, .int x9)] := hl
        exact hL127 _ _ _ _ _ _ _ _ _ h ls H locs (lv_sub hl [2, 3, 4, 5, 6, 7, 8, 9, 1, 0] rfl) hP hD hS
      have hL109 : ∀ (x3 : Int32) (x4 : Int32) (x5 : Int32) (x6 : Int32) (x8 : Int32) (s0 : Int32) (m : bp_M), bc_EF_smooth_L109 (bc_EF_smooth_L5 N a0 a1 a2 n5) N a0 a1 a2 x3 x4 x5 x6 x8 s0 m = some (r, mr) → ∀ (ls : Array Slot) (H : Heap) (locs : List Loc), lv_has ls 12 [(0, .ref (E.2.1 a0)), (1, .ref (E.2.1 a1)), (2, .int a2), (3, .int x3), (4, .int x4), (5, .int x5), (6, .int x6), (8, .int x8)] → va_P E.1 bp_cl (bc_W E m) H → va_D A (bc_W E m) → va_S A s.heap H locs → W p l e ({ frames := 2, cells := 0, slots := 0, locals := 71 }) s mt args below meth c H locs 0 0 Q (F0 mt 109 ls [.int s0]) := by
        intro x3 x4 x5 x6 x8 s0 m h ls H locs hl hP hD hS
        rw [bc_EF_smooth_L109] at h
        refine lv_istore hx hb (dt_bc_EF_smooth 58 rfl) hl (Nat.le_of_ble_eq_true rfl) rfl (fun ls hl => ?_)
        have hl : lv_has ls 12 [(9, .int s0), (0, .ref (E.2.1 a0)), (1, .ref (E.2.1 a1)), (2, .int a2), (3, .int x3), (4, .int x4), (5, .int x5), (6, .int x6), (8, .int x8)] := hl
        refine lv_iload hx hb (dt_bc_EF_smooth 59 rfl) (lv_at hl 7 rfl) ?_
        refine lv_if_eq (tgt := 121) hx hb (dt_bc_EF_smooth 60 rfl) (by decide) (fun hc => ?_) (fun hc => ?_)
        · replace h := (if_pos hc).symm.trans h
          refine lv_iconst (v := 1) hx hb (dt_bc_EF_smooth 63 rfl) (by decide) ?_
          exact hL122 _ _ _ _ _ _ _ h ls H locs (lv_sub hl [1, 2, 3, 4, 5, 6, 8, 0] rfl) hP hD hS
        · replace h := (if_neg hc).symm.trans h
          refine lv_bipush (v := 16) hx hb (dt_bc_EF_smooth 61 rfl) (by decide) ?_
          refine lv_goto (tgt := 122) hx hb (dt_bc_EF_smooth 62 rfl) (by decide) ?_
          exact hL122 _ _ _ _ _ _ _ h ls H locs (lv_sub hl [1, 2, 3, 4, 5, 6, 8, 0] rfl) hP hD hS
      have hL96 : ∀ (x3 : Int32) (x4 : Int32) (x5 : Int32) (x6 : Int32) (s0 : Int32) (m : bp_M), bc_EF_smooth_L96 (bc_EF_smooth_L5 N a0 a1 a2 n5) N a0 a1 a2 x3 x4 x5 x6 s0 m = some (r, mr) → ∀ (ls : Array Slot) (H : Heap) (locs : List Loc), lv_has ls 12 [(0, .ref (E.2.1 a0)), (1, .ref (E.2.1 a1)), (2, .int a2), (3, .int x3), (4, .int x4), (5, .int x5), (6, .int x6)] → va_P E.1 bp_cl (bc_W E m) H → va_D A (bc_W E m) → va_S A s.heap H locs → W p l e ({ frames := 2, cells := 0, slots := 0, locals := 71 }) s mt args below meth c H locs 0 0 Q (F0 mt 96 ls [.int s0]) := by
        intro x3 x4 x5 x6 s0 m h ls H locs hl hP hD hS
        rw [bc_EF_smooth_L96] at h
        refine lv_istore hx hb (dt_bc_EF_smooth 52 rfl) hl (Nat.le_of_ble_eq_true rfl) rfl (fun ls hl => ?_)
        have hl : lv_has ls 12 [(8, .int s0), (0, .ref (E.2.1 a0)), (1, .ref (E.2.1 a1)), (2, .int a2), (3, .int x3), (4, .int x4), (5, .int x5), (6, .int x6)] := hl
        refine lv_iload hx hb (dt_bc_EF_smooth 53 rfl) (lv_at hl 7 rfl) ?_
        refine lv_if_eq (tgt := 107) hx hb (dt_bc_EF_smooth 54 rfl) (by decide) (fun hc => ?_) (fun hc => ?_)
        · replace h := (if_pos hc).symm.trans h
          refine lv_bipush (v := 16) hx hb (dt_bc_EF_smooth 57 rfl) (by decide) ?_
          exact hL109 _ _ _ _ _ _ _ h ls H locs (lv_sub hl [1, 2, 3, 4, 5, 6, 7, 0] rfl) hP hD hS
        · replace h := (if_neg hc).symm.trans h
          refine lv_iconst (v := 1) hx hb (dt_bc_EF_smooth 55 rfl) (by decide) ?_
          refine lv_goto (tgt := 109) hx hb (dt_bc_EF_smooth 56 rfl) (by decide) ?_
          exact hL109 _ _ _ _ _ _ _ h ls H locs (lv_sub hl [1, 2, 3, 4, 5, 6, 7, 0] rfl) hP hD hS
      have hL87 : ∀ (x3 : Int32) (x4 : Int32) (x5 : Int32) (x6 : Int32) (s0 : Int32) (m : bp_M), bc_EF_smooth_L87 (bc_EF_smooth_L5 N a0 a1 a2 n5) N a0 a1 a2 x3 x4 x5 x6 s0 m = some (r, mr) → ∀ (ls : Array Slot) (H : Heap) (locs : List Loc), lv_has ls 12 [(0, .ref (E.2.1 a0)), (1, .ref (E.2.1 a1)), (2, .int a2), (3, .int x3), (4, .int x4), (5, .int x5), (6, .int x6)] → va_P E.1 bp_cl (bc_W E m) H → va_D A (bc_W E m) → va_S A s.heap H locs → W p l e ({ frames := 2, cells := 0, slots := 0, locals := 71 }) s mt args below meth c H locs 0 0 Q (F0 mt 87 ls [.int s0, .ref (E.2.1 a1)]) := by
        intro x3 x4 x5 x6 s0 m h ls H locs hl hP hD hS
        rw [bc_EF_smooth_L87] at h
        refine lv_iload hx hb (dt_bc_EF_smooth 48 rfl) (lv_at hl 5 rfl) ?_
        obtain ⟨z2, m1, hm1, h⟩ := bp_cI_s h
        refine bc_callI E hsub hS (va_runV (As := [.int s0, .int x5]) (rest := []) ⟨hx, hb, hml, hown, htb⟩ (wbc_RO_strength l E N a1 s0 x5 m H.size z2 m1 hp_a1 hm1) (cwV 2 htb (bp_goodV tw_575 tw_576 tw_577 tw_75 tw_578) rfl rfl rfl ⟨rfl, hd_bc_RO_strength⟩ ⟨Nat.le_of_ble_eq_true rfl, Nat.le_of_ble_eq_true rfl⟩) (bc_preV E hsub hst hK hP hD hS (bc_gRO E m hp_a1) rfl rfl _) rfl rfl hl.1 rfl (lv_room (Nat.le_of_ble_eq_true rfl)) (dt_bc_EF_smooth 49 rfl) ⟨Nat.zero_le _, Nat.zero_le _⟩) (fun H locs hP hD hS => ?_)
        refine lv_goto (tgt := 96) hx hb (dt_bc_EF_smooth 50 rfl) (by decide) ?_
        exact hL96 _ _ _ _ _ _ h ls H locs (lv_sub hl [0, 1, 2, 3, 4, 5, 6] rfl) hP hD hS
      have hL63 : ∀ (x3 : Int32) (x4 : Int32) (x5 : Int32) (x6 : Int32) (s0 : Int32) (m : bp_M), bc_EF_smooth_L63 (bc_EF_smooth_L5 N a0 a1 a2 n5) N a0 a1 a2 x3 x4 x5 x6 s0 m = some (r, mr) → ∀ (ls : Array Slot) (H : Heap) (locs : List Loc), lv_has ls 12 [(0, .ref (E.2.1 a0)), (1, .ref (E.2.1 a1)), (2, .int a2), (3, .int x3), (4, .int x4), (5, .int x5), (6, .int x6)] → va_P E.1 bp_cl (bc_W E m) H → va_D A (bc_W E m) → va_S A s.heap H locs → W p l e ({ frames := 2, cells := 0, slots := 0, locals := 71 }) s mt args below meth c H locs 0 0 Q (F0 mt 63 ls [.int s0]) := by
        intro x3 x4 x5 x6 s0 m h ls H locs hl hP hD hS
        rw [bc_EF_smooth_L63] at h
        refine lv_istore hx hb (dt_bc_EF_smooth 35 rfl) hl (Nat.le_of_ble_eq_true rfl) rfl (fun ls hl => ?_)
        have hl : lv_has ls 12 [(7, .int s0), (0, .ref (E.2.1 a0)), (1, .ref (E.2.1 a1)), (2, .int a2), (3, .int x3), (4, .int x4), (5, .int x5), (6, .int x6)] := hl
        refine lv_iload hx hb (dt_bc_EF_smooth 36 rfl) (lv_at hl 0 rfl) ?_
        refine lv_if_eq (tgt := 95) hx hb (dt_bc_EF_smooth 37 rfl) (by decide) (fun hc => ?_) (fun hc => ?_)
        · replace h := (if_pos hc).symm.trans h
          refine lv_iconst (v := 0) hx hb (dt_bc_EF_smooth 51 rfl) (by decide) ?_
          exact hL96 _ _ _ _ _ _ h ls H locs (lv_sub hl [1, 2, 3, 4, 5, 6, 7] rfl) hP hD hS
        · replace h := (if_neg hc).symm.trans h
          refine lv_aload_n hx hb (dt_bc_EF_smooth 38 rfl) rfl (lv_at hl 2 rfl) ?_
          refine lv_iload hx hb (dt_bc_EF_smooth 39 rfl) (lv_at hl 7 rfl) ?_
          refine lv_if_eq (tgt := 83) hx hb (dt_bc_EF_smooth 40 rfl) (by decide) (fun hc => ?_) (fun hc => ?_)
          · replace h := (if_pos hc).symm.trans h
            refine lv_iload hx hb (dt_bc_EF_smooth 45 rfl) (lv_at hl 6 rfl) ?_
            refine lv_iconst (v := 4) hx hb (dt_bc_EF_smooth 46 rfl) (by decide) ?_
            refine lv_isub hx hb (dt_bc_EF_smooth 47 rfl) ?_
            exact hL87 _ _ _ _ _ _ h ls H locs (lv_sub hl [1, 2, 3, 4, 5, 6, 7] rfl) hP hD hS
          · replace h := (if_neg hc).symm.trans h
            refine lv_iload hx hb (dt_bc_EF_smooth 41 rfl) (lv_at hl 6 rfl) ?_
            refine lv_iconst (v := 1) hx hb (dt_bc_EF_smooth 42 rfl) (by decide) ?_
            refine lv_isub hx hb (dt_bc_EF_smooth 43 rfl) ?_
            refine lv_goto (tgt := 87) hx hb (dt_bc_EF_smooth 44 rfl) (by decide) ?_
            exact hL87 _ _ _ _ _ _ h ls H locs (lv_sub hl [1, 2, 3, 4, 5, 6, 7] rfl) hP hD hS
      have hL30 : ∀ (x3 : Int32) (x4 : Int32) (x5 : Int32) (s0 : Int32) (m : bp_M), bc_EF_smooth_L30 (bc_EF_smooth_L5 N a0 a1 a2 n5) N a0 a1 a2 x3 x4 x5 s0 m = some (r, mr) → ∀ (ls : Array Slot) (H : Heap) (locs : List Loc), lv_has ls 12 [(0, .ref (E.2.1 a0)), (1, .ref (E.2.1 a1)), (2, .int a2), (3, .int x3), (4, .int x4), (5, .int x5)] → va_P E.1 bp_cl (bc_W E m) H → va_D A (bc_W E m) → va_S A s.heap H locs → W p l e ({ frames := 2, cells := 0, slots := 0, locals := 71 }) s mt args below meth c H locs 0 0 Q (F0 mt 30 ls [.int s0]) := by
        intro x3 x4 x5 s0 m h ls H locs hl hP hD hS
        rw [bc_EF_smooth_L30] at h
        refine lv_istore hx hb (dt_bc_EF_smooth 18 rfl) hl (Nat.le_of_ble_eq_true rfl) rfl (fun ls hl => ?_)
        have hl : lv_has ls 12 [(6, .int s0), (0, .ref (E.2.1 a0)), (1, .ref (E.2.1 a1)), (2, .int a2), (3, .int x3), (4, .int x4), (5, .int x5)] := hl
        refine lv_iload hx hb (dt_bc_EF_smooth 19 rfl) (lv_at hl 0 rfl) ?_
        refine lv_if_eq (tgt := 52) hx hb (dt_bc_EF_smooth 20 rfl) (by decide) (fun hc => ?_) (fun hc => ?_)
        · replace h := (if_pos hc).symm.trans h
          refine lv_iload hx hb (dt_bc_EF_smooth 29 rfl) (lv_at hl 6 rfl) ?_
          refine lv_iconst (v := 4) hx hb (dt_bc_EF_smooth 30 rfl) (by decide) ?_
          refine lv_icmp_lt (tgt := 62) hx hb (dt_bc_EF_smooth 31 rfl) (by decide) (fun hc => ?_) (fun hc => ?_)
          · replace h := (if_pos hc).symm.trans h
            refine lv_iconst (v := 0) hx hb (dt_bc_EF_smooth 34 rfl) (by decide) ?_
            exact hL63 _ _ _ _ _ _ h ls H locs (lv_sub hl [1, 2, 3, 4, 5, 6, 0] rfl) hP hD hS
          · replace h := (if_neg hc).symm.trans h
            refine lv_iconst (v := 1) hx hb (dt_bc_EF_smooth 32 rfl) (by decide) ?_
            refine lv_goto (tgt := 63) hx hb (dt_bc_EF_smooth 33 rfl) (by decide) ?_
            exact hL63 _ _ _ _ _ _ h ls H locs (lv_sub hl [1, 2, 3, 4, 5, 6, 0] rfl) hP hD hS
        · replace h := (if_neg hc).symm.trans h
          refine lv_iload hx hb (dt_bc_EF_smooth 21 rfl) (lv_at hl 6 rfl) ?_
          refine lv_iconst (v := 4) hx hb (dt_bc_EF_smooth 22 rfl) (by decide) ?_
          refine lv_irem hx hb (dt_bc_EF_smooth 23 rfl) (by decide) ?_
          refine lv_if_le (tgt := 48) hx hb (dt_bc_EF_smooth 24 rfl) (by decide) (fun hc => ?_) (fun hc => ?_)
          · replace h := (if_pos hc).symm.trans h
            refine lv_iconst (v := 0) hx hb (dt_bc_EF_smooth 27 rfl) (by decide) ?_
            refine lv_goto (tgt := 63) hx hb (dt_bc_EF_smooth 28 rfl) (by decide) ?_
            exact hL63 _ _ _ _ _ _ h ls H locs (lv_sub hl [1, 2, 3, 4, 5, 6, 0] rfl) hP hD hS
          · replace h := (if_neg hc).symm.trans h
            refine lv_iconst (v := 1) hx hb (dt_bc_EF_smooth 25 rfl) (by decide) ?_
            refine lv_goto (tgt := 63) hx hb (dt_bc_EF_smooth 26 rfl) (by decide) ?_
            exact hL63 _ _ _ _ _ _ h ls H locs (lv_sub hl [1, 2, 3, 4, 5, 6, 0] rfl) hP hD hS
      intro x3 x4 m h ls H locs hl hP hD hS
      rw [bc_EF_smooth_L5] at h
      refine lv_iload hx hb (dt_bc_EF_smooth 4 rfl) (lv_at hl 4 rfl) ?_
      refine lv_bipush (v := 32) hx hb (dt_bc_EF_smooth 5 rfl) (by decide) ?_
      refine lv_icmp_ge (tgt := 177) hx hb (dt_bc_EF_smooth 6 rfl) (by decide) (fun hc => ?_) (fun hc => ?_)
      · replace h := (if_pos hc).symm.trans h
        exact hL177 _ _ h ls H locs (lv_sub hl [3] rfl) hP hD hS
      · replace h := (if_neg hc).symm.trans h
        refine lv_iload hx hb (dt_bc_EF_smooth 7 rfl) (lv_at hl 4 rfl) ?_
        refine lv_iconst (v := 2) hx hb (dt_bc_EF_smooth 8 rfl) (by decide) ?_
        refine lv_idiv hx hb (dt_bc_EF_smooth 9 rfl) (by decide) ?_
        refine lv_topi (fun y1 ey1 => ?_)
        replace h := bp_nI_s h ey1
        refine lv_istore hx hb (dt_bc_EF_smooth 10 rfl) hl (Nat.le_of_ble_eq_true rfl) rfl (fun ls hl => ?_)
        have hl : lv_has ls 12 [(5, .int y1), (0, .ref (E.2.1 a0)), (1, .ref (E.2.1 a1)), (2, .int a2), (3, .int x3), (4, .int x4)] := hl
        refine lv_iload hx hb (dt_bc_EF_smooth 11 rfl) (lv_at hl 5 rfl) ?_
        refine lv_iconst (v := 2) hx hb (dt_bc_EF_smooth 12 rfl) (by decide) ?_
        refine lv_irem hx hb (dt_bc_EF_smooth 13 rfl) (by decide) ?_
        refine lv_if_ne (tgt := 29) hx hb (dt_bc_EF_smooth 14 rfl) (by decide) (fun hc => ?_) (fun hc => ?_)
        · replace h := (if_pos hc).symm.trans h
          refine lv_iconst (v := 0) hx hb (dt_bc_EF_smooth 17 rfl) (by decide) ?_
          exact hL30 _ _ _ _ _ h ls H locs (lv_sub hl [1, 2, 3, 4, 5, 0] rfl) hP hD hS
        · replace h := (if_neg (fun hn => hn hc)).symm.trans h
          refine lv_iconst (v := 1) hx hb (dt_bc_EF_smooth 15 rfl) (by decide) ?_
          refine lv_goto (tgt := 30) hx hb (dt_bc_EF_smooth 16 rfl) (by decide) ?_
          exact hL30 _ _ _ _ _ h ls H locs (lv_sub hl [1, 2, 3, 4, 5, 0] rfl) hP hD hS
  suffices hgo : ∀ (H : Heap) (locs : List Loc), va_P E.1 bp_cl (bc_W E m) H → va_D A (bc_W E m) → va_S A s.heap H locs → W p l e ({ frames := 2, cells := 0, slots := 0, locals := 71 }) s mt args below meth c H locs 0 0 Q (F0 mt 0 ls []) from hgo _ _ hP hD hS
  clear hP hD hS
  intro H locs hP hD hS
  unfold bc_EF_smooth at h
  refine lv_iconst (v := 0) hx hb (dt_bc_EF_smooth 0 rfl) (by decide) ?_
  refine lv_istore_n hx hb (dt_bc_EF_smooth 1 rfl) rfl hl (Nat.le_of_ble_eq_true rfl) rfl (fun ls hl => ?_)
  have hl : lv_has ls 12 [(3, .int 0), (0, .ref (E.2.1 a0)), (1, .ref (E.2.1 a1)), (2, .int a2)] := hl
  refine lv_iconst (v := 0) hx hb (dt_bc_EF_smooth 2 rfl) (by decide) ?_
  refine lv_istore hx hb (dt_bc_EF_smooth 3 rfl) hl (Nat.le_of_ble_eq_true rfl) rfl (fun ls hl => ?_)
  have hl : lv_has ls 12 [(4, .int 0), (3, .int 0), (0, .ref (E.2.1 a0)), (1, .ref (E.2.1 a1)), (2, .int a2)] := hl
  exact hL5 _ _ _ _ h ls H locs (lv_sub hl [2, 3, 4, 1, 0] rfl) hP hD hS
set_option maxHeartbeats 4000000 in
set_option maxRecDepth 100000 in
theorem wbc_PD_finish (l : Launch) (E : bc_E) (N : Nat)  (m : bp_M) (sz : Nat) (mr : bp_M)  (h : bc_PD_finish N m = some mr) : Met l y_bc_PD_finish (Cond.code y_bc_PD_finish prog_9_method_16_code 2 none :: bp_tb) ({ frames := 3, cells := 0, slots := 0, locals := 102 }) (bc_Pc E m sz [.ref (E.2.1 3)]) (bc_Qv E m sz mr) 0 0 (va_A (bc_W E m) sz) := by
  refine Met.ofW (cc := prog_9_method_16_code) (maxL := 2) (ret := none) (by decide) rfl ?_
  intro p e s mt args below meth c s₁ B hml hv
  obtain ⟨rfl, hsz, hP, hK, hD0, hst⟩ := hv
  have hx := B.exec
  have hb := B.bytes
  have hr := B.returns
  have htb : ∀ w ∈ bp_tb, w.before _ s = true := fun w hw => atoms_spec (ws := Cond.code y_bc_PD_finish prog_9_method_16_code 2 none :: bp_tb) B.pre w (List.mem_cons_of_mem _ hw)
  have hown : s.vm.findClass "BlockPictures$PictureDecoder" = some mt.cls := findClass_of_methodNamed B.named
  have hlocks := B.notSynchronized
  subst hsz
  have hD := hD0.self (sz := s.heap.size)
  generalize hAe : va_A (bc_W E m) s.heap.size = A at hD hst ⊢
  have hsub : ∀ (u : bp_M) (z q : Nat), s.heap.size ≤ z → va_A (bc_W E u) z q → A q := bc_sub hAe
  have hS : va_S A s.heap s.heap [] := va_S.rf
  have hl := lv_entry ([.ref (E.2.1 3)]) (n := 2) (Nat.le_of_ble_eq_true rfl)
  rw [lg_entry_eq]
  generalize (lg_sl ([.ref (E.2.1 3)]) ++ List.replicate (2 - (lg_sl ([.ref (E.2.1 3)])).length) Slot.unset).toArray = ls at hl ⊢
  have hl : lv_has ls 2 [(0, .ref (E.2.1 3))] := hl
  refine bc_keyV (R := ({ frames := 3, cells := 0, slots := 0, locals := 102 })) E hx hb hr hlocks hK hAe (fun Q hret => ?_)
  clear B hD0 hlocks hr
  generalize ([.ref (E.2.1 3)] : List Value).toArray = args at htb hret ⊢
  clear hAe
  suffices hgo : ∀ (H : Heap) (locs : List Loc), va_P E.1 bp_cl (bc_W E m) H → va_D A (bc_W E m) → va_S A s.heap H locs → W p l e ({ frames := 3, cells := 0, slots := 0, locals := 102 }) s mt args below meth c H locs 0 0 Q (F0 mt 0 ls []) from hgo _ _ hP hD hS
  clear hP hD hS
  intro H locs hP hD hS
  unfold bc_PD_finish at h
  refine lv_aload_n hx hb (dt_bc_PD_finish 0 rfl) rfl (lv_at hl 0 rfl) ?_
  refine va_get (D := E.1) (ci := 3) (v := .ref (E.2.1 (m.2 3 6))) (C := "BlockPictures$PictureDecoder") (T := bF_PD) (N := 11) hx hb htb bc_in_PD hown hK hP 3 (bc_gPD E m) rfl 6 (by decide) (htb _ tw_271) (fun _ h9 => h9) rfl (dt_bc_PD_finish 1 rfl) ?_
  refine bp_topr E.2.1 (fun q1 eq1 => ?_)
  replace h := bp_nN_s h eq1
  obtain ⟨hg2, h⟩ := bp_g_s h
  refine lv_aload_n hx hb (dt_bc_PD_finish 2 rfl) rfl (lv_at hl 0 rfl) ?_
  refine va_get (D := E.1) (ci := 3) (v := .ref (E.2.1 10)) (C := "BlockPictures$PictureDecoder") (T := bF_PD) (N := 11) hx hb htb bc_in_PD hown hK hP 3 (bc_gPD E m) rfl 1 (by decide) (htb _ tw_261) (fun _ h9 => h9) rfl (dt_bc_PD_finish 3 rfl) ?_
  refine va_get (D := E.1) (ci := 9) (v := .ref (E.2.1 34)) (C := "BlockPictures$Picture") (T := bF_PI) (N := 4) hx hb htb bc_in_PI hown hK hP 10 (bc_gPI E m (by decide)) rfl 0 (by decide) (htb _ tw_185) (fun _ h9 => h9) rfl (dt_bc_PD_finish 4 rfl) ?_
  refine lv_aload_n hx hb (dt_bc_PD_finish 5 rfl) rfl (lv_at hl 0 rfl) ?_
  refine va_get (D := E.1) (ci := 3) (v := .ref (E.2.1 (m.2 3 6))) (C := "BlockPictures$PictureDecoder") (T := bF_PD) (N := 11) hx hb htb bc_in_PD hown hK hP 3 (bc_gPD E m) rfl 6 (by decide) (htb _ tw_271) (fun _ h9 => h9) rfl (dt_bc_PD_finish 6 rfl) ?_
  refine bp_topr E.2.1 (fun q3 eq3 => ?_)
  replace h := bp_nN_s h eq3
  obtain ⟨hg4, h⟩ := bp_g_s h
  refine lv_aload_n hx hb (dt_bc_PD_finish 7 rfl) rfl (lv_at hl 0 rfl) ?_
  refine va_get (D := E.1) (ci := 3) (v := .int (m.1 3 10)) (C := "BlockPictures$PictureDecoder") (T := bF_PD) (N := 11) hx hb htb bc_in_PD hown hK hP 3 (bc_gPD E m) rfl 10 (by decide) (htb _ tw_275) (fun _ h9 => h9) rfl (dt_bc_PD_finish 8 rfl) ?_
  obtain ⟨z6, m5, hm5, h⟩ := bp_cI_s h
  refine bc_callI E hsub hS (va_runS (As := [.ref (E.2.1 34), .ref (E.2.1 q3), .int (m.1 3 10)]) (rest := [.ref (E.2.1 q1)]) ⟨hx, hb, hml, hown, htb⟩ (wbc_EF_smooth l E N 34 q3 (m.1 3 10) m H.size z6 m5 hg4 hm5) (va_cwS 3 htb (bp_goodW tw_572 tw_573 tw_83 tw_574) rfl rfl rfl hd_bc_EF_smooth ⟨Nat.le_of_ble_eq_true rfl, Nat.le_of_ble_eq_true rfl⟩) (bc_preS E hsub hst hK hP hD hS _) rfl rfl hl.1 rfl (lv_room (Nat.le_of_ble_eq_true rfl)) (dt_bc_PD_finish 9 rfl) ⟨Nat.zero_le _, Nat.zero_le _⟩) (fun H locs hP hD hS => ?_)
  refine bc_pRO_5 E hx hb htb hown hK hP hD hS hg2 (htb _ tw_230) (dt_bc_PD_finish 10 rfl) (fun m7 em7 H locs hP hD hS => ?_)
  replace h := bp_nM_s h em7
  refine lv_aload_n hx hb (dt_bc_PD_finish 11 rfl) rfl (lv_at hl 0 rfl) ?_
  refine va_get (D := E.1) (ci := 3) (v := .ref (E.2.1 (m7.2 3 2))) (C := "BlockPictures$PictureDecoder") (T := bF_PD) (N := 11) hx hb htb bc_in_PD hown hK hP 3 (bc_gPD E m7) rfl 2 (by decide) (htb _ tw_263) (fun _ h9 => h9) rfl (dt_bc_PD_finish 12 rfl) ?_
  refine bp_topr E.2.1 (fun q8 eq8 => ?_)
  replace h := bp_nN_s h eq8
  obtain ⟨hg9, h⟩ := bp_g_s h
  refine lv_astore_n hx hb (dt_bc_PD_finish 13 rfl) rfl hl (Nat.le_of_ble_eq_true rfl) rfl (fun ls hl => ?_)
  have hl : lv_has ls 2 [(1, .ref (E.2.1 q8)), (0, .ref (E.2.1 3))] := hl
  refine lv_aload_n hx hb (dt_bc_PD_finish 14 rfl) rfl (lv_at hl 1 rfl) ?_
  refine lv_aload_n hx hb (dt_bc_PD_finish 15 rfl) rfl (lv_at hl 1 rfl) ?_
  refine va_get (D := E.1) (ci := 3) (v := .ref (E.2.1 (m7.2 3 6))) (C := "BlockPictures$PictureDecoder") (T := bF_PD) (N := 11) hx hb htb bc_in_PD hown hK hP 3 (bc_gPD E m7) rfl 6 (by decide) (htb _ tw_271) (fun _ h9 => h9) rfl (dt_bc_PD_finish 16 rfl) ?_
  refine bp_topr E.2.1 (fun q10 eq10 => ?_)
  replace h := bp_nN_s h eq10
  obtain ⟨hg11, h⟩ := bp_g_s h
  refine bc_pPD_2 E hx hb htb hown hK hP hD hS hg11 (htb _ tw_263) (dt_bc_PD_finish 17 rfl) (fun m12 em12 H locs hP hD hS => ?_)
  replace h := bp_nM_s h em12
  refine lv_aload_n hx hb (dt_bc_PD_finish 18 rfl) rfl (lv_at hl 1 rfl) ?_
  refine lv_aload_n hx hb (dt_bc_PD_finish 19 rfl) rfl (lv_at hl 0 rfl) ?_
  refine bc_pPD_6 E hx hb htb hown hK hP hD hS hg9 (htb _ tw_271) (dt_bc_PD_finish 20 rfl) (fun m13 em13 H locs hP hD hS => ?_)
  replace h := bp_nM_s h em13
  exact hret _ _ _ _ _ h hP hD hS (dt_bc_PD_finish 21 rfl)
set_option maxHeartbeats 4000000 in
set_option maxRecDepth 100000 in
theorem wbc_PA_takePending (l : Launch) (E : bc_E) (N : Nat)  (m : bp_M) (sz : Nat) (mr : bp_M)  (h : bc_PA_takePending N m = some mr) : Met l y_bc_PA_takePending (Cond.code y_bc_PA_takePending prog_6_method_5_code 1 none :: bp_tb) ({ frames := 0, cells := 0, slots := 0, locals := 0 }) (bc_Pc E m sz [.ref (E.2.1 2)]) (bc_Qv E m sz mr) 0 0 (va_A (bc_W E m) sz) := by
  refine Met.ofW (cc := prog_6_method_5_code) (maxL := 1) (ret := none) (by decide) rfl ?_
  intro p e s mt args below meth c s₁ B hml hv
  obtain ⟨rfl, hsz, hP, hK, hD0, hst⟩ := hv
  have hx := B.exec
  have hb := B.bytes
  have hr := B.returns
  have htb : ∀ w ∈ bp_tb, w.before _ s = true := fun w hw => atoms_spec (ws := Cond.code y_bc_PA_takePending prog_6_method_5_code 1 none :: bp_tb) B.pre w (List.mem_cons_of_mem _ hw)
  have hown : s.vm.findClass "BlockPictures$Parameters" = some mt.cls := findClass_of_methodNamed B.named
  have hlocks := B.notSynchronized
  subst hsz
  have hD := hD0.self (sz := s.heap.size)
  generalize hAe : va_A (bc_W E m) s.heap.size = A at hD hst ⊢
  have hsub : ∀ (u : bp_M) (z q : Nat), s.heap.size ≤ z → va_A (bc_W E u) z q → A q := bc_sub hAe
  have hS : va_S A s.heap s.heap [] := va_S.rf
  have hl := lv_entry ([.ref (E.2.1 2)]) (n := 1) (Nat.le_of_ble_eq_true rfl)
  rw [lg_entry_eq]
  generalize (lg_sl ([.ref (E.2.1 2)]) ++ List.replicate (1 - (lg_sl ([.ref (E.2.1 2)])).length) Slot.unset).toArray = ls at hl ⊢
  have hl : lv_has ls 1 [(0, .ref (E.2.1 2))] := hl
  refine bc_keyV (R := ({ frames := 0, cells := 0, slots := 0, locals := 0 })) E hx hb hr hlocks hK hAe (fun Q hret => ?_)
  clear B hD0 hlocks hr
  generalize ([.ref (E.2.1 2)] : List Value).toArray = args at htb hret ⊢
  clear hAe
  have hL33 : ∀ (m : bp_M), bc_PA_takePending_L33 N m = some mr → ∀ (ls : Array Slot) (H : Heap) (locs : List Loc), lv_has ls 1 [] → va_P E.1 bp_cl (bc_W E m) H → va_D A (bc_W E m) → va_S A s.heap H locs → W p l e ({ frames := 0, cells := 0, slots := 0, locals := 0 }) s mt args below meth c H locs 0 0 Q (F0 mt 33 ls []) := by
    intro m h ls H locs hl hP hD hS
    rw [bc_PA_takePending_L33] at h
    exact hret _ _ _ _ _ h hP hD hS (dt_bc_PA_takePending 17 rfl)
  suffices hgo : ∀ (H : Heap) (locs : List Loc), va_P E.1 bp_cl (bc_W E m) H → va_D A (bc_W E m) → va_S A s.heap H locs → W p l e ({ frames := 0, cells := 0, slots := 0, locals := 0 }) s mt args below meth c H locs 0 0 Q (F0 mt 0 ls []) from hgo _ _ hP hD hS
  clear hP hD hS
  intro H locs hP hD hS
  unfold bc_PA_takePending at h
  refine lv_aload_n hx hb (dt_bc_PA_takePending 0 rfl) rfl (lv_at hl 0 rfl) ?_
  refine va_get (D := E.1) (ci := 2) (v := .int (m.1 2 0)) (C := "BlockPictures$Parameters") (T := bF_PA) (N := 6) hx hb htb bc_in_PA hown hK hP 2 (bc_gPA E m) rfl 0 (by decide) (htb _ tw_127) (fun _ h9 => h9) rfl (dt_bc_PA_takePending 1 rfl) ?_
  refine lv_if_eq (tgt := 33) hx hb (dt_bc_PA_takePending 2 rfl) (by decide) (fun hc => ?_) (fun hc => ?_)
  · replace h := (if_pos hc).symm.trans h
    exact hL33 _ h ls H locs (lv_sub hl [] rfl) hP hD hS
  · replace h := (if_neg hc).symm.trans h
    refine lv_aload_n hx hb (dt_bc_PA_takePending 3 rfl) rfl (lv_at hl 0 rfl) ?_
    refine lv_aload_n hx hb (dt_bc_PA_takePending 4 rfl) rfl (lv_at hl 0 rfl) ?_
    refine va_get (D := E.1) (ci := 2) (v := .int (m.1 2 1)) (C := "BlockPictures$Parameters") (T := bF_PA) (N := 6) hx hb htb bc_in_PA hown hK hP 2 (bc_gPA E m) rfl 1 (by decide) (htb _ tw_129) (fun _ h9 => h9) rfl (dt_bc_PA_takePending 5 rfl) ?_
    refine bc_pPA_4 E hx hb htb hown hK hP hD hS (htb _ tw_133) (dt_bc_PA_takePending 6 rfl) (fun m1 em1 H locs hP hD hS => ?_)
    replace h := bp_nM_s h em1
    refine lv_aload_n hx hb (dt_bc_PA_takePending 7 rfl) rfl (lv_at hl 0 rfl) ?_
    refine lv_aload_n hx hb (dt_bc_PA_takePending 8 rfl) rfl (lv_at hl 0 rfl) ?_
    refine va_get (D := E.1) (ci := 2) (v := .int (m1.1 2 2)) (C := "BlockPictures$Parameters") (T := bF_PA) (N := 6) hx hb htb bc_in_PA hown hK hP 2 (bc_gPA E m1) rfl 2 (by decide) (htb _ tw_130) (fun _ h9 => h9) rfl (dt_bc_PA_takePending 9 rfl) ?_
    refine bc_pPA_5 E hx hb htb hown hK hP hD hS (htb _ tw_135) (dt_bc_PA_takePending 10 rfl) (fun m2 em2 H locs hP hD hS => ?_)
    replace h := bp_nM_s h em2
    refine lv_aload_n hx hb (dt_bc_PA_takePending 11 rfl) rfl (lv_at hl 0 rfl) ?_
    refine lv_iconst (v := 1) hx hb (dt_bc_PA_takePending 12 rfl) (by decide) ?_
    obtain ⟨hg4, h⟩ := bp_g_s h
    refine bc_pPA_3 E hx hb htb hown hK hP hD hS hg4 (htb _ tw_131) (dt_bc_PA_takePending 13 rfl) (fun m3 em3 H locs hP hD hS => ?_)
    replace h := bp_nM_s h em3
    refine lv_aload_n hx hb (dt_bc_PA_takePending 14 rfl) rfl (lv_at hl 0 rfl) ?_
    refine lv_iconst (v := 0) hx hb (dt_bc_PA_takePending 15 rfl) (by decide) ?_
    obtain ⟨hg6, h⟩ := bp_g_s h
    refine bc_pPA_0 E hx hb htb hown hK hP hD hS hg6 (htb _ tw_127) (dt_bc_PA_takePending 16 rfl) (fun m5 em5 H locs hP hD hS => ?_)
    replace h := bp_nM_s h em5
    exact hL33 _ h ls H locs (lv_sub hl [] rfl) hP hD hS
set_option maxHeartbeats 4000000 in
set_option maxRecDepth 100000 in
theorem wbc_PB_leastWaiting (l : Launch) (E : bc_E) (N : Nat)  (m : bp_M) (sz : Nat) (r : Int32) (mr : bp_M)  (h : bc_PB_leastWaiting N m = some (r, mr)) : Met l y_bc_PB_leastWaiting (Cond.code y_bc_PB_leastWaiting prog_8_method_10_code 3 (some .int) :: bp_tb) ({ frames := 0, cells := 0, slots := 0, locals := 0 }) (bc_Pc E m sz [.ref (E.2.1 4)]) (bc_Qi E m sz r mr) 0 0 (va_A (bc_W E m) sz) := by
  refine Met.ofW (cc := prog_8_method_10_code) (maxL := 3) (ret := (some .int)) (by decide) rfl ?_
  intro p e s mt args below meth c s₁ B hml hv
  obtain ⟨rfl, hsz, hP, hK, hD0, hst⟩ := hv
  have hx := B.exec
  have hb := B.bytes
  have hr := B.returns
  have htb : ∀ w ∈ bp_tb, w.before _ s = true := fun w hw => atoms_spec (ws := Cond.code y_bc_PB_leastWaiting prog_8_method_10_code 3 (some .int) :: bp_tb) B.pre w (List.mem_cons_of_mem _ hw)
  have hown : s.vm.findClass "BlockPictures$PictureBuffer" = some mt.cls := findClass_of_methodNamed B.named
  have hlocks := B.notSynchronized
  subst hsz
  have hD := hD0.self (sz := s.heap.size)
  generalize hAe : va_A (bc_W E m) s.heap.size = A at hD hst ⊢
  have hsub : ∀ (u : bp_M) (z q : Nat), s.heap.size ≤ z → va_A (bc_W E u) z q → A q := bc_sub hAe
  have hS : va_S A s.heap s.heap [] := va_S.rf
  have hl := lv_entry ([.ref (E.2.1 4)]) (n := 3) (Nat.le_of_ble_eq_true rfl)
  rw [lg_entry_eq]
  generalize (lg_sl ([.ref (E.2.1 4)]) ++ List.replicate (3 - (lg_sl ([.ref (E.2.1 4)])).length) Slot.unset).toArray = ls at hl ⊢
  have hl : lv_has ls 3 [(0, .ref (E.2.1 4))] := hl
  refine bc_keyI (R := ({ frames := 0, cells := 0, slots := 0, locals := 0 })) E hx hb hr hlocks hK hAe (fun Q hret => ?_)
  clear B hD0 hlocks hr
  generalize ([.ref (E.2.1 4)] : List Value).toArray = args at htb hret ⊢
  clear hAe
  have hL58 : ∀ (x1 : Int32) (m : bp_M), bc_PB_leastWaiting_L58 N x1 m = some (r, mr) → ∀ (ls : Array Slot) (H : Heap) (locs : List Loc), lv_has ls 3 [(1, .int x1)] → va_P E.1 bp_cl (bc_W E m) H → va_D A (bc_W E m) → va_S A s.heap H locs → W p l e ({ frames := 0, cells := 0, slots := 0, locals := 0 }) s mt args below meth c H locs 0 0 Q (F0 mt 58 ls []) := by
    intro x1 m h ls H locs hl hP hD hS
    rw [bc_PB_leastWaiting_L58] at h
    refine lv_iload_n hx hb (dt_bc_PB_leastWaiting 32 rfl) rfl (lv_at hl 0 rfl) ?_
    exact hret _ _ _ _ _ _ h hP hD hS (dt_bc_PB_leastWaiting 33 rfl)
  have hL4 : ∀ (n4 : Nat) (x1 : Int32) (x2 : Int32) (m : bp_M), bc_PB_leastWaiting_L4 N n4 x1 x2 m = some (r, mr) → ∀ (ls : Array Slot) (H : Heap) (locs : List Loc), lv_has ls 3 [(0, .ref (E.2.1 4)), (1, .int x1), (2, .int x2)] → va_P E.1 bp_cl (bc_W E m) H → va_D A (bc_W E m) → va_S A s.heap H locs → W p l e ({ frames := 0, cells := 0, slots := 0, locals := 0 }) s mt args below meth c H locs 0 0 Q (F0 mt 4 ls []) := by
    intro n4
    induction n4 with
    | zero =>
      intro x1 x2 m h ls H locs hl hP hD hS
      rw [bc_PB_leastWaiting_L4] at h
      cases h
    | succ n4 ih4 =>
      have hL52 : ∀ (x1 : Int32) (x2 : Int32) (m : bp_M), bc_PB_leastWaiting_L52 (bc_PB_leastWaiting_L4 N n4) N x1 x2 m = some (r, mr) → ∀ (ls : Array Slot) (H : Heap) (locs : List Loc), lv_has ls 3 [(0, .ref (E.2.1 4)), (1, .int x1), (2, .int x2)] → va_P E.1 bp_cl (bc_W E m) H → va_D A (bc_W E m) → va_S A s.heap H locs → W p l e ({ frames := 0, cells := 0, slots := 0, locals := 0 }) s mt args below meth c H locs 0 0 Q (F0 mt 52 ls []) := by
        intro x1 x2 m h ls H locs hl hP hD hS
        rw [bc_PB_leastWaiting_L52] at h
        obtain ⟨y1, ey1⟩ : ∃ z : Int32, z = x2 + 1 := ⟨_, rfl⟩
        replace h := bp_nI_s h ey1
        refine lv_iinc (k := 2) (v := y1) hx hb (dt_bc_PB_leastWaiting 30 rfl) hl rfl (by rw [ey1]; rfl) (Nat.le_of_ble_eq_true rfl) rfl (fun ls hl => ?_)
        have hl : lv_has ls 3 [(2, .int y1), (0, .ref (E.2.1 4)), (1, .int x1)] := hl
        refine lv_goto (tgt := 4) hx hb (dt_bc_PB_leastWaiting 31 rfl) (by decide) ?_
        exact ih4 _ _ _ h ls H locs (lv_sub hl [1, 2, 0] rfl) hP hD hS
      have hL50 : ∀ (x2 : Int32) (m : bp_M), bc_PB_leastWaiting_L50 (bc_PB_leastWaiting_L4 N n4) N x2 m = some (r, mr) → ∀ (ls : Array Slot) (H : Heap) (locs : List Loc), lv_has ls 3 [(0, .ref (E.2.1 4)), (2, .int x2)] → va_P E.1 bp_cl (bc_W E m) H → va_D A (bc_W E m) → va_S A s.heap H locs → W p l e ({ frames := 0, cells := 0, slots := 0, locals := 0 }) s mt args below meth c H locs 0 0 Q (F0 mt 50 ls []) := by
        intro x2 m h ls H locs hl hP hD hS
        rw [bc_PB_leastWaiting_L50] at h
        refine lv_iload_n hx hb (dt_bc_PB_leastWaiting 28 rfl) rfl (lv_at hl 1 rfl) ?_
        refine lv_istore_n hx hb (dt_bc_PB_leastWaiting 29 rfl) rfl hl (Nat.le_of_ble_eq_true rfl) rfl (fun ls hl => ?_)
        have hl : lv_has ls 3 [(1, .int x2), (0, .ref (E.2.1 4)), (2, .int x2)] := hl
        exact hL52 _ _ _ h ls H locs (lv_sub hl [1, 0, 2] rfl) hP hD hS
      intro x1 x2 m h ls H locs hl hP hD hS
      rw [bc_PB_leastWaiting_L4] at h
      refine lv_iload_n hx hb (dt_bc_PB_leastWaiting 4 rfl) rfl (lv_at hl 2 rfl) ?_
      refine lv_aload_n hx hb (dt_bc_PB_leastWaiting 5 rfl) rfl (lv_at hl 0 rfl) ?_
      refine va_get (D := E.1) (ci := 4) (v := .int (m.1 4 1)) (C := "BlockPictures$PictureBuffer") (T := bF_PB) (N := 6) hx hb htb bc_in_PB hown hK hP 4 (bc_gPB E m) rfl 1 (by decide) (htb _ tw_309) (fun _ h9 => h9) rfl (dt_bc_PB_leastWaiting 6 rfl) ?_
      refine lv_icmp_ge (tgt := 58) hx hb (dt_bc_PB_leastWaiting 7 rfl) (by decide) (fun hc => ?_) (fun hc => ?_)
      · replace h := (if_pos hc).symm.trans h
        exact hL58 _ _ h ls H locs (lv_sub hl [1] rfl) hP hD hS
      · replace h := (if_neg hc).symm.trans h
        refine lv_aload_n hx hb (dt_bc_PB_leastWaiting 8 rfl) rfl (lv_at hl 0 rfl) ?_
        refine va_get (D := E.1) (ci := 4) (v := .ref (E.2.1 40)) (C := "BlockPictures$PictureBuffer") (T := bF_PB) (N := 6) hx hb htb bc_in_PB hown hK hP 4 (bc_gPB E m) rfl 0 (by decide) (htb _ tw_307) (fun _ h9 => h9) rfl (dt_bc_PB_leastWaiting 9 rfl) ?_
        refine lv_iload_n hx hb (dt_bc_PB_leastWaiting 10 rfl) rfl (lv_at hl 2 rfl) ?_
        obtain ⟨hg1, h⟩ := bp_gi_s h
        refine bc_lP E hx hb hK hP (bc_ga40 E) hg1 (dt_bc_PB_leastWaiting 11 rfl) (fun q2 eq2 => ?_)
        replace h := bp_nN_s h eq2
        obtain ⟨hg3, h⟩ := bp_g_s h
        refine va_get (D := E.1) (ci := 9) (v := .int (m.1 q2 3)) (C := "BlockPictures$Picture") (T := bF_PI) (N := 4) hx hb htb bc_in_PI hown hK hP q2 (bc_gPI E m hg3) rfl 3 (by decide) (htb _ tw_198) (fun _ h9 => h9) rfl (dt_bc_PB_leastWaiting 12 rfl) ?_
        refine lv_if_eq (tgt := 52) hx hb (dt_bc_PB_leastWaiting 13 rfl) (by decide) (fun hc => ?_) (fun hc => ?_)
        · replace h := (if_pos hc).symm.trans h
          exact hL52 _ _ _ h ls H locs (lv_sub hl [0, 1, 2] rfl) hP hD hS
        · replace h := (if_neg hc).symm.trans h
          refine lv_iload_n hx hb (dt_bc_PB_leastWaiting 14 rfl) rfl (lv_at hl 1 rfl) ?_
          refine lv_iconst (v := (-1)) hx hb (dt_bc_PB_leastWaiting 15 rfl) (by decide) ?_
          refine lv_icmp_eq (tgt := 50) hx hb (dt_bc_PB_leastWaiting 16 rfl) (by decide) (fun hc => ?_) (fun hc => ?_)
          · replace h := (if_pos hc).symm.trans h
            exact hL50 _ _ h ls H locs (lv_sub hl [0, 2] rfl) hP hD hS
          · replace h := (if_neg hc).symm.trans h
            refine lv_aload_n hx hb (dt_bc_PB_leastWaiting 17 rfl) rfl (lv_at hl 0 rfl) ?_
            refine va_get (D := E.1) (ci := 4) (v := .ref (E.2.1 40)) (C := "BlockPictures$PictureBuffer") (T := bF_PB) (N := 6) hx hb htb bc_in_PB hown hK hP 4 (bc_gPB E m) rfl 0 (by decide) (htb _ tw_307) (fun _ h9 => h9) rfl (dt_bc_PB_leastWaiting 18 rfl) ?_
            refine lv_iload_n hx hb (dt_bc_PB_leastWaiting 19 rfl) rfl (lv_at hl 2 rfl) ?_
            obtain ⟨hg4, h⟩ := bp_gi_s h
            refine bc_lP E hx hb hK hP (bc_ga40 E) hg4 (dt_bc_PB_leastWaiting 20 rfl) (fun q5 eq5 => ?_)
            replace h := bp_nN_s h eq5
            obtain ⟨hg6, h⟩ := bp_g_s h
            refine va_get (D := E.1) (ci := 9) (v := .int (m.1 q5 1)) (C := "BlockPictures$Picture") (T := bF_PI) (N := 4) hx hb htb bc_in_PI hown hK hP q5 (bc_gPI E m hg6) rfl 1 (by decide) (htb _ tw_190) (fun _ h9 => h9) rfl (dt_bc_PB_leastWaiting 21 rfl) ?_
            refine lv_aload_n hx hb (dt_bc_PB_leastWaiting 22 rfl) rfl (lv_at hl 0 rfl) ?_
            refine va_get (D := E.1) (ci := 4) (v := .ref (E.2.1 40)) (C := "BlockPictures$PictureBuffer") (T := bF_PB) (N := 6) hx hb htb bc_in_PB hown hK hP 4 (bc_gPB E m) rfl 0 (by decide) (htb _ tw_307) (fun _ h9 => h9) rfl (dt_bc_PB_leastWaiting 23 rfl) ?_
            refine lv_iload_n hx hb (dt_bc_PB_leastWaiting 24 rfl) rfl (lv_at hl 1 rfl) ?_
            obtain ⟨hg7, h⟩ := bp_gi_s h
            refine bc_lP E hx hb hK hP (bc_ga40 E) hg7 (dt_bc_PB_leastWaiting 25 rfl) (fun q8 eq8 => ?_)
            replace h := bp_nN_s h eq8
            obtain ⟨hg9, h⟩ := bp_g_s h
            refine va_get (D := E.1) (ci := 9) (v := .int (m.1 q8 1)) (C := "BlockPictures$Picture") (T := bF_PI) (N := 4) hx hb htb bc_in_PI hown hK hP q8 (bc_gPI E m hg9) rfl 1 (by decide) (htb _ tw_190) (fun _ h9 => h9) rfl (dt_bc_PB_leastWaiting 26 rfl) ?_
            refine lv_icmp_ge (tgt := 52) hx hb (dt_bc_PB_leastWaiting 27 rfl) (by decide) (fun hc => ?_) (fun hc => ?_)
            · replace h := (if_pos hc).symm.trans h
              exact hL52 _ _ _ h ls H locs (lv_sub hl [0, 1, 2] rfl) hP hD hS
            · replace h := (if_neg hc).symm.trans h
              exact hL50 _ _ h ls H locs (lv_sub hl [0, 2] rfl) hP hD hS
  suffices hgo : ∀ (H : Heap) (locs : List Loc), va_P E.1 bp_cl (bc_W E m) H → va_D A (bc_W E m) → va_S A s.heap H locs → W p l e ({ frames := 0, cells := 0, slots := 0, locals := 0 }) s mt args below meth c H locs 0 0 Q (F0 mt 0 ls []) from hgo _ _ hP hD hS
  clear hP hD hS
  intro H locs hP hD hS
  unfold bc_PB_leastWaiting at h
  refine lv_iconst (v := (-1)) hx hb (dt_bc_PB_leastWaiting 0 rfl) (by decide) ?_
  refine lv_istore_n hx hb (dt_bc_PB_leastWaiting 1 rfl) rfl hl (Nat.le_of_ble_eq_true rfl) rfl (fun ls hl => ?_)
  have hl : lv_has ls 3 [(1, .int (-1)), (0, .ref (E.2.1 4))] := hl
  refine lv_iconst (v := 0) hx hb (dt_bc_PB_leastWaiting 2 rfl) (by decide) ?_
  refine lv_istore_n hx hb (dt_bc_PB_leastWaiting 3 rfl) rfl hl (Nat.le_of_ble_eq_true rfl) rfl (fun ls hl => ?_)
  have hl : lv_has ls 3 [(2, .int 0), (1, .int (-1)), (0, .ref (E.2.1 4))] := hl
  exact hL4 _ _ _ _ h ls H locs (lv_sub hl [2, 1, 0] rfl) hP hD hS
set_option maxHeartbeats 4000000 in
set_option maxRecDepth 100000 in
theorem wbc_PB_show (l : Launch) (E : bc_E) (N : Nat) (a1 : Nat) (m : bp_M) (sz : Nat) (mr : bp_M) (hp_a1 : isPI a1) (h : bc_PB_show N a1 m = some mr) : Met l y_bc_PB_show (Cond.code y_bc_PB_show prog_8_method_12_code 2 none :: bp_tb) ({ frames := 1, cells := 0, slots := 0, locals := 40 }) (bc_Pc E m sz [.ref (E.2.1 4), .ref (E.2.1 a1)]) (bc_Qv E m sz mr) 0 0 (va_A (bc_W E m) sz) := by
  refine Met.ofW (cc := prog_8_method_12_code) (maxL := 2) (ret := none) (by decide) rfl ?_
  intro p e s mt args below meth c s₁ B hml hv
  obtain ⟨rfl, hsz, hP, hK, hD0, hst⟩ := hv
  have hx := B.exec
  have hb := B.bytes
  have hr := B.returns
  have htb : ∀ w ∈ bp_tb, w.before _ s = true := fun w hw => atoms_spec (ws := Cond.code y_bc_PB_show prog_8_method_12_code 2 none :: bp_tb) B.pre w (List.mem_cons_of_mem _ hw)
  have hown : s.vm.findClass "BlockPictures$PictureBuffer" = some mt.cls := findClass_of_methodNamed B.named
  have hlocks := B.notSynchronized
  subst hsz
  have hD := hD0.self (sz := s.heap.size)
  generalize hAe : va_A (bc_W E m) s.heap.size = A at hD hst ⊢
  have hsub : ∀ (u : bp_M) (z q : Nat), s.heap.size ≤ z → va_A (bc_W E u) z q → A q := bc_sub hAe
  have hS : va_S A s.heap s.heap [] := va_S.rf
  have hl := lv_entry ([.ref (E.2.1 4), .ref (E.2.1 a1)]) (n := 2) (Nat.le_of_ble_eq_true rfl)
  rw [lg_entry_eq]
  generalize (lg_sl ([.ref (E.2.1 4), .ref (E.2.1 a1)]) ++ List.replicate (2 - (lg_sl ([.ref (E.2.1 4), .ref (E.2.1 a1)])).length) Slot.unset).toArray = ls at hl ⊢
  have hl : lv_has ls 2 [(0, .ref (E.2.1 4)), (1, .ref (E.2.1 a1))] := hl
  refine bc_keyV (R := ({ frames := 1, cells := 0, slots := 0, locals := 40 })) E hx hb hr hlocks hK hAe (fun Q hret => ?_)
  clear B hD0 hlocks hr
  generalize ([.ref (E.2.1 4), .ref (E.2.1 a1)] : List Value).toArray = args at htb hret ⊢
  clear hAe
  suffices hgo : ∀ (H : Heap) (locs : List Loc), va_P E.1 bp_cl (bc_W E m) H → va_D A (bc_W E m) → va_S A s.heap H locs → W p l e ({ frames := 1, cells := 0, slots := 0, locals := 40 }) s mt args below meth c H locs 0 0 Q (F0 mt 0 ls []) from hgo _ _ hP hD hS
  clear hP hD hS
  intro H locs hP hD hS
  unfold bc_PB_show at h
  refine lv_aload_n hx hb (dt_bc_PB_show 0 rfl) rfl (lv_at hl 1 rfl) ?_
  refine va_get (D := E.1) (ci := 9) (v := .ref (E.2.1 (a1 + 24))) (C := "BlockPictures$Picture") (T := bF_PI) (N := 4) hx hb htb bc_in_PI hown hK hP a1 (bc_gPI E m hp_a1) rfl 0 (by decide) (htb _ tw_186) (fun _ h9 => h9) rfl (dt_bc_PB_show 1 rfl) ?_
  refine lv_iconst (v := 0) hx hb (dt_bc_PB_show 2 rfl) (by decide) ?_
  refine lv_aload_n hx hb (dt_bc_PB_show 3 rfl) rfl (lv_at hl 0 rfl) ?_
  refine va_get (D := E.1) (ci := 4) (v := .ref (E.2.1 20)) (C := "BlockPictures$PictureBuffer") (T := bF_PB) (N := 6) hx hb htb bc_in_PB hown hK hP 4 (bc_gPB E m) rfl 3 (by decide) (htb _ tw_313) (fun _ h9 => h9) rfl (dt_bc_PB_show 4 rfl) ?_
  refine lv_iconst (v := 0) hx hb (dt_bc_PB_show 5 rfl) (by decide) ?_
  refine lv_sipush (v := 256) hx hb (dt_bc_PB_show 6 rfl) (by decide) ?_
  obtain ⟨hg1, h⟩ := bp_g_s h
  refine bc_cpy E hx hb (hml.trans hl.1.symm) hown (htb _ tw_610) (htb _ tw_419) (htb _ tw_418) (htb _ tw_80) hK hP hD hS (bc_gps E hp_a1) (bc_ga20 E) hg1 (Nat.le_of_ble_eq_true rfl) (Nat.le_of_ble_eq_true rfl) (dt_bc_PB_show 7 rfl) (fun m2 em2 H locs hP hD hS => ?_)
  replace h := bp_nM_s h em2
  refine lv_aload_n hx hb (dt_bc_PB_show 8 rfl) rfl (lv_at hl 0 rfl) ?_
  refine va_get (D := E.1) (ci := 4) (v := .ref (E.2.1 21)) (C := "BlockPictures$PictureBuffer") (T := bF_PB) (N := 6) hx hb htb bc_in_PB hown hK hP 4 (bc_gPB E m2) rfl 4 (by decide) (htb _ tw_315) (fun _ h9 => h9) rfl (dt_bc_PB_show 9 rfl) ?_
  refine lv_aload_n hx hb (dt_bc_PB_show 10 rfl) rfl (lv_at hl 0 rfl) ?_
  refine va_get (D := E.1) (ci := 4) (v := .int (m2.1 4 5)) (C := "BlockPictures$PictureBuffer") (T := bF_PB) (N := 6) hx hb htb bc_in_PB hown hK hP 4 (bc_gPB E m2) rfl 5 (by decide) (htb _ tw_316) (fun _ h9 => h9) rfl (dt_bc_PB_show 11 rfl) ?_
  refine lv_bipush (v := 8) hx hb (dt_bc_PB_show 12 rfl) (by decide) ?_
  refine lv_irem hx hb (dt_bc_PB_show 13 rfl) (by decide) ?_
  refine lv_aload_n hx hb (dt_bc_PB_show 14 rfl) rfl (lv_at hl 1 rfl) ?_
  refine va_get (D := E.1) (ci := 9) (v := .int (m2.1 a1 1)) (C := "BlockPictures$Picture") (T := bF_PI) (N := 4) hx hb htb bc_in_PI hown hK hP a1 (bc_gPI E m2 hp_a1) rfl 1 (by decide) (htb _ tw_190) (fun _ h9 => h9) rfl (dt_bc_PB_show 15 rfl) ?_
  obtain ⟨hg3, h⟩ := bp_gi_s h
  refine bc_sI E hx hb hK hP hD hS (bc_ga21 E) hg3 (dt_bc_PB_show 16 rfl) (fun m4 em4 H locs hP hD hS => ?_)
  replace h := bp_nM_s h em4
  refine lv_aload_n hx hb (dt_bc_PB_show 17 rfl) rfl (lv_at hl 0 rfl) ?_
  refine lv_dup hx hb (dt_bc_PB_show 18 rfl) rfl ?_
  refine va_get (D := E.1) (ci := 4) (v := .int (m4.1 4 5)) (C := "BlockPictures$PictureBuffer") (T := bF_PB) (N := 6) hx hb htb bc_in_PB hown hK hP 4 (bc_gPB E m4) rfl 5 (by decide) (htb _ tw_316) (fun _ h9 => h9) rfl (dt_bc_PB_show 19 rfl) ?_
  refine lv_iconst (v := 1) hx hb (dt_bc_PB_show 20 rfl) (by decide) ?_
  refine lv_iadd hx hb (dt_bc_PB_show 21 rfl) ?_
  refine bc_pPB_5 E hx hb htb hown hK hP hD hS (htb _ tw_316) (dt_bc_PB_show 22 rfl) (fun m5 em5 H locs hP hD hS => ?_)
  replace h := bp_nM_s h em5
  exact hret _ _ _ _ _ h hP hD hS (dt_bc_PB_show 23 rfl)
set_option maxHeartbeats 4000000 in
set_option maxRecDepth 100000 in
theorem wbc_PB_showLeast (l : Launch) (E : bc_E) (N : Nat)  (m : bp_M) (sz : Nat) (mr : bp_M)  (h : bc_PB_showLeast N m = some mr) : Met l y_bc_PB_showLeast (Cond.code y_bc_PB_showLeast prog_8_method_11_code 2 none :: bp_tb) ({ frames := 2, cells := 0, slots := 0, locals := 61 }) (bc_Pc E m sz [.ref (E.2.1 4)]) (bc_Qv E m sz mr) 0 0 (va_A (bc_W E m) sz) := by
  refine Met.ofW (cc := prog_8_method_11_code) (maxL := 2) (ret := none) (by decide) rfl ?_
  intro p e s mt args below meth c s₁ B hml hv
  obtain ⟨rfl, hsz, hP, hK, hD0, hst⟩ := hv
  have hx := B.exec
  have hb := B.bytes
  have hr := B.returns
  have htb : ∀ w ∈ bp_tb, w.before _ s = true := fun w hw => atoms_spec (ws := Cond.code y_bc_PB_showLeast prog_8_method_11_code 2 none :: bp_tb) B.pre w (List.mem_cons_of_mem _ hw)
  have hown : s.vm.findClass "BlockPictures$PictureBuffer" = some mt.cls := findClass_of_methodNamed B.named
  have hlocks := B.notSynchronized
  subst hsz
  have hD := hD0.self (sz := s.heap.size)
  generalize hAe : va_A (bc_W E m) s.heap.size = A at hD hst ⊢
  have hsub : ∀ (u : bp_M) (z q : Nat), s.heap.size ≤ z → va_A (bc_W E u) z q → A q := bc_sub hAe
  have hS : va_S A s.heap s.heap [] := va_S.rf
  have hl := lv_entry ([.ref (E.2.1 4)]) (n := 2) (Nat.le_of_ble_eq_true rfl)
  rw [lg_entry_eq]
  generalize (lg_sl ([.ref (E.2.1 4)]) ++ List.replicate (2 - (lg_sl ([.ref (E.2.1 4)])).length) Slot.unset).toArray = ls at hl ⊢
  have hl : lv_has ls 2 [(0, .ref (E.2.1 4))] := hl
  refine bc_keyV (R := ({ frames := 2, cells := 0, slots := 0, locals := 61 })) E hx hb hr hlocks hK hAe (fun Q hret => ?_)
  clear B hD0 hlocks hr
  generalize ([.ref (E.2.1 4)] : List Value).toArray = args at htb hret ⊢
  clear hAe
  have hL30 : ∀ (m : bp_M), bc_PB_showLeast_L30 N m = some mr → ∀ (ls : Array Slot) (H : Heap) (locs : List Loc), lv_has ls 2 [] → va_P E.1 bp_cl (bc_W E m) H → va_D A (bc_W E m) → va_S A s.heap H locs → W p l e ({ frames := 2, cells := 0, slots := 0, locals := 61 }) s mt args below meth c H locs 0 0 Q (F0 mt 30 ls []) := by
    intro m h ls H locs hl hP hD hS
    rw [bc_PB_showLeast_L30] at h
    exact hret _ _ _ _ _ h hP hD hS (dt_bc_PB_showLeast 18 rfl)
  suffices hgo : ∀ (H : Heap) (locs : List Loc), va_P E.1 bp_cl (bc_W E m) H → va_D A (bc_W E m) → va_S A s.heap H locs → W p l e ({ frames := 2, cells := 0, slots := 0, locals := 61 }) s mt args below meth c H locs 0 0 Q (F0 mt 0 ls []) from hgo _ _ hP hD hS
  clear hP hD hS
  intro H locs hP hD hS
  unfold bc_PB_showLeast at h
  refine lv_aload_n hx hb (dt_bc_PB_showLeast 0 rfl) rfl (lv_at hl 0 rfl) ?_
  obtain ⟨z2, m1, hm1, h⟩ := bp_cI_s h
  refine bc_callI E hsub hS (va_runV (As := []) (rest := []) ⟨hx, hb, hml, hown, htb⟩ (wbc_PB_leastWaiting l E N  m H.size z2 m1 hm1) (cwV 0 htb (bp_goodV tw_602 tw_604 tw_22 tw_77 tw_605) rfl rfl rfl ⟨rfl, hd_bc_PB_leastWaiting⟩ ⟨Nat.le_of_ble_eq_true rfl, Nat.le_of_ble_eq_true rfl⟩) (bc_preV E hsub hst hK hP hD hS (bc_gPB E m) rfl rfl _) rfl rfl hl.1 rfl (lv_room (Nat.le_of_ble_eq_true rfl)) (dt_bc_PB_showLeast 1 rfl) ⟨Nat.zero_le _, Nat.zero_le _⟩) (fun H locs hP hD hS => ?_)
  refine lv_istore_n hx hb (dt_bc_PB_showLeast 2 rfl) rfl hl (Nat.le_of_ble_eq_true rfl) rfl (fun ls hl => ?_)
  have hl : lv_has ls 2 [(1, .int z2), (0, .ref (E.2.1 4))] := hl
  refine lv_iload_n hx hb (dt_bc_PB_showLeast 3 rfl) rfl (lv_at hl 0 rfl) ?_
  refine lv_iconst (v := (-1)) hx hb (dt_bc_PB_showLeast 4 rfl) (by decide) ?_
  refine lv_icmp_eq (tgt := 30) hx hb (dt_bc_PB_showLeast 5 rfl) (by decide) (fun hc => ?_) (fun hc => ?_)
  · replace h := (if_pos hc).symm.trans h
    exact hL30 _ h ls H locs (lv_sub hl [] rfl) hP hD hS
  · replace h := (if_neg hc).symm.trans h
    refine lv_aload_n hx hb (dt_bc_PB_showLeast 6 rfl) rfl (lv_at hl 1 rfl) ?_
    refine lv_aload_n hx hb (dt_bc_PB_showLeast 7 rfl) rfl (lv_at hl 1 rfl) ?_
    refine va_get (D := E.1) (ci := 4) (v := .ref (E.2.1 40)) (C := "BlockPictures$PictureBuffer") (T := bF_PB) (N := 6) hx hb htb bc_in_PB hown hK hP 4 (bc_gPB E m1) rfl 0 (by decide) (htb _ tw_307) (fun _ h9 => h9) rfl (dt_bc_PB_showLeast 8 rfl) ?_
    refine lv_iload_n hx hb (dt_bc_PB_showLeast 9 rfl) rfl (lv_at hl 0 rfl) ?_
    obtain ⟨hg3, h⟩ := bp_gi_s h
    refine bc_lP E hx hb hK hP (bc_ga40 E) hg3 (dt_bc_PB_showLeast 10 rfl) (fun q4 eq4 => ?_)
    replace h := bp_nN_s h eq4
    obtain ⟨hg5, h⟩ := bp_g_s h
    obtain ⟨m6, hm6, h⟩ := bp_cV_s h
    refine bc_callV E hsub hS (va_runV (As := [.ref (E.2.1 q4)]) (rest := []) ⟨hx, hb, hml, hown, htb⟩ (wbc_PB_show l E N q4 m1 H.size m6 hg5 hm6) (cwV 1 htb (bp_goodV tw_606 tw_608 tw_23 tw_77 tw_609) rfl rfl rfl ⟨rfl, hd_bc_PB_show⟩ ⟨Nat.le_of_ble_eq_true rfl, Nat.le_of_ble_eq_true rfl⟩) (bc_preV E hsub hst hK hP hD hS (bc_gPB E m1) rfl rfl _) rfl rfl hl.1 rfl (lv_room (Nat.le_of_ble_eq_true rfl)) (dt_bc_PB_showLeast 11 rfl) ⟨Nat.zero_le _, Nat.zero_le _⟩) (fun H locs hP hD hS => ?_)
    refine lv_aload_n hx hb (dt_bc_PB_showLeast 12 rfl) rfl (lv_at hl 1 rfl) ?_
    refine va_get (D := E.1) (ci := 4) (v := .ref (E.2.1 40)) (C := "BlockPictures$PictureBuffer") (T := bF_PB) (N := 6) hx hb htb bc_in_PB hown hK hP 4 (bc_gPB E m6) rfl 0 (by decide) (htb _ tw_307) (fun _ h9 => h9) rfl (dt_bc_PB_showLeast 13 rfl) ?_
    refine lv_iload_n hx hb (dt_bc_PB_showLeast 14 rfl) rfl (lv_at hl 0 rfl) ?_
    obtain ⟨hg7, h⟩ := bp_gi_s h
    refine bc_lP E hx hb hK hP (bc_ga40 E) hg7 (dt_bc_PB_showLeast 15 rfl) (fun q8 eq8 => ?_)
    replace h := bp_nN_s h eq8
    obtain ⟨hg9, h⟩ := bp_g_s h
    refine lv_iconst (v := 0) hx hb (dt_bc_PB_showLeast 16 rfl) (by decide) ?_
    obtain ⟨hg11, h⟩ := bp_g_s h
    refine bc_pPI_3 E hx hb htb hown hK hP hD hS hg9 hg11 (htb _ tw_198) (dt_bc_PB_showLeast 17 rfl) (fun m10 em10 H locs hP hD hS => ?_)
    replace h := bp_nM_s h em10
    exact hL30 _ h ls H locs (lv_sub hl [] rfl) hP hD hS

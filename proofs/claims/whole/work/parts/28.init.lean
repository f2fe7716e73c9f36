abbrev y_i_UI : MethodName := ⟨"BlockPictures$UnitIntake", "<init>", "()V"⟩
def tb_i_UI : List (Nat × Instr × Nat) := [(0, .aload_n 0, 1), (1, .invokespecial 3, 3), (4, .aload_n 0, 1), (5, .sipush 320, 3), (8, .newarray .int, 2), (10, .putfield 11, 3), (13, .return_, 1)]
theorem tb_i_UI_ok : ∀ q ∈ tb_i_UI, decode prog_10_method_1_code q.1 = .ok q.2 := by decide +kernel
theorem dt_i_UI (k : Nat) {pc n : Nat} {i : Instr} (h : tb_i_UI[k]? = some (pc, i, n)) : decode prog_10_method_1_code pc = .ok (i, n) := tb_i_UI_ok (pc, i, n) (List.mem_of_getElem? h)
theorem hd_i_UI : (y_i_UI).cls ≠ "java/lang/invoke/MethodHandle" ∧ (y_i_UI).cls ≠ "java/lang/invoke/VarHandle" ∧ (parseMethodDescriptor (y_i_UI).desc).map (fun d => d.parameters.length) = some 0 := by decide +kernel
abbrev ic_UI (E : bc_E) (h0 : Nat) (f : Nat → Nat) : va_W := [(h0, .inr (1, [.ref (f 0), .int 0, .int 0, .int 0, .int 0, .int 0])), ((f 0), .inl (E.2.2.1, 320, .inl (fun _ => 0)))]
set_option maxHeartbeats 4000000 in
set_option maxRecDepth 100000 in
theorem i_UI (l : Launch) (E : bc_E) (h0 : Nat) (sz : Nat) : Met l y_i_UI (Cond.code y_i_UI prog_10_method_1_code 1 none :: bp_tb) ({ frames := 1, cells := 1, slots := 320, locals := 12 }) (ic_Pc E h0 (.inr (1, [.null, .int 0, .int 0, .int 0, .int 0, .int 0])) sz) (va_Qv (fun _ : Nat → Nat => True) (fun f t => va_P E.1 bp_cl (ic_UI E h0 f) t.heap ∧ va_K E.1 bp_cl (bc_ty E) t ∧ va_D (va_A [(h0, .inr (1, [.null, .int 0, .int 0, .int 0, .int 0, .int 0]))] sz) (ic_UI E h0 f)) (va_A [(h0, .inr (1, [.null, .int 0, .int 0, .int 0, .int 0, .int 0]))] sz)) 1 320 (va_A [(h0, .inr (1, [.null, .int 0, .int 0, .int 0, .int 0, .int 0]))] sz) := by
  refine Met.ofW (cc := prog_10_method_1_code) (maxL := 1) (ret := none) (by decide) rfl ?_
  intro p e s mt args below meth c s₁ B hml hv
  obtain ⟨rfl, hsz, hP, hK, hD0, hnw, hao⟩ := hv
  have hx := B.exec
  have hb := B.bytes
  have hr := B.returns
  have htb : ∀ w ∈ bp_tb, w.before _ s = true := fun w hw => atoms_spec (ws := Cond.code y_i_UI prog_10_method_1_code 1 none :: bp_tb) B.pre w (List.mem_cons_of_mem _ hw)
  have hown : s.vm.findClass "BlockPictures$UnitIntake" = some mt.cls := findClass_of_methodNamed B.named
  have hlocks := B.notSynchronized
  have hin : meth.name = "<init>" := (name_of_methodNamed B.named B.method).1
  subst hsz
  have hD := hD0.self (sz := s.heap.size)
  generalize hAe : va_A [(h0, .inr (1, [.null, .int 0, .int 0, .int 0, .int 0, .int 0]))] s.heap.size = A at hD ⊢
  have hA : ∀ q : Nat, s.heap.size ≤ q → A q := fun q h => by rw [← hAe]; exact Or.inr h
  have hS : va_S A s.heap s.heap [] := va_S.rf
  have hl := lv_entry ([.ref h0]) (n := 1) (Nat.le_of_ble_eq_true rfl)
  rw [lg_entry_eq]
  generalize (lg_sl ([.ref h0]) ++ List.replicate (1 - (lg_sl ([.ref h0])).length) Slot.unset).toArray = ls at hl ⊢
  have hl : lv_has ls 1 [(0, .ref h0)] := hl
  refine lv_aload_n hx hb (dt_i_UI 0 rfl) rfl (lv_at hl 0 rfl) ?_
  refine W.objInit hx hb hown (htb _ tw_97) (htb _ tw_90) (htb _ tw_91) rfl (by rw [hml]; exact hl.1) rfl (dt_i_UI 1 rfl) (Nat.le_of_ble_eq_true rfl) (Nat.le_of_ble_eq_true rfl) ?_
  refine W.eq (g2 := F0 mt 4 ls []) rfl ?_
  refine lv_aload_n hx hb (dt_i_UI 2 rfl) rfl (lv_at hl 0 rfl) ?_
  refine lv_sipush (v := 320) hx hb (dt_i_UI 3 rfl) (by decide) ?_
  refine bp_newa (atype := .int) (ty := .int) (a0 := (320, .inl (fun _ => 0))) hx hb (htb _ tw_120) rfl (Or.inl rfl) hK hP hD hS hA 0 rfl (fun _ => rfl) (by decide) (by decide) (Nat.le_of_ble_eq_true rfl) (Nat.le_of_ble_eq_true rfl) (Nat.le_of_ble_eq_true rfl) (dt_i_UI 4 rfl) (fun q1 H hP hD hS => ?_)
  have hP : va_P E.1 bp_cl [(h0, .inr (1, [.null, .int 0, .int 0, .int 0, .int 0, .int 0])), (q1, .inl (E.2.2.1, 320, .inl (fun _ => 0)))] H := hP
  have hD : va_D A [(h0, .inr (1, [.null, .int 0, .int 0, .int 0, .int 0, .int 0])), (q1, .inl (E.2.2.1, 320, .inl (fun _ => 0)))] := hD
  refine W.widen (k := 1) (n := 320) (Nat.le_of_ble_eq_true rfl) (Nat.le_of_ble_eq_true rfl) ?_
  refine va_putF (D := E.1) (ci := 1) (v := .ref q1) (ty := .array .int) (C := "BlockPictures$UnitIntake") (T := bF_UI) (N := 6) hx hb htb bc_in_UI bt_UI bt_UI_ok bn_UI hown hK hP hD hS 0 rfl rfl 0 (by decide) (htb _ tw_98) (fun _ h9 => h9) rfl hin rfl (by decide +kernel) rfl rfl (Nat.le_of_ble_eq_true rfl) (dt_i_UI 5 rfl) (fun H locs hP hD hS => ?_)
  have hP : va_P E.1 bp_cl [(h0, .inr (1, [.ref q1, .int 0, .int 0, .int 0, .int 0, .int 0])), (q1, .inl (E.2.2.1, 320, .inl (fun _ => 0)))] H := hP
  have hD : va_D A [(h0, .inr (1, [.ref q1, .int 0, .int 0, .int 0, .int 0, .int 0])), (q1, .inl (E.2.2.1, 320, .inl (fun _ => 0)))] := hD
  refine W.widen (k := 1) (n := 320) (Nat.le_of_ble_eq_true rfl) (Nat.le_of_ble_eq_true rfl) ?_
  exact W.vret hx hb hr (fun t ht hW => ⟨⟨(fun j => [q1].getD j 0), rfl, trivial, by rw [ht]; exact hP, va_K.moved hW.alike hK, hD⟩, hS.F ht⟩) hS.2.2 (dt_i_UI 6 rfl)
abbrev y_i_PA : MethodName := ⟨"BlockPictures$Parameters", "<init>", "()V"⟩
def tb_i_PA : List (Nat × Instr × Nat) := [(0, .aload_n 0, 1), (1, .invokespecial 3, 3), (4, .return_, 1)]
theorem tb_i_PA_ok : ∀ q ∈ tb_i_PA, decode prog_6_method_1_code q.1 = .ok q.2 := by decide +kernel
theorem dt_i_PA (k : Nat) {pc n : Nat} {i : Instr} (h : tb_i_PA[k]? = some (pc, i, n)) : decode prog_6_method_1_code pc = .ok (i, n) := tb_i_PA_ok (pc, i, n) (List.mem_of_getElem? h)
theorem hd_i_PA : (y_i_PA).cls ≠ "java/lang/invoke/MethodHandle" ∧ (y_i_PA).cls ≠ "java/lang/invoke/VarHandle" ∧ (parseMethodDescriptor (y_i_PA).desc).map (fun d => d.parameters.length) = some 0 := by decide +kernel
abbrev ic_PA (E : bc_E) (h0 : Nat) (f : Nat → Nat) : va_W := [(h0, .inr (2, [.int 0, .int 0, .int 0, .int 0, .int 0, .int 0]))]
set_option maxHeartbeats 4000000 in
set_option maxRecDepth 100000 in
theorem i_PA (l : Launch) (E : bc_E) (h0 : Nat) (sz : Nat) : Met l y_i_PA (Cond.code y_i_PA prog_6_method_1_code 1 none :: bp_tb) ({ frames := 1, cells := 0, slots := 0, locals := 12 }) (ic_Pc E h0 (.inr (2, [.int 0, .int 0, .int 0, .int 0, .int 0, .int 0])) sz) (va_Qv (fun _ : Nat → Nat => True) (fun f t => va_P E.1 bp_cl (ic_PA E h0 f) t.heap ∧ va_K E.1 bp_cl (bc_ty E) t ∧ va_D (va_A [(h0, .inr (2, [.int 0, .int 0, .int 0, .int 0, .int 0, .int 0]))] sz) (ic_PA E h0 f)) (va_A [(h0, .inr (2, [.int 0, .int 0, .int 0, .int 0, .int 0, .int 0]))] sz)) 0 0 (va_A [(h0, .inr (2, [.int 0, .int 0, .int 0, .int 0, .int 0, .int 0]))] sz) := by
  refine Met.ofW (cc := prog_6_method_1_code) (maxL := 1) (ret := none) (by decide) rfl ?_
  intro p e s mt args below meth c s₁ B hml hv
  obtain ⟨rfl, hsz, hP, hK, hD0, hnw, hao⟩ := hv
  have hx := B.exec
  have hb := B.bytes
  have hr := B.returns
  have htb : ∀ w ∈ bp_tb, w.before _ s = true := fun w hw => atoms_spec (ws := Cond.code y_i_PA prog_6_method_1_code 1 none :: bp_tb) B.pre w (List.mem_cons_of_mem _ hw)
  have hown : s.vm.findClass "BlockPictures$Parameters" = some mt.cls := findClass_of_methodNamed B.named
  have hlocks := B.notSynchronized
  have hin : meth.name = "<init>" := (name_of_methodNamed B.named B.method).1
  subst hsz
  have hD := hD0.self (sz := s.heap.size)
  generalize hAe : va_A [(h0, .inr (2, [.int 0, .int 0, .int 0, .int 0, .int 0, .int 0]))] s.heap.size = A at hD ⊢
  have hA : ∀ q : Nat, s.heap.size ≤ q → A q := fun q h => by rw [← hAe]; exact Or.inr h
  have hS : va_S A s.heap s.heap [] := va_S.rf
  have hl := lv_entry ([.ref h0]) (n := 1) (Nat.le_of_ble_eq_true rfl)
  rw [lg_entry_eq]
  generalize (lg_sl ([.ref h0]) ++ List.replicate (1 - (lg_sl ([.ref h0])).length) Slot.unset).toArray = ls at hl ⊢
  have hl : lv_has ls 1 [(0, .ref h0)] := hl
  refine lv_aload_n hx hb (dt_i_PA 0 rfl) rfl (lv_at hl 0 rfl) ?_
  refine W.objInit hx hb hown (htb _ tw_126) (htb _ tw_90) (htb _ tw_91) rfl (by rw [hml]; exact hl.1) rfl (dt_i_PA 1 rfl) (Nat.le_of_ble_eq_true rfl) (Nat.le_of_ble_eq_true rfl) ?_
  refine W.eq (g2 := F0 mt 4 ls []) rfl ?_
  refine W.widen (k := 0) (n := 0) (Nat.le_of_ble_eq_true rfl) (Nat.le_of_ble_eq_true rfl) ?_
  exact W.vret hx hb hr (fun t ht hW => ⟨⟨(fun j => [].getD j 0), rfl, trivial, by rw [ht]; exact hP, va_K.moved hW.alike hK, hD⟩, hS.F ht⟩) hS.2.2 (dt_i_PA 2 rfl)
abbrev y_i_BR : MethodName := ⟨"BlockPictures$BitReader", "<init>", "()V"⟩
def tb_i_BR : List (Nat × Instr × Nat) := [(0, .aload_n 0, 1), (1, .invokespecial 5, 3), (4, .aload_n 0, 1), (5, .sipush 320, 3), (8, .newarray .int, 2), (10, .putfield 13, 3), (13, .return_, 1)]
theorem tb_i_BR_ok : ∀ q ∈ tb_i_BR, decode prog_2_method_1_code q.1 = .ok q.2 := by decide +kernel
theorem dt_i_BR (k : Nat) {pc n : Nat} {i : Instr} (h : tb_i_BR[k]? = some (pc, i, n)) : decode prog_2_method_1_code pc = .ok (i, n) := tb_i_BR_ok (pc, i, n) (List.mem_of_getElem? h)
theorem hd_i_BR : (y_i_BR).cls ≠ "java/lang/invoke/MethodHandle" ∧ (y_i_BR).cls ≠ "java/lang/invoke/VarHandle" ∧ (parseMethodDescriptor (y_i_BR).desc).map (fun d => d.parameters.length) = some 0 := by decide +kernel
abbrev ic_BR (E : bc_E) (h0 : Nat) (f : Nat → Nat) : va_W := [(h0, .inr (6, [.ref (f 0), .int 0, .int 0, .int 0])), ((f 0), .inl (E.2.2.1, 320, .inl (fun _ => 0)))]
set_option maxHeartbeats 4000000 in
set_option maxRecDepth 100000 in
theorem i_BR (l : Launch) (E : bc_E) (h0 : Nat) (sz : Nat) : Met l y_i_BR (Cond.code y_i_BR prog_2_method_1_code 1 none :: bp_tb) ({ frames := 1, cells := 1, slots := 320, locals := 12 }) (ic_Pc E h0 (.inr (6, [.null, .int 0, .int 0, .int 0])) sz) (va_Qv (fun _ : Nat → Nat => True) (fun f t => va_P E.1 bp_cl (ic_BR E h0 f) t.heap ∧ va_K E.1 bp_cl (bc_ty E) t ∧ va_D (va_A [(h0, .inr (6, [.null, .int 0, .int 0, .int 0]))] sz) (ic_BR E h0 f)) (va_A [(h0, .inr (6, [.null, .int 0, .int 0, .int 0]))] sz)) 1 320 (va_A [(h0, .inr (6, [.null, .int 0, .int 0, .int 0]))] sz) := by
  refine Met.ofW (cc := prog_2_method_1_code) (maxL := 1) (ret := none) (by decide) rfl ?_
  intro p e s mt args below meth c s₁ B hml hv
  obtain ⟨rfl, hsz, hP, hK, hD0, hnw, hao⟩ := hv
  have hx := B.exec
  have hb := B.bytes
  have hr := B.returns
  have htb : ∀ w ∈ bp_tb, w.before _ s = true := fun w hw => atoms_spec (ws := Cond.code y_i_BR prog_2_method_1_code 1 none :: bp_tb) B.pre w (List.mem_cons_of_mem _ hw)
  have hown : s.vm.findClass "BlockPictures$BitReader" = some mt.cls := findClass_of_methodNamed B.named
  have hlocks := B.notSynchronized
  have hin : meth.name = "<init>" := (name_of_methodNamed B.named B.method).1
  subst hsz
  have hD := hD0.self (sz := s.heap.size)
  generalize hAe : va_A [(h0, .inr (6, [.null, .int 0, .int 0, .int 0]))] s.heap.size = A at hD ⊢
  have hA : ∀ q : Nat, s.heap.size ≤ q → A q := fun q h => by rw [← hAe]; exact Or.inr h
  have hS : va_S A s.heap s.heap [] := va_S.rf
  have hl := lv_entry ([.ref h0]) (n := 1) (Nat.le_of_ble_eq_true rfl)
  rw [lg_entry_eq]
  generalize (lg_sl ([.ref h0]) ++ List.replicate (1 - (lg_sl ([.ref h0])).length) Slot.unset).toArray = ls at hl ⊢
  have hl : lv_has ls 1 [(0, .ref h0)] := hl
  refine lv_aload_n hx hb (dt_i_BR 0 rfl) rfl (lv_at hl 0 rfl) ?_
  refine W.objInit hx hb hown (htb _ tw_160) (htb _ tw_90) (htb _ tw_91) rfl (by rw [hml]; exact hl.1) rfl (dt_i_BR 1 rfl) (Nat.le_of_ble_eq_true rfl) (Nat.le_of_ble_eq_true rfl) ?_
  refine W.eq (g2 := F0 mt 4 ls []) rfl ?_
  refine lv_aload_n hx hb (dt_i_BR 2 rfl) rfl (lv_at hl 0 rfl) ?_
  refine lv_sipush (v := 320) hx hb (dt_i_BR 3 rfl) (by decide) ?_
  refine bp_newa (atype := .int) (ty := .int) (a0 := (320, .inl (fun _ => 0))) hx hb (htb _ tw_120) rfl (Or.inl rfl) hK hP hD hS hA 0 rfl (fun _ => rfl) (by decide) (by decide) (Nat.le_of_ble_eq_true rfl) (Nat.le_of_ble_eq_true rfl) (Nat.le_of_ble_eq_true rfl) (dt_i_BR 4 rfl) (fun q1 H hP hD hS => ?_)
  have hP : va_P E.1 bp_cl [(h0, .inr (6, [.null, .int 0, .int 0, .int 0])), (q1, .inl (E.2.2.1, 320, .inl (fun _ => 0)))] H := hP
  have hD : va_D A [(h0, .inr (6, [.null, .int 0, .int 0, .int 0])), (q1, .inl (E.2.2.1, 320, .inl (fun _ => 0)))] := hD
  refine W.widen (k := 1) (n := 320) (Nat.le_of_ble_eq_true rfl) (Nat.le_of_ble_eq_true rfl) ?_
  refine va_putF (D := E.1) (ci := 6) (v := .ref q1) (ty := .array .int) (C := "BlockPictures$BitReader") (T := bF_BR) (N := 4) hx hb htb bc_in_BR bt_BR bt_BR_ok bn_BR hown hK hP hD hS 0 rfl rfl 0 (by decide) (htb _ tw_161) (fun _ h9 => h9) rfl hin rfl (by decide +kernel) rfl rfl (Nat.le_of_ble_eq_true rfl) (dt_i_BR 5 rfl) (fun H locs hP hD hS => ?_)
  have hP : va_P E.1 bp_cl [(h0, .inr (6, [.ref q1, .int 0, .int 0, .int 0])), (q1, .inl (E.2.2.1, 320, .inl (fun _ => 0)))] H := hP
  have hD : va_D A [(h0, .inr (6, [.ref q1, .int 0, .int 0, .int 0])), (q1, .inl (E.2.2.1, 320, .inl (fun _ => 0)))] := hD
  refine W.widen (k := 1) (n := 320) (Nat.le_of_ble_eq_true rfl) (Nat.le_of_ble_eq_true rfl) ?_
  exact W.vret hx hb hr (fun t ht hW => ⟨⟨(fun j => [q1].getD j 0), rfl, trivial, by rw [ht]; exact hP, va_K.moved hW.alike hK, hD⟩, hS.F ht⟩) hS.2.2 (dt_i_BR 6 rfl)
abbrev y_i_PI : MethodName := ⟨"BlockPictures$Picture", "<init>", "()V"⟩
def tb_i_PI : List (Nat × Instr × Nat) := [(0, .aload_n 0, 1), (1, .invokespecial 3, 3), (4, .aload_n 0, 1), (5, .sipush 256, 3), (8, .newarray .int, 2), (10, .putfield 9, 3), (13, .return_, 1)]
theorem tb_i_PI_ok : ∀ q ∈ tb_i_PI, decode prog_7_method_1_code q.1 = .ok q.2 := by decide +kernel
theorem dt_i_PI (k : Nat) {pc n : Nat} {i : Instr} (h : tb_i_PI[k]? = some (pc, i, n)) : decode prog_7_method_1_code pc = .ok (i, n) := tb_i_PI_ok (pc, i, n) (List.mem_of_getElem? h)
theorem hd_i_PI : (y_i_PI).cls ≠ "java/lang/invoke/MethodHandle" ∧ (y_i_PI).cls ≠ "java/lang/invoke/VarHandle" ∧ (parseMethodDescriptor (y_i_PI).desc).map (fun d => d.parameters.length) = some 0 := by decide +kernel
abbrev ic_PI (E : bc_E) (h0 : Nat) (f : Nat → Nat) : va_W := [(h0, .inr (9, [.ref (f 0), .int 0, .int 0, .int 0])), ((f 0), .inl (E.2.2.1, 256, .inl (fun _ => 0)))]
set_option maxHeartbeats 4000000 in
set_option maxRecDepth 100000 in
theorem i_PI (l : Launch) (E : bc_E) (h0 : Nat) (sz : Nat) : Met l y_i_PI (Cond.code y_i_PI prog_7_method_1_code 1 none :: bp_tb) ({ frames := 1, cells := 1, slots := 256, locals := 12 }) (ic_Pc E h0 (.inr (9, [.null, .int 0, .int 0, .int 0])) sz) (va_Qv (fun _ : Nat → Nat => True) (fun f t => va_P E.1 bp_cl (ic_PI E h0 f) t.heap ∧ va_K E.1 bp_cl (bc_ty E) t ∧ va_D (va_A [(h0, .inr (9, [.null, .int 0, .int 0, .int 0]))] sz) (ic_PI E h0 f)) (va_A [(h0, .inr (9, [.null, .int 0, .int 0, .int 0]))] sz)) 1 256 (va_A [(h0, .inr (9, [.null, .int 0, .int 0, .int 0]))] sz) := by
  refine Met.ofW (cc := prog_7_method_1_code) (maxL := 1) (ret := none) (by decide) rfl ?_
  intro p e s mt args below meth c s₁ B hml hv
  obtain ⟨rfl, hsz, hP, hK, hD0, hnw, hao⟩ := hv
  have hx := B.exec
  have hb := B.bytes
  have hr := B.returns
  have htb : ∀ w ∈ bp_tb, w.before _ s = true := fun w hw => atoms_spec (ws := Cond.code y_i_PI prog_7_method_1_code 1 none :: bp_tb) B.pre w (List.mem_cons_of_mem _ hw)
  have hown : s.vm.findClass "BlockPictures$Picture" = some mt.cls := findClass_of_methodNamed B.named
  have hlocks := B.notSynchronized
  have hin : meth.name = "<init>" := (name_of_methodNamed B.named B.method).1
  subst hsz
  have hD := hD0.self (sz := s.heap.size)
  generalize hAe : va_A [(h0, .inr (9, [.null, .int 0, .int 0, .int 0]))] s.heap.size = A at hD ⊢
  have hA : ∀ q : Nat, s.heap.size ≤ q → A q := fun q h => by rw [← hAe]; exact Or.inr h
  have hS : va_S A s.heap s.heap [] := va_S.rf
  have hl := lv_entry ([.ref h0]) (n := 1) (Nat.le_of_ble_eq_true rfl)
  rw [lg_entry_eq]
  generalize (lg_sl ([.ref h0]) ++ List.replicate (1 - (lg_sl ([.ref h0])).length) Slot.unset).toArray = ls at hl ⊢
  have hl : lv_has ls 1 [(0, .ref h0)] := hl
  refine lv_aload_n hx hb (dt_i_PI 0 rfl) rfl (lv_at hl 0 rfl) ?_
  refine W.objInit hx hb hown (htb _ tw_182) (htb _ tw_90) (htb _ tw_91) rfl (by rw [hml]; exact hl.1) rfl (dt_i_PI 1 rfl) (Nat.le_of_ble_eq_true rfl) (Nat.le_of_ble_eq_true rfl) ?_
  refine W.eq (g2 := F0 mt 4 ls []) rfl ?_
  refine lv_aload_n hx hb (dt_i_PI 2 rfl) rfl (lv_at hl 0 rfl) ?_
  refine lv_sipush (v := 256) hx hb (dt_i_PI 3 rfl) (by decide) ?_
  refine bp_newa (atype := .int) (ty := .int) (a0 := (256, .inl (fun _ => 0))) hx hb (htb _ tw_120) rfl (Or.inl rfl) hK hP hD hS hA 0 rfl (fun _ => rfl) (by decide) (by decide) (Nat.le_of_ble_eq_true rfl) (Nat.le_of_ble_eq_true rfl) (Nat.le_of_ble_eq_true rfl) (dt_i_PI 4 rfl) (fun q1 H hP hD hS => ?_)
  have hP : va_P E.1 bp_cl [(h0, .inr (9, [.null, .int 0, .int 0, .int 0])), (q1, .inl (E.2.2.1, 256, .inl (fun _ => 0)))] H := hP
  have hD : va_D A [(h0, .inr (9, [.null, .int 0, .int 0, .int 0])), (q1, .inl (E.2.2.1, 256, .inl (fun _ => 0)))] := hD
  refine W.widen (k := 1) (n := 256) (Nat.le_of_ble_eq_true rfl) (Nat.le_of_ble_eq_true rfl) ?_
  refine va_putF (D := E.1) (ci := 9) (v := .ref q1) (ty := .array .int) (C := "BlockPictures$Picture") (T := bF_PI) (N := 4) hx hb htb bc_in_PI bt_PI bt_PI_ok bn_PI hown hK hP hD hS 0 rfl rfl 0 (by decide) (htb _ tw_183) (fun _ h9 => h9) rfl hin rfl (by decide +kernel) rfl rfl (Nat.le_of_ble_eq_true rfl) (dt_i_PI 5 rfl) (fun H locs hP hD hS => ?_)
  have hP : va_P E.1 bp_cl [(h0, .inr (9, [.ref q1, .int 0, .int 0, .int 0])), (q1, .inl (E.2.2.1, 256, .inl (fun _ => 0)))] H := hP
  have hD : va_D A [(h0, .inr (9, [.ref q1, .int 0, .int 0, .int 0])), (q1, .inl (E.2.2.1, 256, .inl (fun _ => 0)))] := hD
  refine W.widen (k := 1) (n := 256) (Nat.le_of_ble_eq_true rfl) (Nat.le_of_ble_eq_true rfl) ?_
  exact W.vret hx hb hr (fun t ht hW => ⟨⟨(fun j => [q1].getD j 0), rfl, trivial, by rw [ht]; exact hP, va_K.moved hW.alike hK, hD⟩, hS.F ht⟩) hS.2.2 (dt_i_PI 6 rfl)
abbrev y_i_RO : MethodName := ⟨"BlockPictures$BlockRows", "<init>", "()V"⟩
def tb_i_RO : List (Nat × Instr × Nat) := [(0, .aload_n 0, 1), (1, .invokespecial 3, 3), (4, .aload_n 0, 1), (5, .bipush 16, 2), (7, .newarray .boolean, 2), (9, .putfield 9, 3), (12, .aload_n 0, 1), (13, .bipush 16, 2), (15, .newarray .boolean, 2), (17, .putfield 15, 3), (20, .aload_n 0, 1), (21, .bipush 16, 2), (23, .newarray .int, 2), (25, .putfield 18, 3), (28, .aload_n 0, 1), (29, .bipush 16, 2), (31, .newarray .int, 2), (33, .putfield 22, 3), (36, .aload_n 0, 1), (37, .bipush 16, 2), (39, .newarray .int, 2), (41, .putfield 25, 3), (44, .return_, 1)]
theorem tb_i_RO_ok : ∀ q ∈ tb_i_RO, decode prog_3_method_1_code q.1 = .ok q.2 := by decide +kernel
theorem dt_i_RO (k : Nat) {pc n : Nat} {i : Instr} (h : tb_i_RO[k]? = some (pc, i, n)) : decode prog_3_method_1_code pc = .ok (i, n) := tb_i_RO_ok (pc, i, n) (List.mem_of_getElem? h)
theorem hd_i_RO : (y_i_RO).cls ≠ "java/lang/invoke/MethodHandle" ∧ (y_i_RO).cls ≠ "java/lang/invoke/VarHandle" ∧ (parseMethodDescriptor (y_i_RO).desc).map (fun d => d.parameters.length) = some 0 := by decide +kernel
abbrev ic_RO (E : bc_E) (h0 : Nat) (f : Nat → Nat) : va_W := [(h0, .inr (8, [.ref (f 0), .ref (f 1), .ref (f 2), .ref (f 3), .ref (f 4), .int 0])), ((f 0), .inl (E.2.2.2.1, 16, .inl (fun _ => 0))), ((f 1), .inl (E.2.2.2.1, 16, .inl (fun _ => 0))), ((f 2), .inl (E.2.2.1, 16, .inl (fun _ => 0))), ((f 3), .inl (E.2.2.1, 16, .inl (fun _ => 0))), ((f 4), .inl (E.2.2.1, 16, .inl (fun _ => 0)))]
set_option maxHeartbeats 4000000 in
set_option maxRecDepth 100000 in
theorem i_RO (l : Launch) (E : bc_E) (h0 : Nat) (sz : Nat) : Met l y_i_RO (Cond.code y_i_RO prog_3_method_1_code 1 none :: bp_tb) ({ frames := 1, cells := 5, slots := 80, locals := 12 }) (ic_Pc E h0 (.inr (8, [.null, .null, .null, .null, .null, .int 0])) sz) (va_Qv (fun _ : Nat → Nat => True) (fun f t => va_P E.1 bp_cl (ic_RO E h0 f) t.heap ∧ va_K E.1 bp_cl (bc_ty E) t ∧ va_D (va_A [(h0, .inr (8, [.null, .null, .null, .null, .null, .int 0]))] sz) (ic_RO E h0 f)) (va_A [(h0, .inr (8, [.null, .null, .null, .null, .null, .int 0]))] sz)) 5 80 (va_A [(h0, .inr (8, [.null, .null, .null, .null, .null, .int 0]))] sz) := by
  refine Met.ofW (cc := prog_3_method_1_code) (maxL := 1) (ret := none) (by decide) rfl ?_
  intro p e s mt args below meth c s₁ B hml hv
  obtain ⟨rfl, hsz, hP, hK, hD0, hnw, hao⟩ := hv
  have hx := B.exec
  have hb := B.bytes
  have hr := B.returns
  have htb : ∀ w ∈ bp_tb, w.before _ s = true := fun w hw => atoms_spec (ws := Cond.code y_i_RO prog_3_method_1_code 1 none :: bp_tb) B.pre w (List.mem_cons_of_mem _ hw)
  have hown : s.vm.findClass "BlockPictures$BlockRows" = some mt.cls := findClass_of_methodNamed B.named
  have hlocks := B.notSynchronized
  have hin : meth.name = "<init>" := (name_of_methodNamed B.named B.method).1
  subst hsz
  have hD := hD0.self (sz := s.heap.size)
  generalize hAe : va_A [(h0, .inr (8, [.null, .null, .null, .null, .null, .int 0]))] s.heap.size = A at hD ⊢
  have hA : ∀ q : Nat, s.heap.size ≤ q → A q := fun q h => by rw [← hAe]; exact Or.inr h
  have hS : va_S A s.heap s.heap [] := va_S.rf
  have hl := lv_entry ([.ref h0]) (n := 1) (Nat.le_of_ble_eq_true rfl)
  rw [lg_entry_eq]
  generalize (lg_sl ([.ref h0]) ++ List.replicate (1 - (lg_sl ([.ref h0])).length) Slot.unset).toArray = ls at hl ⊢
  have hl : lv_has ls 1 [(0, .ref h0)] := hl
  refine lv_aload_n hx hb (dt_i_RO 0 rfl) rfl (lv_at hl 0 rfl) ?_
  refine W.objInit hx hb hown (htb _ tw_214) (htb _ tw_90) (htb _ tw_91) rfl (by rw [hml]; exact hl.1) rfl (dt_i_RO 1 rfl) (Nat.le_of_ble_eq_true rfl) (Nat.le_of_ble_eq_true rfl) ?_
  refine W.eq (g2 := F0 mt 4 ls []) rfl ?_
  refine lv_aload_n hx hb (dt_i_RO 2 rfl) rfl (lv_at hl 0 rfl) ?_
  refine lv_bipush (v := 16) hx hb (dt_i_RO 3 rfl) (by decide) ?_
  refine bp_newa (atype := .boolean) (ty := .boolean) (a0 := (16, .inl (fun _ => 0))) hx hb (htb _ tw_244) rfl (Or.inr (Or.inl rfl)) hK hP hD hS hA 1 rfl (fun _ => rfl) (by decide) (by decide) (Nat.le_of_ble_eq_true rfl) (Nat.le_of_ble_eq_true rfl) (Nat.le_of_ble_eq_true rfl) (dt_i_RO 4 rfl) (fun q1 H hP hD hS => ?_)
  have hP : va_P E.1 bp_cl [(h0, .inr (8, [.null, .null, .null, .null, .null, .int 0])), (q1, .inl (E.2.2.2.1, 16, .inl (fun _ => 0)))] H := hP
  have hD : va_D A [(h0, .inr (8, [.null, .null, .null, .null, .null, .int 0])), (q1, .inl (E.2.2.2.1, 16, .inl (fun _ => 0)))] := hD
  refine W.widen (k := 1) (n := 16) (Nat.le_of_ble_eq_true rfl) (Nat.le_of_ble_eq_true rfl) ?_
  refine va_putF (D := E.1) (ci := 8) (v := .ref q1) (ty := .array .boolean) (C := "BlockPictures$BlockRows") (T := bF_RO) (N := 6) hx hb htb bc_in_RO bt_RO bt_RO_ok bn_RO hown hK hP hD hS 0 rfl rfl 0 (by decide) (htb _ tw_215) (fun _ h9 => h9) rfl hin rfl (by decide +kernel) rfl rfl (Nat.le_of_ble_eq_true rfl) (dt_i_RO 5 rfl) (fun H locs hP hD hS => ?_)
  have hP : va_P E.1 bp_cl [(h0, .inr (8, [.ref q1, .null, .null, .null, .null, .int 0])), (q1, .inl (E.2.2.2.1, 16, .inl (fun _ => 0)))] H := hP
  have hD : va_D A [(h0, .inr (8, [.ref q1, .null, .null, .null, .null, .int 0])), (q1, .inl (E.2.2.2.1, 16, .inl (fun _ => 0)))] := hD
  refine lv_aload_n hx hb (dt_i_RO 6 rfl) rfl (lv_at hl 0 rfl) ?_
  refine lv_bipush (v := 16) hx hb (dt_i_RO 7 rfl) (by decide) ?_
  refine bp_newa (atype := .boolean) (ty := .boolean) (a0 := (16, .inl (fun _ => 0))) hx hb (htb _ tw_244) rfl (Or.inr (Or.inl rfl)) hK hP hD hS hA 1 rfl (fun _ => rfl) (by decide) (by decide) (Nat.le_of_ble_eq_true rfl) (Nat.le_of_ble_eq_true rfl) (Nat.le_of_ble_eq_true rfl) (dt_i_RO 8 rfl) (fun q2 H hP hD hS => ?_)
  have hP : va_P E.1 bp_cl [(h0, .inr (8, [.ref q1, .null, .null, .null, .null, .int 0])), (q1, .inl (E.2.2.2.1, 16, .inl (fun _ => 0))), (q2, .inl (E.2.2.2.1, 16, .inl (fun _ => 0)))] H := hP
  have hD : va_D A [(h0, .inr (8, [.ref q1, .null, .null, .null, .null, .int 0])), (q1, .inl (E.2.2.2.1, 16, .inl (fun _ => 0))), (q2, .inl (E.2.2.2.1, 16, .inl (fun _ => 0)))] := hD
  refine W.widen (k := 2) (n := 32) (Nat.le_of_ble_eq_true rfl) (Nat.le_of_ble_eq_true rfl) ?_
  refine va_putF (D := E.1) (ci := 8) (v := .ref q2) (ty := .array .boolean) (C := "BlockPictures$BlockRows") (T := bF_RO) (N := 6) hx hb htb bc_in_RO bt_RO bt_RO_ok bn_RO hown hK hP hD hS 0 rfl rfl 1 (by decide) (htb _ tw_218) (fun _ h9 => h9) rfl hin rfl (by decide +kernel) rfl rfl (Nat.le_of_ble_eq_true rfl) (dt_i_RO 9 rfl) (fun H locs hP hD hS => ?_)
  have hP : va_P E.1 bp_cl [(h0, .inr (8, [.ref q1, .ref q2, .null, .null, .null, .int 0])), (q1, .inl (E.2.2.2.1, 16, .inl (fun _ => 0))), (q2, .inl (E.2.2.2.1, 16, .inl (fun _ => 0)))] H := hP
  have hD : va_D A [(h0, .inr (8, [.ref q1, .ref q2, .null, .null, .null, .int 0])), (q1, .inl (E.2.2.2.1, 16, .inl (fun _ => 0))), (q2, .inl (E.2.2.2.1, 16, .inl (fun _ => 0)))] := hD
  refine lv_aload_n hx hb (dt_i_RO 10 rfl) rfl (lv_at hl 0 rfl) ?_
  refine lv_bipush (v := 16) hx hb (dt_i_RO 11 rfl) (by decide) ?_
  refine bp_newa (atype := .int) (ty := .int) (a0 := (16, .inl (fun _ => 0))) hx hb (htb _ tw_120) rfl (Or.inl rfl) hK hP hD hS hA 0 rfl (fun _ => rfl) (by decide) (by decide) (Nat.le_of_ble_eq_true rfl) (Nat.le_of_ble_eq_true rfl) (Nat.le_of_ble_eq_true rfl) (dt_i_RO 12 rfl) (fun q3 H hP hD hS => ?_)
  have hP : va_P E.1 bp_cl [(h0, .inr (8, [.ref q1, .ref q2, .null, .null, .null, .int 0])), (q1, .inl (E.2.2.2.1, 16, .inl (fun _ => 0))), (q2, .inl (E.2.2.2.1, 16, .inl (fun _ => 0))), (q3, .inl (E.2.2.1, 16, .inl (fun _ => 0)))] H := hP
  have hD : va_D A [(h0, .inr (8, [.ref q1, .ref q2, .null, .null, .null, .int 0])), (q1, .inl (E.2.2.2.1, 16, .inl (fun _ => 0))), (q2, .inl (E.2.2.2.1, 16, .inl (fun _ => 0))), (q3, .inl (E.2.2.1, 16, .inl (fun _ => 0)))] := hD
  refine W.widen (k := 3) (n := 48) (Nat.le_of_ble_eq_true rfl) (Nat.le_of_ble_eq_true rfl) ?_
  refine va_putF (D := E.1) (ci := 8) (v := .ref q3) (ty := .array .int) (C := "BlockPictures$BlockRows") (T := bF_RO) (N := 6) hx hb htb bc_in_RO bt_RO bt_RO_ok bn_RO hown hK hP hD hS 0 rfl rfl 2 (by decide) (htb _ tw_220) (fun _ h9 => h9) rfl hin rfl (by decide +kernel) rfl rfl (Nat.le_of_ble_eq_true rfl) (dt_i_RO 13 rfl) (fun H locs hP hD hS => ?_)
  have hP : va_P E.1 bp_cl [(h0, .inr (8, [.ref q1, .ref q2, .ref q3, .null, .null, .int 0])), (q1, .inl (E.2.2.2.1, 16, .inl (fun _ => 0))), (q2, .inl (E.2.2.2.1, 16, .inl (fun _ => 0))), (q3, .inl (E.2.2.1, 16, .inl (fun _ => 0)))] H := hP
  have hD : va_D A [(h0, .inr (8, [.ref q1, .ref q2, .ref q3, .null, .null, .int 0])), (q1, .inl (E.2.2.2.1, 16, .inl (fun _ => 0))), (q2, .inl (E.2.2.2.1, 16, .inl (fun _ => 0))), (q3, .inl (E.2.2.1, 16, .inl (fun _ => 0)))] := hD
  refine lv_aload_n hx hb (dt_i_RO 14 rfl) rfl (lv_at hl 0 rfl) ?_
  refine lv_bipush (v := 16) hx hb (dt_i_RO 15 rfl) (by decide) ?_
  refine bp_newa (atype := .int) (ty := .int) (a0 := (16, .inl (fun _ => 0))) hx hb (htb _ tw_120) rfl (Or.inl rfl) hK hP hD hS hA 0 rfl (fun _ => rfl) (by decide) (by decide) (Nat.le_of_ble_eq_true rfl) (Nat.le_of_ble_eq_true rfl) (Nat.le_of_ble_eq_true rfl) (dt_i_RO 16 rfl) (fun q4 H hP hD hS => ?_)
  have hP : va_P E.1 bp_cl [(h0, .inr (8, [.ref q1, .ref q2, .ref q3, .null, .null, .int 0])), (q1, .inl (E.2.2.2.1, 16, .inl (fun _ => 0))), (q2, .inl (E.2.2.2.1, 16, .inl (fun _ => 0))), (q3, .inl (E.2.2.1, 16, .inl (fun _ => 0))), (q4, .inl (E.2.2.1, 16, .inl (fun _ => 0)))] H := hP
  have hD : va_D A [(h0, .inr (8, [.ref q1, .ref q2, .ref q3, .null, .null, .int 0])), (q1, .inl (E.2.2.2.1, 16, .inl (fun _ => 0))), (q2, .inl (E.2.2.2.1, 16, .inl (fun _ => 0))), (q3, .inl (E.2.2.1, 16, .inl (fun _ => 0))), (q4, .inl (E.2.2.1, 16, .inl (fun _ => 0)))] := hD
  refine W.widen (k := 4) (n := 64) (Nat.le_of_ble_eq_true rfl) (Nat.le_of_ble_eq_true rfl) ?_
  refine va_putF (D := E.1) (ci := 8) (v := .ref q4) (ty := .array .int) (C := "BlockPictures$BlockRows") (T := bF_RO) (N := 6) hx hb htb bc_in_RO bt_RO bt_RO_ok bn_RO hown hK hP hD hS 0 rfl rfl 3 (by decide) (htb _ tw_222) (fun _ h9 => h9) rfl hin rfl (by decide +kernel) rfl rfl (Nat.le_of_ble_eq_true rfl) (dt_i_RO 17 rfl) (fun H locs hP hD hS => ?_)
  have hP : va_P E.1 bp_cl [(h0, .inr (8, [.ref q1, .ref q2, .ref q3, .ref q4, .null, .int 0])), (q1, .inl (E.2.2.2.1, 16, .inl (fun _ => 0))), (q2, .inl (E.2.2.2.1, 16, .inl (fun _ => 0))), (q3, .inl (E.2.2.1, 16, .inl (fun _ => 0))), (q4, .inl (E.2.2.1, 16, .inl (fun _ => 0)))] H := hP
  have hD : va_D A [(h0, .inr (8, [.ref q1, .ref q2, .ref q3, .ref q4, .null, .int 0])), (q1, .inl (E.2.2.2.1, 16, .inl (fun _ => 0))), (q2, .inl (E.2.2.2.1, 16, .inl (fun _ => 0))), (q3, .inl (E.2.2.1, 16, .inl (fun _ => 0))), (q4, .inl (E.2.2.1, 16, .inl (fun _ => 0)))] := hD
  refine lv_aload_n hx hb (dt_i_RO 18 rfl) rfl (lv_at hl 0 rfl) ?_
  refine lv_bipush (v := 16) hx hb (dt_i_RO 19 rfl) (by decide) ?_
  refine bp_newa (atype := .int) (ty := .int) (a0 := (16, .inl (fun _ => 0))) hx hb (htb _ tw_120) rfl (Or.inl rfl) hK hP hD hS hA 0 rfl (fun _ => rfl) (by decide) (by decide) (Nat.le_of_ble_eq_true rfl) (Nat.le_of_ble_eq_true rfl) (Nat.le_of_ble_eq_true rfl) (dt_i_RO 20 rfl) (fun q5 H hP hD hS => ?_)
  have hP : va_P E.1 bp_cl [(h0, .inr (8, [.ref q1, .ref q2, .ref q3, .ref q4, .null, .int 0])), (q1, .inl (E.2.2.2.1, 16, .inl (fun _ => 0))), (q2, .inl (E.2.2.2.1, 16, .inl (fun _ => 0))), (q3, .inl (E.2.2.1, 16, .inl (fun _ => 0))), (q4, .inl (E.2.2.1, 16, .inl (fun _ => 0))), (q5, .inl (E.2.2.1, 16, .inl (fun _ => 0)))] H := hP
  have hD : va_D A [(h0, .inr (8, [.ref q1, .ref q2, .ref q3, .ref q4, .null, .int 0])), (q1, .inl (E.2.2.2.1, 16, .inl (fun _ => 0))), (q2, .inl (E.2.2.2.1, 16, .inl (fun _ => 0))), (q3, .inl (E.2.2.1, 16, .inl (fun _ => 0))), (q4, .inl (E.2.2.1, 16, .inl (fun _ => 0))), (q5, .inl (E.2.2.1, 16, .inl (fun _ => 0)))] := hD
  refine W.widen (k := 5) (n := 80) (Nat.le_of_ble_eq_true rfl) (Nat.le_of_ble_eq_true rfl) ?_
  refine va_putF (D := E.1) (ci := 8) (v := .ref q5) (ty := .array .int) (C := "BlockPictures$BlockRows") (T := bF_RO) (N := 6) hx hb htb bc_in_RO bt_RO bt_RO_ok bn_RO hown hK hP hD hS 0 rfl rfl 4 (by decide) (htb _ tw_225) (fun _ h9 => h9) rfl hin rfl (by decide +kernel) rfl rfl (Nat.le_of_ble_eq_true rfl) (dt_i_RO 21 rfl) (fun H locs hP hD hS => ?_)
  have hP : va_P E.1 bp_cl [(h0, .inr (8, [.ref q1, .ref q2, .ref q3, .ref q4, .ref q5, .int 0])), (q1, .inl (E.2.2.2.1, 16, .inl (fun _ => 0))), (q2, .inl (E.2.2.2.1, 16, .inl (fun _ => 0))), (q3, .inl (E.2.2.1, 16, .inl (fun _ => 0))), (q4, .inl (E.2.2.1, 16, .inl (fun _ => 0))), (q5, .inl (E.2.2.1, 16, .inl (fun _ => 0)))] H := hP
  have hD : va_D A [(h0, .inr (8, [.ref q1, .ref q2, .ref q3, .ref q4, .ref q5, .int 0])), (q1, .inl (E.2.2.2.1, 16, .inl (fun _ => 0))), (q2, .inl (E.2.2.2.1, 16, .inl (fun _ => 0))), (q3, .inl (E.2.2.1, 16, .inl (fun _ => 0))), (q4, .inl (E.2.2.1, 16, .inl (fun _ => 0))), (q5, .inl (E.2.2.1, 16, .inl (fun _ => 0)))] := hD
  refine W.widen (k := 5) (n := 80) (Nat.le_of_ble_eq_true rfl) (Nat.le_of_ble_eq_true rfl) ?_
  exact W.vret hx hb hr (fun t ht hW => ⟨⟨(fun j => [q1, q2, q3, q4, q5].getD j 0), rfl, trivial, by rw [ht]; exact hP, va_K.moved hW.alike hK, hD⟩, hS.F ht⟩) hS.2.2 (dt_i_RO 22 rfl)
abbrev y_i_MO : MethodName := ⟨"BlockPictures$Motion", "<init>", "()V"⟩
def tb_i_MO : List (Nat × Instr × Nat) := [(0, .aload_n 0, 1), (1, .invokespecial 3, 3), (4, .aload_n 0, 1), (5, .bipush 81, 2), (7, .newarray .int, 2), (9, .putfield 11, 3), (12, .aload_n 0, 1), (13, .bipush 36, 2), (15, .newarray .int, 2), (17, .putfield 15, 3), (20, .return_, 1)]
theorem tb_i_MO_ok : ∀ q ∈ tb_i_MO, decode prog_5_method_1_code q.1 = .ok q.2 := by decide +kernel
theorem dt_i_MO (k : Nat) {pc n : Nat} {i : Instr} (h : tb_i_MO[k]? = some (pc, i, n)) : decode prog_5_method_1_code pc = .ok (i, n) := tb_i_MO_ok (pc, i, n) (List.mem_of_getElem? h)
theorem hd_i_MO : (y_i_MO).cls ≠ "java/lang/invoke/MethodHandle" ∧ (y_i_MO).cls ≠ "java/lang/invoke/VarHandle" ∧ (parseMethodDescriptor (y_i_MO).desc).map (fun d => d.parameters.length) = some 0 := by decide +kernel
abbrev ic_MO (E : bc_E) (h0 : Nat) (f : Nat → Nat) : va_W := [(h0, .inr (7, [.ref (f 0), .ref (f 1)])), ((f 0), .inl (E.2.2.1, 81, .inl (fun _ => 0))), ((f 1), .inl (E.2.2.1, 36, .inl (fun _ => 0)))]
set_option maxHeartbeats 4000000 in
set_option maxRecDepth 100000 in
theorem i_MO (l : Launch) (E : bc_E) (h0 : Nat) (sz : Nat) : Met l y_i_MO (Cond.code y_i_MO prog_5_method_1_code 1 none :: bp_tb) ({ frames := 1, cells := 2, slots := 117, locals := 12 }) (ic_Pc E h0 (.inr (7, [.null, .null])) sz) (va_Qv (fun _ : Nat → Nat => True) (fun f t => va_P E.1 bp_cl (ic_MO E h0 f) t.heap ∧ va_K E.1 bp_cl (bc_ty E) t ∧ va_D (va_A [(h0, .inr (7, [.null, .null]))] sz) (ic_MO E h0 f)) (va_A [(h0, .inr (7, [.null, .null]))] sz)) 2 117 (va_A [(h0, .inr (7, [.null, .null]))] sz) := by
  refine Met.ofW (cc := prog_5_method_1_code) (maxL := 1) (ret := none) (by decide) rfl ?_
  intro p e s mt args below meth c s₁ B hml hv
  obtain ⟨rfl, hsz, hP, hK, hD0, hnw, hao⟩ := hv
  have hx := B.exec
  have hb := B.bytes
  have hr := B.returns
  have htb : ∀ w ∈ bp_tb, w.before _ s = true := fun w hw => atoms_spec (ws := Cond.code y_i_MO prog_5_method_1_code 1 none :: bp_tb) B.pre w (List.mem_cons_of_mem _ hw)
  have hown : s.vm.findClass "BlockPictures$Motion" = some mt.cls := findClass_of_methodNamed B.named
  have hlocks := B.notSynchronized
  have hin : meth.name = "<init>" := (name_of_methodNamed B.named B.method).1
  subst hsz
  have hD := hD0.self (sz := s.heap.size)
  generalize hAe : va_A [(h0, .inr (7, [.null, .null]))] s.heap.size = A at hD ⊢
  have hA : ∀ q : Nat, s.heap.size ≤ q → A q := fun q h => by rw [← hAe]; exact Or.inr h
  have hS : va_S A s.heap s.heap [] := va_S.rf
  have hl := lv_entry ([.ref h0]) (n := 1) (Nat.le_of_ble_eq_true rfl)
  rw [lg_entry_eq]
  generalize (lg_sl ([.ref h0]) ++ List.replicate (1 - (lg_sl ([.ref h0])).length) Slot.unset).toArray = ls at hl ⊢
  have hl : lv_has ls 1 [(0, .ref h0)] := hl
  refine lv_aload_n hx hb (dt_i_MO 0 rfl) rfl (lv_at hl 0 rfl) ?_
  refine W.objInit hx hb hown (htb _ tw_251) (htb _ tw_90) (htb _ tw_91) rfl (by rw [hml]; exact hl.1) rfl (dt_i_MO 1 rfl) (Nat.le_of_ble_eq_true rfl) (Nat.le_of_ble_eq_true rfl) ?_
  refine W.eq (g2 := F0 mt 4 ls []) rfl ?_
  refine lv_aload_n hx hb (dt_i_MO 2 rfl) rfl (lv_at hl 0 rfl) ?_
  refine lv_bipush (v := 81) hx hb (dt_i_MO 3 rfl) (by decide) ?_
  refine bp_newa (atype := .int) (ty := .int) (a0 := (81, .inl (fun _ => 0))) hx hb (htb _ tw_120) rfl (Or.inl rfl) hK hP hD hS hA 0 rfl (fun _ => rfl) (by decide) (by decide) (Nat.le_of_ble_eq_true rfl) (Nat.le_of_ble_eq_true rfl) (Nat.le_of_ble_eq_true rfl) (dt_i_MO 4 rfl) (fun q1 H hP hD hS => ?_)
  have hP : va_P E.1 bp_cl [(h0, .inr (7, [.null, .null])), (q1, .inl (E.2.2.1, 81, .inl (fun _ => 0)))] H := hP
  have hD : va_D A [(h0, .inr (7, [.null, .null])), (q1, .inl (E.2.2.1, 81, .inl (fun _ => 0)))] := hD
  refine W.widen (k := 1) (n := 81) (Nat.le_of_ble_eq_true rfl) (Nat.le_of_ble_eq_true rfl) ?_
  refine va_putF (D := E.1) (ci := 7) (v := .ref q1) (ty := .array .int) (C := "BlockPictures$Motion") (T := bF_MO) (N := 2) hx hb htb bc_in_MO bt_MO bt_MO_ok bn_MO hown hK hP hD hS 0 rfl rfl 0 (by decide) (htb _ tw_252) (fun _ h9 => h9) rfl hin rfl (by decide +kernel) rfl rfl (Nat.le_of_ble_eq_true rfl) (dt_i_MO 5 rfl) (fun H locs hP hD hS => ?_)
  have hP : va_P E.1 bp_cl [(h0, .inr (7, [.ref q1, .null])), (q1, .inl (E.2.2.1, 81, .inl (fun _ => 0)))] H := hP
  have hD : va_D A [(h0, .inr (7, [.ref q1, .null])), (q1, .inl (E.2.2.1, 81, .inl (fun _ => 0)))] := hD
  refine lv_aload_n hx hb (dt_i_MO 6 rfl) rfl (lv_at hl 0 rfl) ?_
  refine lv_bipush (v := 36) hx hb (dt_i_MO 7 rfl) (by decide) ?_
  refine bp_newa (atype := .int) (ty := .int) (a0 := (36, .inl (fun _ => 0))) hx hb (htb _ tw_120) rfl (Or.inl rfl) hK hP hD hS hA 0 rfl (fun _ => rfl) (by decide) (by decide) (Nat.le_of_ble_eq_true rfl) (Nat.le_of_ble_eq_true rfl) (Nat.le_of_ble_eq_true rfl) (dt_i_MO 8 rfl) (fun q2 H hP hD hS => ?_)
  have hP : va_P E.1 bp_cl [(h0, .inr (7, [.ref q1, .null])), (q1, .inl (E.2.2.1, 81, .inl (fun _ => 0))), (q2, .inl (E.2.2.1, 36, .inl (fun _ => 0)))] H := hP
  have hD : va_D A [(h0, .inr (7, [.ref q1, .null])), (q1, .inl (E.2.2.1, 81, .inl (fun _ => 0))), (q2, .inl (E.2.2.1, 36, .inl (fun _ => 0)))] := hD
  refine W.widen (k := 2) (n := 117) (Nat.le_of_ble_eq_true rfl) (Nat.le_of_ble_eq_true rfl) ?_
  refine va_putF (D := E.1) (ci := 7) (v := .ref q2) (ty := .array .int) (C := "BlockPictures$Motion") (T := bF_MO) (N := 2) hx hb htb bc_in_MO bt_MO bt_MO_ok bn_MO hown hK hP hD hS 0 rfl rfl 1 (by decide) (htb _ tw_253) (fun _ h9 => h9) rfl hin rfl (by decide +kernel) rfl rfl (Nat.le_of_ble_eq_true rfl) (dt_i_MO 9 rfl) (fun H locs hP hD hS => ?_)
  have hP : va_P E.1 bp_cl [(h0, .inr (7, [.ref q1, .ref q2])), (q1, .inl (E.2.2.1, 81, .inl (fun _ => 0))), (q2, .inl (E.2.2.1, 36, .inl (fun _ => 0)))] H := hP
  have hD : va_D A [(h0, .inr (7, [.ref q1, .ref q2])), (q1, .inl (E.2.2.1, 81, .inl (fun _ => 0))), (q2, .inl (E.2.2.1, 36, .inl (fun _ => 0)))] := hD
  refine W.widen (k := 2) (n := 117) (Nat.le_of_ble_eq_true rfl) (Nat.le_of_ble_eq_true rfl) ?_
  exact W.vret hx hb hr (fun t ht hW => ⟨⟨(fun j => [q1, q2].getD j 0), rfl, trivial, by rw [ht]; exact hP, va_K.moved hW.alike hK, hD⟩, hS.F ht⟩) hS.2.2 (dt_i_MO 10 rfl)
abbrev y_i_UW : MethodName := ⟨"BlockPictures$UnitWriter", "<init>", "()V"⟩
def tb_i_UW : List (Nat × Instr × Nat) := [(0, .aload_n 0, 1), (1, .invokespecial 3, 3), (4, .aload_n 0, 1), (5, .sipush 256, 3), (8, .newarray .int, 2), (10, .putfield 9, 3), (13, .aload_n 0, 1), (14, .sipush 400, 3), (17, .newarray .int, 2), (19, .putfield 15, 3), (22, .return_, 1)]
theorem tb_i_UW_ok : ∀ q ∈ tb_i_UW, decode prog_11_method_1_code q.1 = .ok q.2 := by decide +kernel
theorem dt_i_UW (k : Nat) {pc n : Nat} {i : Instr} (h : tb_i_UW[k]? = some (pc, i, n)) : decode prog_11_method_1_code pc = .ok (i, n) := tb_i_UW_ok (pc, i, n) (List.mem_of_getElem? h)
theorem hd_i_UW : (y_i_UW).cls ≠ "java/lang/invoke/MethodHandle" ∧ (y_i_UW).cls ≠ "java/lang/invoke/VarHandle" ∧ (parseMethodDescriptor (y_i_UW).desc).map (fun d => d.parameters.length) = some 0 := by decide +kernel
abbrev ic_UW (E : bc_E) (h0 : Nat) (f : Nat → Nat) : va_W := [(h0, .inr (5, [.ref (f 0), .ref (f 1), .int 0, .int 0, .int 0, .int 0])), ((f 0), .inl (E.2.2.1, 256, .inl (fun _ => 0))), ((f 1), .inl (E.2.2.1, 400, .inl (fun _ => 0)))]
set_option maxHeartbeats 4000000 in
set_option maxRecDepth 100000 in
theorem i_UW (l : Launch) (E : bc_E) (h0 : Nat) (sz : Nat) : Met l y_i_UW (Cond.code y_i_UW prog_11_method_1_code 1 none :: bp_tb) ({ frames := 1, cells := 2, slots := 656, locals := 12 }) (ic_Pc E h0 (.inr (5, [.null, .null, .int 0, .int 0, .int 0, .int 0])) sz) (va_Qv (fun _ : Nat → Nat => True) (fun f t => va_P E.1 bp_cl (ic_UW E h0 f) t.heap ∧ va_K E.1 bp_cl (bc_ty E) t ∧ va_D (va_A [(h0, .inr (5, [.null, .null, .int 0, .int 0, .int 0, .int 0]))] sz) (ic_UW E h0 f)) (va_A [(h0, .inr (5, [.null, .null, .int 0, .int 0, .int 0, .int 0]))] sz)) 2 656 (va_A [(h0, .inr (5, [.null, .null, .int 0, .int 0, .int 0, .int 0]))] sz) := by
  refine Met.ofW (cc := prog_11_method_1_code) (maxL := 1) (ret := none) (by decide) rfl ?_
  intro p e s mt args below meth c s₁ B hml hv
  obtain ⟨rfl, hsz, hP, hK, hD0, hnw, hao⟩ := hv
  have hx := B.exec
  have hb := B.bytes
  have hr := B.returns
  have htb : ∀ w ∈ bp_tb, w.before _ s = true := fun w hw => atoms_spec (ws := Cond.code y_i_UW prog_11_method_1_code 1 none :: bp_tb) B.pre w (List.mem_cons_of_mem _ hw)
  have hown : s.vm.findClass "BlockPictures$UnitWriter" = some mt.cls := findClass_of_methodNamed B.named
  have hlocks := B.notSynchronized
  have hin : meth.name = "<init>" := (name_of_methodNamed B.named B.method).1
  subst hsz
  have hD := hD0.self (sz := s.heap.size)
  generalize hAe : va_A [(h0, .inr (5, [.null, .null, .int 0, .int 0, .int 0, .int 0]))] s.heap.size = A at hD ⊢
  have hA : ∀ q : Nat, s.heap.size ≤ q → A q := fun q h => by rw [← hAe]; exact Or.inr h
  have hS : va_S A s.heap s.heap [] := va_S.rf
  have hl := lv_entry ([.ref h0]) (n := 1) (Nat.le_of_ble_eq_true rfl)
  rw [lg_entry_eq]
  generalize (lg_sl ([.ref h0]) ++ List.replicate (1 - (lg_sl ([.ref h0])).length) Slot.unset).toArray = ls at hl ⊢
  have hl : lv_has ls 1 [(0, .ref h0)] := hl
  refine lv_aload_n hx hb (dt_i_UW 0 rfl) rfl (lv_at hl 0 rfl) ?_
  refine W.objInit hx hb hown (htb _ tw_336) (htb _ tw_90) (htb _ tw_91) rfl (by rw [hml]; exact hl.1) rfl (dt_i_UW 1 rfl) (Nat.le_of_ble_eq_true rfl) (Nat.le_of_ble_eq_true rfl) ?_
  refine W.eq (g2 := F0 mt 4 ls []) rfl ?_
  refine lv_aload_n hx hb (dt_i_UW 2 rfl) rfl (lv_at hl 0 rfl) ?_
  refine lv_sipush (v := 256) hx hb (dt_i_UW 3 rfl) (by decide) ?_
  refine bp_newa (atype := .int) (ty := .int) (a0 := (256, .inl (fun _ => 0))) hx hb (htb _ tw_120) rfl (Or.inl rfl) hK hP hD hS hA 0 rfl (fun _ => rfl) (by decide) (by decide) (Nat.le_of_ble_eq_true rfl) (Nat.le_of_ble_eq_true rfl) (Nat.le_of_ble_eq_true rfl) (dt_i_UW 4 rfl) (fun q1 H hP hD hS => ?_)
  have hP : va_P E.1 bp_cl [(h0, .inr (5, [.null, .null, .int 0, .int 0, .int 0, .int 0])), (q1, .inl (E.2.2.1, 256, .inl (fun _ => 0)))] H := hP
  have hD : va_D A [(h0, .inr (5, [.null, .null, .int 0, .int 0, .int 0, .int 0])), (q1, .inl (E.2.2.1, 256, .inl (fun _ => 0)))] := hD
  refine W.widen (k := 1) (n := 256) (Nat.le_of_ble_eq_true rfl) (Nat.le_of_ble_eq_true rfl) ?_
  refine va_putF (D := E.1) (ci := 5) (v := .ref q1) (ty := .array .int) (C := "BlockPictures$UnitWriter") (T := bF_UW) (N := 6) hx hb htb bc_in_UW bt_UW bt_UW_ok bn_UW hown hK hP hD hS 0 rfl rfl 0 (by decide) (htb _ tw_337) (fun _ h9 => h9) rfl hin rfl (by decide +kernel) rfl rfl (Nat.le_of_ble_eq_true rfl) (dt_i_UW 5 rfl) (fun H locs hP hD hS => ?_)
  have hP : va_P E.1 bp_cl [(h0, .inr (5, [.ref q1, .null, .int 0, .int 0, .int 0, .int 0])), (q1, .inl (E.2.2.1, 256, .inl (fun _ => 0)))] H := hP
  have hD : va_D A [(h0, .inr (5, [.ref q1, .null, .int 0, .int 0, .int 0, .int 0])), (q1, .inl (E.2.2.1, 256, .inl (fun _ => 0)))] := hD
  refine lv_aload_n hx hb (dt_i_UW 6 rfl) rfl (lv_at hl 0 rfl) ?_
  refine lv_sipush (v := 400) hx hb (dt_i_UW 7 rfl) (by decide) ?_
  refine bp_newa (atype := .int) (ty := .int) (a0 := (400, .inl (fun _ => 0))) hx hb (htb _ tw_120) rfl (Or.inl rfl) hK hP hD hS hA 0 rfl (fun _ => rfl) (by decide) (by decide) (Nat.le_of_ble_eq_true rfl) (Nat.le_of_ble_eq_true rfl) (Nat.le_of_ble_eq_true rfl) (dt_i_UW 8 rfl) (fun q2 H hP hD hS => ?_)
  have hP : va_P E.1 bp_cl [(h0, .inr (5, [.ref q1, .null, .int 0, .int 0, .int 0, .int 0])), (q1, .inl (E.2.2.1, 256, .inl (fun _ => 0))), (q2, .inl (E.2.2.1, 400, .inl (fun _ => 0)))] H := hP
  have hD : va_D A [(h0, .inr (5, [.ref q1, .null, .int 0, .int 0, .int 0, .int 0])), (q1, .inl (E.2.2.1, 256, .inl (fun _ => 0))), (q2, .inl (E.2.2.1, 400, .inl (fun _ => 0)))] := hD
  refine W.widen (k := 2) (n := 656) (Nat.le_of_ble_eq_true rfl) (Nat.le_of_ble_eq_true rfl) ?_
  refine va_putF (D := E.1) (ci := 5) (v := .ref q2) (ty := .array .int) (C := "BlockPictures$UnitWriter") (T := bF_UW) (N := 6) hx hb htb bc_in_UW bt_UW bt_UW_ok bn_UW hown hK hP hD hS 0 rfl rfl 1 (by decide) (htb _ tw_339) (fun _ h9 => h9) rfl hin rfl (by decide +kernel) rfl rfl (Nat.le_of_ble_eq_true rfl) (dt_i_UW 9 rfl) (fun H locs hP hD hS => ?_)
  have hP : va_P E.1 bp_cl [(h0, .inr (5, [.ref q1, .ref q2, .int 0, .int 0, .int 0, .int 0])), (q1, .inl (E.2.2.1, 256, .inl (fun _ => 0))), (q2, .inl (E.2.2.1, 400, .inl (fun _ => 0)))] H := hP
  have hD : va_D A [(h0, .inr (5, [.ref q1, .ref q2, .int 0, .int 0, .int 0, .int 0])), (q1, .inl (E.2.2.1, 256, .inl (fun _ => 0))), (q2, .inl (E.2.2.1, 400, .inl (fun _ => 0)))] := hD
  refine W.widen (k := 2) (n := 656) (Nat.le_of_ble_eq_true rfl) (Nat.le_of_ble_eq_true rfl) ?_
  exact W.vret hx hb hr (fun t ht hW => ⟨⟨(fun j => [q1, q2].getD j 0), rfl, trivial, by rw [ht]; exact hP, va_K.moved hW.alike hK, hD⟩, hS.F ht⟩) hS.2.2 (dt_i_UW 10 rfl)
abbrev y_i_PD : MethodName := ⟨"BlockPictures$PictureDecoder", "<init>", "()V"⟩
def tb_i_PD : List (Nat × Instr × Nat) := [(0, .aload_n 0, 1), (1, .invokespecial 3, 3), (4, .aload_n 0, 1), (5, .new 9, 3), (8, .dup, 1), (9, .invokespecial 11, 3), (12, .putfield 12, 3), (15, .aload_n 0, 1), (16, .new 18, 3), (19, .dup, 1), (20, .invokespecial 20, 3), (23, .putfield 21, 3), (26, .aload_n 0, 1), (27, .new 25, 3), (30, .dup, 1), (31, .invokespecial 27, 3), (34, .putfield 28, 3), (37, .aload_n 0, 1), (38, .iconst 4, 1), (39, .anewarray 18, 3), (42, .putfield 32, 3), (45, .aload_n 0, 1), (46, .new 25, 3), (49, .dup, 1), (50, .invokespecial 27, 3), (53, .putfield 36, 3), (56, .aload_n 0, 1), (57, .new 39, 3), (60, .dup, 1), (61, .invokespecial 41, 3), (64, .putfield 42, 3), (67, .aload_n 0, 1), (68, .bipush 16, 2), (70, .newarray .int, 2), (72, .putfield 46, 3), (75, .iconst 0, 1), (76, .istore_n 1, 1), (77, .iload_n 1, 1), (78, .iconst 4, 1), (79, .if_icmp .ge 19, 3), (82, .aload_n 0, 1), (83, .getfield 32, 3), (86, .iload_n 1, 1), (87, .aload_n 0, 1), (88, .getfield 21, 3), (91, .aastore, 1), (92, .iinc 1 1, 3), (95, .goto (-18), 3), (98, .return_, 1)]
theorem tb_i_PD_ok : ∀ q ∈ tb_i_PD, decode prog_9_method_1_code q.1 = .ok q.2 := by decide +kernel
theorem dt_i_PD (k : Nat) {pc n : Nat} {i : Instr} (h : tb_i_PD[k]? = some (pc, i, n)) : decode prog_9_method_1_code pc = .ok (i, n) := tb_i_PD_ok (pc, i, n) (List.mem_of_getElem? h)
theorem hd_i_PD : (y_i_PD).cls ≠ "java/lang/invoke/MethodHandle" ∧ (y_i_PD).cls ≠ "java/lang/invoke/VarHandle" ∧ (parseMethodDescriptor (y_i_PD).desc).map (fun d => d.parameters.length) = some 0 := by decide +kernel
abbrev ic_PD (E : bc_E) (h0 : Nat) (f : Nat → Nat) : va_W := [(h0, .inr (3, [.ref (f 0), .ref (f 2), .ref (f 4), .ref (f 10), .int 0, .int 0, .ref (f 11), .ref (f 17), .ref (f 20), .int 0, .int 0])), ((f 0), .inr (6, [.ref (f 1), .int 0, .int 0, .int 0])), ((f 1), .inl (E.2.2.1, 320, .inl (fun _ => 0))), ((f 2), .inr (9, [.ref (f 3), .int 0, .int 0, .int 0])), ((f 3), .inl (E.2.2.1, 256, .inl (fun _ => 0))), ((f 4), .inr (8, [.ref (f 5), .ref (f 6), .ref (f 7), .ref (f 8), .ref (f 9), .int 0])), ((f 5), .inl (E.2.2.2.1, 16, .inl (fun _ => 0))), ((f 6), .inl (E.2.2.2.1, 16, .inl (fun _ => 0))), ((f 7), .inl (E.2.2.1, 16, .inl (fun _ => 0))), ((f 8), .inl (E.2.2.1, 16, .inl (fun _ => 0))), ((f 9), .inl (E.2.2.1, 16, .inl (fun _ => 0))), ((f 10), .inl (E.2.2.2.2.1, 4, .inr (.inr (.inr (.inr (va_up (va_up (va_up (va_up (fun _ => none) 0 (some (f 2))) 1 (some (f 2))) 2 (some (f 2))) 3 (some (f 2)))))))), ((f 11), .inr (8, [.ref (f 12), .ref (f 13), .ref (f 14), .ref (f 15), .ref (f 16), .int 0])), ((f 12), .inl (E.2.2.2.1, 16, .inl (fun _ => 0))), ((f 13), .inl (E.2.2.2.1, 16, .inl (fun _ => 0))), ((f 14), .inl (E.2.2.1, 16, .inl (fun _ => 0))), ((f 15), .inl (E.2.2.1, 16, .inl (fun _ => 0))), ((f 16), .inl (E.2.2.1, 16, .inl (fun _ => 0))), ((f 17), .inr (7, [.ref (f 18), .ref (f 19)])), ((f 18), .inl (E.2.2.1, 81, .inl (fun _ => 0))), ((f 19), .inl (E.2.2.1, 36, .inl (fun _ => 0))), ((f 20), .inl (E.2.2.1, 16, .inl (fun _ => 0)))]
set_option maxHeartbeats 4000000 in
set_option maxRecDepth 100000 in
theorem i_PD (l : Launch) (E : bc_E) (h0 : Nat) (sz : Nat) : Met l y_i_PD (Cond.code y_i_PD prog_9_method_1_code 2 none :: bp_tb) ({ frames := 2, cells := 21, slots := 895, locals := 32 }) (ic_Pc E h0 (.inr (3, [.null, .null, .null, .null, .int 0, .int 0, .null, .null, .null, .int 0, .int 0])) sz) (va_Qv (fun _ : Nat → Nat => True) (fun f t => va_P E.1 bp_cl (ic_PD E h0 f) t.heap ∧ va_K E.1 bp_cl (bc_ty E) t ∧ va_D (va_A [(h0, .inr (3, [.null, .null, .null, .null, .int 0, .int 0, .null, .null, .null, .int 0, .int 0]))] sz) (ic_PD E h0 f)) (va_A [(h0, .inr (3, [.null, .null, .null, .null, .int 0, .int 0, .null, .null, .null, .int 0, .int 0]))] sz)) 21 895 (va_A [(h0, .inr (3, [.null, .null, .null, .null, .int 0, .int 0, .null, .null, .null, .int 0, .int 0]))] sz) := by
  refine Met.ofW (cc := prog_9_method_1_code) (maxL := 2) (ret := none) (by decide) rfl ?_
  intro p e s mt args below meth c s₁ B hml hv
  obtain ⟨rfl, hsz, hP, hK, hD0, hnw, hao⟩ := hv
  have hx := B.exec
  have hb := B.bytes
  have hr := B.returns
  have htb : ∀ w ∈ bp_tb, w.before _ s = true := fun w hw => atoms_spec (ws := Cond.code y_i_PD prog_9_method_1_code 2 none :: bp_tb) B.pre w (List.mem_cons_of_mem _ hw)
  have hown : s.vm.findClass "BlockPictures$PictureDecoder" = some mt.cls := findClass_of_methodNamed B.named
  have hlocks := B.notSynchronized
  have hin : meth.name = "<init>" := (name_of_methodNamed B.named B.method).1
  subst hsz
  have hD := hD0.self (sz := s.heap.size)
  generalize hAe : va_A [(h0, .inr (3, [.null, .null, .null, .null, .int 0, .int 0, .null, .null, .null, .int 0, .int 0]))] s.heap.size = A at hD ⊢
  have hA : ∀ q : Nat, s.heap.size ≤ q → A q := fun q h => by rw [← hAe]; exact Or.inr h
  have hS : va_S A s.heap s.heap [] := va_S.rf
  have hl := lv_entry ([.ref h0]) (n := 2) (Nat.le_of_ble_eq_true rfl)
  rw [lg_entry_eq]
  generalize (lg_sl ([.ref h0]) ++ List.replicate (2 - (lg_sl ([.ref h0])).length) Slot.unset).toArray = ls at hl ⊢
  have hl : lv_has ls 2 [(0, .ref h0)] := hl
  refine lv_aload_n hx hb (dt_i_PD 0 rfl) rfl (lv_at hl 0 rfl) ?_
  refine W.objInit hx hb hown (htb _ tw_154) (htb _ tw_90) (htb _ tw_91) rfl (by rw [hml]; exact hl.1) rfl (dt_i_PD 1 rfl) (Nat.le_of_ble_eq_true rfl) (Nat.le_of_ble_eq_true rfl) ?_
  refine W.eq (g2 := F0 mt 4 ls []) rfl ?_
  refine lv_aload_n hx hb (dt_i_PD 2 rfl) rfl (lv_at hl 0 rfl) ?_
  refine va_new (ci := 6) (fs := [.null, .int 0, .int 0, .int 0]) (C := "BlockPictures$BitReader") (T := bF_BR) (N := 4) hx hb htb bc_in_BR bt_BR bt_BR_ok hown (htb _ tw_155) (htb _ tw_156) (htb _ tw_73) hK hP hD hS hA rfl (fun j hj => by rcases (show j = 0 ∨ j = 1 ∨ j = 2 ∨ j = 3 by omega) with rfl | rfl | rfl | rfl <;> rfl) (Nat.le_of_ble_eq_true rfl) (Nat.le_of_ble_eq_true rfl) (dt_i_PD 3 rfl) (fun q1 H hP hD hS => ?_)
  have hP : va_P E.1 bp_cl [(h0, .inr (3, [.null, .null, .null, .null, .int 0, .int 0, .null, .null, .null, .int 0, .int 0])), (q1, .inr (6, [.null, .int 0, .int 0, .int 0]))] H := hP
  have hD : va_D A [(h0, .inr (3, [.null, .null, .null, .null, .int 0, .int 0, .null, .null, .null, .int 0, .int 0])), (q1, .inr (6, [.null, .int 0, .int 0, .int 0]))] := hD
  refine W.widen (k := 1) (n := 4) (Nat.le_of_ble_eq_true rfl) (Nat.le_of_ble_eq_true rfl) ?_
  refine lv_dup hx hb (dt_i_PD 4 rfl) rfl ?_
  have hPc := hP.sub (ws' := [(q1, .inr (6, [.null, .int 0, .int 0, .int 0]))]) [1] rfl
  have hDc := hD.sub (ws' := [(q1, .inr (6, [.null, .int 0, .int 0, .int 0]))]) [1] (by decide) rfl
  have hFc := va_free (wc := [(q1, .inr (6, [.null, .int 0, .int 0, .int 0]))]) hD hS hA [1] rfl
  refine va_callv (va_runIN (As := []) (rest := [.ref q1, .ref h0]) ⟨hx, hb, hml, hown, htb⟩ (i_BR l E q1 H.size) ⟨va_cnB 0 htb (bp_good tw_159) rfl rfl rfl (hnw _ (List.mem_of_getElem? (i := 2) rfl)) (htb _ tw_73) hd_i_BR ⟨(Nat.le_of_ble_eq_true rfl), (Nat.le_of_ble_eq_true rfl)⟩, rfl, htb _ tw_158⟩ (ic_pre E hK hPc hDc hnw hao) rfl rfl hl.1 rfl (lv_room (Nat.le_of_ble_eq_true rfl)) (dt_i_PD 5 rfl) ⟨(Nat.le_of_ble_eq_true rfl), (Nat.le_of_ble_eq_true rfl)⟩) hS (fun q _ h => hFc q h) hFc (fun f2 t H1 locs ht hvm _ hB hz1 hk1 hS => ?_)
  obtain ⟨hP1, -, hD1⟩ := hB
  rw [ht] at hP1
  obtain ⟨hP, hD⟩ := va_join (wr := [(h0, .inr (3, [.null, .null, .null, .null, .int 0, .int 0, .null, .null, .null, .int 0, .int 0]))]) (w1 := ic_BR E q1 f2) hP hD [1] [0] rfl rfl (by decide) (by decide) hk1 hFc hP1 hD1
  generalize H1 = H at hP hS ⊢
  have hP : va_P E.1 bp_cl [(h0, .inr (3, [.null, .null, .null, .null, .int 0, .int 0, .null, .null, .null, .int 0, .int 0])), (q1, .inr (6, [.ref (f2 0), .int 0, .int 0, .int 0])), ((f2 0), .inl (E.2.2.1, 320, .inl (fun _ => 0)))] H := hP
  have hD : va_D A [(h0, .inr (3, [.null, .null, .null, .null, .int 0, .int 0, .null, .null, .null, .int 0, .int 0])), (q1, .inr (6, [.ref (f2 0), .int 0, .int 0, .int 0])), ((f2 0), .inl (E.2.2.1, 320, .inl (fun _ => 0)))] := hD
  refine W.widen (k := 2) (n := 324) (Nat.le_of_ble_eq_true rfl) (Nat.le_of_ble_eq_true rfl) ?_
  refine va_putF (D := E.1) (ci := 3) (v := .ref q1) (ty := .object "BlockPictures$BitReader") (C := "BlockPictures$PictureDecoder") (T := bF_PD) (N := 11) hx hb htb bc_in_PD bt_PD bt_PD_ok bn_PD hown hK hP hD hS 0 rfl rfl 0 (by decide) (htb _ tw_259) (fun _ h9 => h9) rfl hin rfl (by decide +kernel) rfl rfl (Nat.le_of_ble_eq_true rfl) (dt_i_PD 6 rfl) (fun H locs hP hD hS => ?_)
  have hP : va_P E.1 bp_cl [(h0, .inr (3, [.ref q1, .null, .null, .null, .int 0, .int 0, .null, .null, .null, .int 0, .int 0])), (q1, .inr (6, [.ref (f2 0), .int 0, .int 0, .int 0])), ((f2 0), .inl (E.2.2.1, 320, .inl (fun _ => 0)))] H := hP
  have hD : va_D A [(h0, .inr (3, [.ref q1, .null, .null, .null, .int 0, .int 0, .null, .null, .null, .int 0, .int 0])), (q1, .inr (6, [.ref (f2 0), .int 0, .int 0, .int 0])), ((f2 0), .inl (E.2.2.1, 320, .inl (fun _ => 0)))] := hD
  refine lv_aload_n hx hb (dt_i_PD 7 rfl) rfl (lv_at hl 0 rfl) ?_
  refine va_new (ci := 9) (fs := [.null, .int 0, .int 0, .int 0]) (C := "BlockPictures$Picture") (T := bF_PI) (N := 4) hx hb htb bc_in_PI bt_PI bt_PI_ok hown (htb _ tw_177) (htb _ tw_178) (htb _ tw_74) hK hP hD hS hA rfl (fun j hj => by rcases (show j = 0 ∨ j = 1 ∨ j = 2 ∨ j = 3 by omega) with rfl | rfl | rfl | rfl <;> rfl) (Nat.le_of_ble_eq_true rfl) (Nat.le_of_ble_eq_true rfl) (dt_i_PD 8 rfl) (fun q3 H hP hD hS => ?_)
  have hP : va_P E.1 bp_cl [(h0, .inr (3, [.ref q1, .null, .null, .null, .int 0, .int 0, .null, .null, .null, .int 0, .int 0])), (q1, .inr (6, [.ref (f2 0), .int 0, .int 0, .int 0])), ((f2 0), .inl (E.2.2.1, 320, .inl (fun _ => 0))), (q3, .inr (9, [.null, .int 0, .int 0, .int 0]))] H := hP
  have hD : va_D A [(h0, .inr (3, [.ref q1, .null, .null, .null, .int 0, .int 0, .null, .null, .null, .int 0, .int 0])), (q1, .inr (6, [.ref (f2 0), .int 0, .int 0, .int 0])), ((f2 0), .inl (E.2.2.1, 320, .inl (fun _ => 0))), (q3, .inr (9, [.null, .int 0, .int 0, .int 0]))] := hD
  refine W.widen (k := 3) (n := 328) (Nat.le_of_ble_eq_true rfl) (Nat.le_of_ble_eq_true rfl) ?_
  refine lv_dup hx hb (dt_i_PD 9 rfl) rfl ?_
  have hPc := hP.sub (ws' := [(q3, .inr (9, [.null, .int 0, .int 0, .int 0]))]) [3] rfl
  have hDc := hD.sub (ws' := [(q3, .inr (9, [.null, .int 0, .int 0, .int 0]))]) [3] (by decide) rfl
  have hFc := va_free (wc := [(q3, .inr (9, [.null, .int 0, .int 0, .int 0]))]) hD hS hA [3] rfl
  refine va_callv (va_runIN (As := []) (rest := [.ref q3, .ref h0]) ⟨hx, hb, hml, hown, htb⟩ (i_PI l E q3 H.size) ⟨va_cnB 0 htb (bp_good tw_181) rfl rfl rfl (hnw _ (List.mem_of_getElem? (i := 3) rfl)) (htb _ tw_74) hd_i_PI ⟨(Nat.le_of_ble_eq_true rfl), (Nat.le_of_ble_eq_true rfl)⟩, rfl, htb _ tw_180⟩ (ic_pre E hK hPc hDc hnw hao) rfl rfl hl.1 rfl (lv_room (Nat.le_of_ble_eq_true rfl)) (dt_i_PD 10 rfl) ⟨(Nat.le_of_ble_eq_true rfl), (Nat.le_of_ble_eq_true rfl)⟩) hS (fun q _ h => hFc q h) hFc (fun f4 t H1 locs ht hvm _ hB hz1 hk1 hS => ?_)
  obtain ⟨hP1, -, hD1⟩ := hB
  rw [ht] at hP1
  obtain ⟨hP, hD⟩ := va_join (wr := [(h0, .inr (3, [.ref q1, .null, .null, .null, .int 0, .int 0, .null, .null, .null, .int 0, .int 0])), (q1, .inr (6, [.ref (f2 0), .int 0, .int 0, .int 0])), ((f2 0), .inl (E.2.2.1, 320, .inl (fun _ => 0)))]) (w1 := ic_PI E q3 f4) hP hD [3] [0, 1, 2] rfl rfl (by decide) (by decide) hk1 hFc hP1 hD1
  generalize H1 = H at hP hS ⊢
  have hP : va_P E.1 bp_cl [(h0, .inr (3, [.ref q1, .null, .null, .null, .int 0, .int 0, .null, .null, .null, .int 0, .int 0])), (q1, .inr (6, [.ref (f2 0), .int 0, .int 0, .int 0])), ((f2 0), .inl (E.2.2.1, 320, .inl (fun _ => 0))), (q3, .inr (9, [.ref (f4 0), .int 0, .int 0, .int 0])), ((f4 0), .inl (E.2.2.1, 256, .inl (fun _ => 0)))] H := hP
  have hD : va_D A [(h0, .inr (3, [.ref q1, .null, .null, .null, .int 0, .int 0, .null, .null, .null, .int 0, .int 0])), (q1, .inr (6, [.ref (f2 0), .int 0, .int 0, .int 0])), ((f2 0), .inl (E.2.2.1, 320, .inl (fun _ => 0))), (q3, .inr (9, [.ref (f4 0), .int 0, .int 0, .int 0])), ((f4 0), .inl (E.2.2.1, 256, .inl (fun _ => 0)))] := hD
  refine W.widen (k := 4) (n := 584) (Nat.le_of_ble_eq_true rfl) (Nat.le_of_ble_eq_true rfl) ?_
  refine va_putF (D := E.1) (ci := 3) (v := .ref q3) (ty := .object "BlockPictures$Picture") (C := "BlockPictures$PictureDecoder") (T := bF_PD) (N := 11) hx hb htb bc_in_PD bt_PD bt_PD_ok bn_PD hown hK hP hD hS 0 rfl rfl 1 (by decide) (htb _ tw_261) (fun _ h9 => h9) rfl hin rfl (by decide +kernel) rfl rfl (Nat.le_of_ble_eq_true rfl) (dt_i_PD 11 rfl) (fun H locs hP hD hS => ?_)
  have hP : va_P E.1 bp_cl [(h0, .inr (3, [.ref q1, .ref q3, .null, .null, .int 0, .int 0, .null, .null, .null, .int 0, .int 0])), (q1, .inr (6, [.ref (f2 0), .int 0, .int 0, .int 0])), ((f2 0), .inl (E.2.2.1, 320, .inl (fun _ => 0))), (q3, .inr (9, [.ref (f4 0), .int 0, .int 0, .int 0])), ((f4 0), .inl (E.2.2.1, 256, .inl (fun _ => 0)))] H := hP
  have hD : va_D A [(h0, .inr (3, [.ref q1, .ref q3, .null, .null, .int 0, .int 0, .null, .null, .null, .int 0, .int 0])), (q1, .inr (6, [.ref (f2 0), .int 0, .int 0, .int 0])), ((f2 0), .inl (E.2.2.1, 320, .inl (fun _ => 0))), (q3, .inr (9, [.ref (f4 0), .int 0, .int 0, .int 0])), ((f4 0), .inl (E.2.2.1, 256, .inl (fun _ => 0)))] := hD
  refine lv_aload_n hx hb (dt_i_PD 12 rfl) rfl (lv_at hl 0 rfl) ?_
  refine va_new (ci := 8) (fs := [.null, .null, .null, .null, .null, .int 0]) (C := "BlockPictures$BlockRows") (T := bF_RO) (N := 6) hx hb htb bc_in_RO bt_RO bt_RO_ok hown (htb _ tw_209) (htb _ tw_210) (htb _ tw_75) hK hP hD hS hA rfl (fun j hj => by rcases (show j = 0 ∨ j = 1 ∨ j = 2 ∨ j = 3 ∨ j = 4 ∨ j = 5 by omega) with rfl | rfl | rfl | rfl | rfl | rfl <;> rfl) (Nat.le_of_ble_eq_true rfl) (Nat.le_of_ble_eq_true rfl) (dt_i_PD 13 rfl) (fun q5 H hP hD hS => ?_)
  have hP : va_P E.1 bp_cl [(h0, .inr (3, [.ref q1, .ref q3, .null, .null, .int 0, .int 0, .null, .null, .null, .int 0, .int 0])), (q1, .inr (6, [.ref (f2 0), .int 0, .int 0, .int 0])), ((f2 0), .inl (E.2.2.1, 320, .inl (fun _ => 0))), (q3, .inr (9, [.ref (f4 0), .int 0, .int 0, .int 0])), ((f4 0), .inl (E.2.2.1, 256, .inl (fun _ => 0))), (q5, .inr (8, [.null, .null, .null, .null, .null, .int 0]))] H := hP
  have hD : va_D A [(h0, .inr (3, [.ref q1, .ref q3, .null, .null, .int 0, .int 0, .null, .null, .null, .int 0, .int 0])), (q1, .inr (6, [.ref (f2 0), .int 0, .int 0, .int 0])), ((f2 0), .inl (E.2.2.1, 320, .inl (fun _ => 0))), (q3, .inr (9, [.ref (f4 0), .int 0, .int 0, .int 0])), ((f4 0), .inl (E.2.2.1, 256, .inl (fun _ => 0))), (q5, .inr (8, [.null, .null, .null, .null, .null, .int 0]))] := hD
  refine W.widen (k := 5) (n := 590) (Nat.le_of_ble_eq_true rfl) (Nat.le_of_ble_eq_true rfl) ?_
  refine lv_dup hx hb (dt_i_PD 14 rfl) rfl ?_
  have hPc := hP.sub (ws' := [(q5, .inr (8, [.null, .null, .null, .null, .null, .int 0]))]) [5] rfl
  have hDc := hD.sub (ws' := [(q5, .inr (8, [.null, .null, .null, .null, .null, .int 0]))]) [5] (by decide) rfl
  have hFc := va_free (wc := [(q5, .inr (8, [.null, .null, .null, .null, .null, .int 0]))]) hD hS hA [5] rfl
  refine va_callv (va_runIN (As := []) (rest := [.ref q5, .ref h0]) ⟨hx, hb, hml, hown, htb⟩ (i_RO l E q5 H.size) ⟨va_cnB 0 htb (bp_good tw_213) rfl rfl rfl (hnw _ (List.mem_of_getElem? (i := 4) rfl)) (htb _ tw_75) hd_i_RO ⟨(Nat.le_of_ble_eq_true rfl), (Nat.le_of_ble_eq_true rfl)⟩, rfl, htb _ tw_212⟩ (ic_pre E hK hPc hDc hnw hao) rfl rfl hl.1 rfl (lv_room (Nat.le_of_ble_eq_true rfl)) (dt_i_PD 15 rfl) ⟨(Nat.le_of_ble_eq_true rfl), (Nat.le_of_ble_eq_true rfl)⟩) hS (fun q _ h => hFc q h) hFc (fun f6 t H1 locs ht hvm _ hB hz1 hk1 hS => ?_)
  obtain ⟨hP1, -, hD1⟩ := hB
  rw [ht] at hP1
  obtain ⟨hP, hD⟩ := va_join (wr := [(h0, .inr (3, [.ref q1, .ref q3, .null, .null, .int 0, .int 0, .null, .null, .null, .int 0, .int 0])), (q1, .inr (6, [.ref (f2 0), .int 0, .int 0, .int 0])), ((f2 0), .inl (E.2.2.1, 320, .inl (fun _ => 0))), (q3, .inr (9, [.ref (f4 0), .int 0, .int 0, .int 0])), ((f4 0), .inl (E.2.2.1, 256, .inl (fun _ => 0)))]) (w1 := ic_RO E q5 f6) hP hD [5] [0, 1, 2, 3, 4] rfl rfl (by decide) (by decide) hk1 hFc hP1 hD1
  generalize H1 = H at hP hS ⊢
  have hP : va_P E.1 bp_cl [(h0, .inr (3, [.ref q1, .ref q3, .null, .null, .int 0, .int 0, .null, .null, .null, .int 0, .int 0])), (q1, .inr (6, [.ref (f2 0), .int 0, .int 0, .int 0])), ((f2 0), .inl (E.2.2.1, 320, .inl (fun _ => 0))), (q3, .inr (9, [.ref (f4 0), .int 0, .int 0, .int 0])), ((f4 0), .inl (E.2.2.1, 256, .inl (fun _ => 0))), (q5, .inr (8, [.ref (f6 0), .ref (f6 1), .ref (f6 2), .ref (f6 3), .ref (f6 4), .int 0])), ((f6 0), .inl (E.2.2.2.1, 16, .inl (fun _ => 0))), ((f6 1), .inl (E.2.2.2.1, 16, .inl (fun _ => 0))), ((f6 2), .inl (E.2.2.1, 16, .inl (fun _ => 0))), ((f6 3), .inl (E.2.2.1, 16, .inl (fun _ => 0))), ((f6 4), .inl (E.2.2.1, 16, .inl (fun _ => 0)))] H := hP
  have hD : va_D A [(h0, .inr (3, [.ref q1, .ref q3, .null, .null, .int 0, .int 0, .null, .null, .null, .int 0, .int 0])), (q1, .inr (6, [.ref (f2 0), .int 0, .int 0, .int 0])), ((f2 0), .inl (E.2.2.1, 320, .inl (fun _ => 0))), (q3, .inr (9, [.ref (f4 0), .int 0, .int 0, .int 0])), ((f4 0), .inl (E.2.2.1, 256, .inl (fun _ => 0))), (q5, .inr (8, [.ref (f6 0), .ref (f6 1), .ref (f6 2), .ref (f6 3), .ref (f6 4), .int 0])), ((f6 0), .inl (E.2.2.2.1, 16, .inl (fun _ => 0))), ((f6 1), .inl (E.2.2.2.1, 16, .inl (fun _ => 0))), ((f6 2), .inl (E.2.2.1, 16, .inl (fun _ => 0))), ((f6 3), .inl (E.2.2.1, 16, .inl (fun _ => 0))), ((f6 4), .inl (E.2.2.1, 16, .inl (fun _ => 0)))] := hD
  refine W.widen (k := 10) (n := 670) (Nat.le_of_ble_eq_true rfl) (Nat.le_of_ble_eq_true rfl) ?_
  refine va_put (D := E.1) (ci := 3) (v := .ref q5) (ty := .object "BlockPictures$BlockRows") (C := "BlockPictures$PictureDecoder") (T := bF_PD) (N := 11) hx hb htb bc_in_PD bt_PD bt_PD_ok bn_PD hown hK hP hD hS 0 rfl rfl 2 (by decide) (htb _ tw_263) (fun _ h9 => h9) rfl (by decide +kernel) rfl rfl (Nat.le_of_ble_eq_true rfl) (dt_i_PD 16 rfl) (fun H locs hP hD hS => ?_)
  have hP : va_P E.1 bp_cl [(h0, .inr (3, [.ref q1, .ref q3, .ref q5, .null, .int 0, .int 0, .null, .null, .null, .int 0, .int 0])), (q1, .inr (6, [.ref (f2 0), .int 0, .int 0, .int 0])), ((f2 0), .inl (E.2.2.1, 320, .inl (fun _ => 0))), (q3, .inr (9, [.ref (f4 0), .int 0, .int 0, .int 0])), ((f4 0), .inl (E.2.2.1, 256, .inl (fun _ => 0))), (q5, .inr (8, [.ref (f6 0), .ref (f6 1), .ref (f6 2), .ref (f6 3), .ref (f6 4), .int 0])), ((f6 0), .inl (E.2.2.2.1, 16, .inl (fun _ => 0))), ((f6 1), .inl (E.2.2.2.1, 16, .inl (fun _ => 0))), ((f6 2), .inl (E.2.2.1, 16, .inl (fun _ => 0))), ((f6 3), .inl (E.2.2.1, 16, .inl (fun _ => 0))), ((f6 4), .inl (E.2.2.1, 16, .inl (fun _ => 0)))] H := hP
  have hD : va_D A [(h0, .inr (3, [.ref q1, .ref q3, .ref q5, .null, .int 0, .int 0, .null, .null, .null, .int 0, .int 0])), (q1, .inr (6, [.ref (f2 0), .int 0, .int 0, .int 0])), ((f2 0), .inl (E.2.2.1, 320, .inl (fun _ => 0))), (q3, .inr (9, [.ref (f4 0), .int 0, .int 0, .int 0])), ((f4 0), .inl (E.2.2.1, 256, .inl (fun _ => 0))), (q5, .inr (8, [.ref (f6 0), .ref (f6 1), .ref (f6 2), .ref (f6 3), .ref (f6 4), .int 0])), ((f6 0), .inl (E.2.2.2.1, 16, .inl (fun _ => 0))), ((f6 1), .inl (E.2.2.2.1, 16, .inl (fun _ => 0))), ((f6 2), .inl (E.2.2.1, 16, .inl (fun _ => 0))), ((f6 3), .inl (E.2.2.1, 16, .inl (fun _ => 0))), ((f6 4), .inl (E.2.2.1, 16, .inl (fun _ => 0)))] := hD
  refine lv_aload_n hx hb (dt_i_PD 17 rfl) rfl (lv_at hl 0 rfl) ?_
  refine lv_iconst (v := 4) hx hb (dt_i_PD 18 rfl) (by decide) ?_
  refine bp_newq (N' := 4) hx hb hown (htb _ tw_177) hao hK hP hD hS hA 2 rfl (by decide) (by decide) (Nat.le_of_ble_eq_true rfl) (Nat.le_of_ble_eq_true rfl) (Nat.le_of_ble_eq_true rfl) (dt_i_PD 19 rfl) (fun q7 H hP hD hS => ?_)
  have hP : va_P E.1 bp_cl [(h0, .inr (3, [.ref q1, .ref q3, .ref q5, .null, .int 0, .int 0, .null, .null, .null, .int 0, .int 0])), (q1, .inr (6, [.ref (f2 0), .int 0, .int 0, .int 0])), ((f2 0), .inl (E.2.2.1, 320, .inl (fun _ => 0))), (q3, .inr (9, [.ref (f4 0), .int 0, .int 0, .int 0])), ((f4 0), .inl (E.2.2.1, 256, .inl (fun _ => 0))), (q5, .inr (8, [.ref (f6 0), .ref (f6 1), .ref (f6 2), .ref (f6 3), .ref (f6 4), .int 0])), ((f6 0), .inl (E.2.2.2.1, 16, .inl (fun _ => 0))), ((f6 1), .inl (E.2.2.2.1, 16, .inl (fun _ => 0))), ((f6 2), .inl (E.2.2.1, 16, .inl (fun _ => 0))), ((f6 3), .inl (E.2.2.1, 16, .inl (fun _ => 0))), ((f6 4), .inl (E.2.2.1, 16, .inl (fun _ => 0))), (q7, .inl (E.2.2.2.2.1, 4, .inr (.inr (.inr (.inr (fun _ => none))))))] H := hP
  have hD : va_D A [(h0, .inr (3, [.ref q1, .ref q3, .ref q5, .null, .int 0, .int 0, .null, .null, .null, .int 0, .int 0])), (q1, .inr (6, [.ref (f2 0), .int 0, .int 0, .int 0])), ((f2 0), .inl (E.2.2.1, 320, .inl (fun _ => 0))), (q3, .inr (9, [.ref (f4 0), .int 0, .int 0, .int 0])), ((f4 0), .inl (E.2.2.1, 256, .inl (fun _ => 0))), (q5, .inr (8, [.ref (f6 0), .ref (f6 1), .ref (f6 2), .ref (f6 3), .ref (f6 4), .int 0])), ((f6 0), .inl (E.2.2.2.1, 16, .inl (fun _ => 0))), ((f6 1), .inl (E.2.2.2.1, 16, .inl (fun _ => 0))), ((f6 2), .inl (E.2.2.1, 16, .inl (fun _ => 0))), ((f6 3), .inl (E.2.2.1, 16, .inl (fun _ => 0))), ((f6 4), .inl (E.2.2.1, 16, .inl (fun _ => 0))), (q7, .inl (E.2.2.2.2.1, 4, .inr (.inr (.inr (.inr (fun _ => none))))))] := hD
  refine W.widen (k := 11) (n := 674) (Nat.le_of_ble_eq_true rfl) (Nat.le_of_ble_eq_true rfl) ?_
  refine va_putF (D := E.1) (ci := 3) (v := .ref q7) (ty := .array (.object "BlockPictures$Picture")) (C := "BlockPictures$PictureDecoder") (T := bF_PD) (N := 11) hx hb htb bc_in_PD bt_PD bt_PD_ok bn_PD hown hK hP hD hS 0 rfl rfl 3 (by decide) (htb _ tw_265) (fun _ h9 => h9) rfl hin rfl (by decide +kernel) rfl rfl (Nat.le_of_ble_eq_true rfl) (dt_i_PD 20 rfl) (fun H locs hP hD hS => ?_)
  have hP : va_P E.1 bp_cl [(h0, .inr (3, [.ref q1, .ref q3, .ref q5, .ref q7, .int 0, .int 0, .null, .null, .null, .int 0, .int 0])), (q1, .inr (6, [.ref (f2 0), .int 0, .int 0, .int 0])), ((f2 0), .inl (E.2.2.1, 320, .inl (fun _ => 0))), (q3, .inr (9, [.ref (f4 0), .int 0, .int 0, .int 0])), ((f4 0), .inl (E.2.2.1, 256, .inl (fun _ => 0))), (q5, .inr (8, [.ref (f6 0), .ref (f6 1), .ref (f6 2), .ref (f6 3), .ref (f6 4), .int 0])), ((f6 0), .inl (E.2.2.2.1, 16, .inl (fun _ => 0))), ((f6 1), .inl (E.2.2.2.1, 16, .inl (fun _ => 0))), ((f6 2), .inl (E.2.2.1, 16, .inl (fun _ => 0))), ((f6 3), .inl (E.2.2.1, 16, .inl (fun _ => 0))), ((f6 4), .inl (E.2.2.1, 16, .inl (fun _ => 0))), (q7, .inl (E.2.2.2.2.1, 4, .inr (.inr (.inr (.inr (fun _ => none))))))] H := hP
  have hD : va_D A [(h0, .inr (3, [.ref q1, .ref q3, .ref q5, .ref q7, .int 0, .int 0, .null, .null, .null, .int 0, .int 0])), (q1, .inr (6, [.ref (f2 0), .int 0, .int 0, .int 0])), ((f2 0), .inl (E.2.2.1, 320, .inl (fun _ => 0))), (q3, .inr (9, [.ref (f4 0), .int 0, .int 0, .int 0])), ((f4 0), .inl (E.2.2.1, 256, .inl (fun _ => 0))), (q5, .inr (8, [.ref (f6 0), .ref (f6 1), .ref (f6 2), .ref (f6 3), .ref (f6 4), .int 0])), ((f6 0), .inl (E.2.2.2.1, 16, .inl (fun _ => 0))), ((f6 1), .inl (E.2.2.2.1, 16, .inl (fun _ => 0))), ((f6 2), .inl (E.2.2.1, 16, .inl (fun _ => 0))), ((f6 3), .inl (E.2.2.1, 16, .inl (fun _ => 0))), ((f6 4), .inl (E.2.2.1, 16, .inl (fun _ => 0))), (q7, .inl (E.2.2.2.2.1, 4, .inr (.inr (.inr (.inr (fun _ => none))))))] := hD
  refine lv_aload_n hx hb (dt_i_PD 21 rfl) rfl (lv_at hl 0 rfl) ?_
  refine va_new (ci := 8) (fs := [.null, .null, .null, .null, .null, .int 0]) (C := "BlockPictures$BlockRows") (T := bF_RO) (N := 6) hx hb htb bc_in_RO bt_RO bt_RO_ok hown (htb _ tw_209) (htb _ tw_210) (htb _ tw_75) hK hP hD hS hA rfl (fun j hj => by rcases (show j = 0 ∨ j = 1 ∨ j = 2 ∨ j = 3 ∨ j = 4 ∨ j = 5 by omega) with rfl | rfl | rfl | rfl | rfl | rfl <;> rfl) (Nat.le_of_ble_eq_true rfl) (Nat.le_of_ble_eq_true rfl) (dt_i_PD 22 rfl) (fun q8 H hP hD hS => ?_)
  have hP : va_P E.1 bp_cl [(h0, .inr (3, [.ref q1, .ref q3, .ref q5, .ref q7, .int 0, .int 0, .null, .null, .null, .int 0, .int 0])), (q1, .inr (6, [.ref (f2 0), .int 0, .int 0, .int 0])), ((f2 0), .inl (E.2.2.1, 320, .inl (fun _ => 0))), (q3, .inr (9, [.ref (f4 0), .int 0, .int 0, .int 0])), ((f4 0), .inl (E.2.2.1, 256, .inl (fun _ => 0))), (q5, .inr (8, [.ref (f6 0), .ref (f6 1), .ref (f6 2), .ref (f6 3), .ref (f6 4), .int 0])), ((f6 0), .inl (E.2.2.2.1, 16, .inl (fun _ => 0))), ((f6 1), .inl (E.2.2.2.1, 16, .inl (fun _ => 0))), ((f6 2), .inl (E.2.2.1, 16, .inl (fun _ => 0))), ((f6 3), .inl (E.2.2.1, 16, .inl (fun _ => 0))), ((f6 4), .inl (E.2.2.1, 16, .inl (fun _ => 0))), (q7, .inl (E.2.2.2.2.1, 4, .inr (.inr (.inr (.inr (fun _ => none)))))), (q8, .inr (8, [.null, .null, .null, .null, .null, .int 0]))] H := hP
  have hD : va_D A [(h0, .inr (3, [.ref q1, .ref q3, .ref q5, .ref q7, .int 0, .int 0, .null, .null, .null, .int 0, .int 0])), (q1, .inr (6, [.ref (f2 0), .int 0, .int 0, .int 0])), ((f2 0), .inl (E.2.2.1, 320, .inl (fun _ => 0))), (q3, .inr (9, [.ref (f4 0), .int 0, .int 0, .int 0])), ((f4 0), .inl (E.2.2.1, 256, .inl (fun _ => 0))), (q5, .inr (8, [.ref (f6 0), .ref (f6 1), .ref (f6 2), .ref (f6 3), .ref (f6 4), .int 0])), ((f6 0), .inl (E.2.2.2.1, 16, .inl (fun _ => 0))), ((f6 1), .inl (E.2.2.2.1, 16, .inl (fun _ => 0))), ((f6 2), .inl (E.2.2.1, 16, .inl (fun _ => 0))), ((f6 3), .inl (E.2.2.1, 16, .inl (fun _ => 0))), ((f6 4), .inl (E.2.2.1, 16, .inl (fun _ => 0))), (q7, .inl (E.2.2.2.2.1, 4, .inr (.inr (.inr (.inr (fun _ => none)))))), (q8, .inr (8, [.null, .null, .null, .null, .null, .int 0]))] := hD
  refine W.widen (k := 12) (n := 680) (Nat.le_of_ble_eq_true rfl) (Nat.le_of_ble_eq_true rfl) ?_
  refine lv_dup hx hb (dt_i_PD 23 rfl) rfl ?_
  have hPc := hP.sub (ws' := [(q8, .inr (8, [.null, .null, .null, .null, .null, .int 0]))]) [12] rfl
  have hDc := hD.sub (ws' := [(q8, .inr (8, [.null, .null, .null, .null, .null, .int 0]))]) [12] (by decide) rfl
  have hFc := va_free (wc := [(q8, .inr (8, [.null, .null, .null, .null, .null, .int 0]))]) hD hS hA [12] rfl
  refine va_callv (va_runIN (As := []) (rest := [.ref q8, .ref h0]) ⟨hx, hb, hml, hown, htb⟩ (i_RO l E q8 H.size) ⟨va_cnB 0 htb (bp_good tw_213) rfl rfl rfl (hnw _ (List.mem_of_getElem? (i := 4) rfl)) (htb _ tw_75) hd_i_RO ⟨(Nat.le_of_ble_eq_true rfl), (Nat.le_of_ble_eq_true rfl)⟩, rfl, htb _ tw_212⟩ (ic_pre E hK hPc hDc hnw hao) rfl rfl hl.1 rfl (lv_room (Nat.le_of_ble_eq_true rfl)) (dt_i_PD 24 rfl) ⟨(Nat.le_of_ble_eq_true rfl), (Nat.le_of_ble_eq_true rfl)⟩) hS (fun q _ h => hFc q h) hFc (fun f9 t H1 locs ht hvm _ hB hz1 hk1 hS => ?_)
  obtain ⟨hP1, -, hD1⟩ := hB
  rw [ht] at hP1
  obtain ⟨hP, hD⟩ := va_join (wr := [(h0, .inr (3, [.ref q1, .ref q3, .ref q5, .ref q7, .int 0, .int 0, .null, .null, .null, .int 0, .int 0])), (q1, .inr (6, [.ref (f2 0), .int 0, .int 0, .int 0])), ((f2 0), .inl (E.2.2.1, 320, .inl (fun _ => 0))), (q3, .inr (9, [.ref (f4 0), .int 0, .int 0, .int 0])), ((f4 0), .inl (E.2.2.1, 256, .inl (fun _ => 0))), (q5, .inr (8, [.ref (f6 0), .ref (f6 1), .ref (f6 2), .ref (f6 3), .ref (f6 4), .int 0])), ((f6 0), .inl (E.2.2.2.1, 16, .inl (fun _ => 0))), ((f6 1), .inl (E.2.2.2.1, 16, .inl (fun _ => 0))), ((f6 2), .inl (E.2.2.1, 16, .inl (fun _ => 0))), ((f6 3), .inl (E.2.2.1, 16, .inl (fun _ => 0))), ((f6 4), .inl (E.2.2.1, 16, .inl (fun _ => 0))), (q7, .inl (E.2.2.2.2.1, 4, .inr (.inr (.inr (.inr (fun _ => none))))))]) (w1 := ic_RO E q8 f9) hP hD [12] [0, 1, 2, 3, 4, 5, 6, 7, 8, 9, 10, 11] rfl rfl (by decide) (by decide) hk1 hFc hP1 hD1
  generalize H1 = H at hP hS ⊢
  have hP : va_P E.1 bp_cl [(h0, .inr (3, [.ref q1, .ref q3, .ref q5, .ref q7, .int 0, .int 0, .null, .null, .null, .int 0, .int 0])), (q1, .inr (6, [.ref (f2 0), .int 0, .int 0, .int 0])), ((f2 0), .inl (E.2.2.1, 320, .inl (fun _ => 0))), (q3, .inr (9, [.ref (f4 0), .int 0, .int 0, .int 0])), ((f4 0), .inl (E.2.2.1, 256, .inl (fun _ => 0))), (q5, .inr (8, [.ref (f6 0), .ref (f6 1), .ref (f6 2), .ref (f6 3), .ref (f6 4), .int 0])), ((f6 0), .inl (E.2.2.2.1, 16, .inl (fun _ => 0))), ((f6 1), .inl (E.2.2.2.1, 16, .inl (fun _ => 0))), ((f6 2), .inl (E.2.2.1, 16, .inl (fun _ => 0))), ((f6 3), .inl (E.2.2.1, 16, .inl (fun _ => 0))), ((f6 4), .inl (E.2.2.1, 16, .inl (fun _ => 0))), (q7, .inl (E.2.2.2.2.1, 4, .inr (.inr (.inr (.inr (fun _ => none)))))), (q8, .inr (8, [.ref (f9 0), .ref (f9 1), .ref (f9 2), .ref (f9 3), .ref (f9 4), .int 0])), ((f9 0), .inl (E.2.2.2.1, 16, .inl (fun _ => 0))), ((f9 1), .inl (E.2.2.2.1, 16, .inl (fun _ => 0))), ((f9 2), .inl (E.2.2.1, 16, .inl (fun _ => 0))), ((f9 3), .inl (E.2.2.1, 16, .inl (fun _ => 0))), ((f9 4), .inl (E.2.2.1, 16, .inl (fun _ => 0)))] H := hP
  have hD : va_D A [(h0, .inr (3, [.ref q1, .ref q3, .ref q5, .ref q7, .int 0, .int 0, .null, .null, .null, .int 0, .int 0])), (q1, .inr (6, [.ref (f2 0), .int 0, .int 0, .int 0])), ((f2 0), .inl (E.2.2.1, 320, .inl (fun _ => 0))), (q3, .inr (9, [.ref (f4 0), .int 0, .int 0, .int 0])), ((f4 0), .inl (E.2.2.1, 256, .inl (fun _ => 0))), (q5, .inr (8, [.ref (f6 0), .ref (f6 1), .ref (f6 2), .ref (f6 3), .ref (f6 4), .int 0])), ((f6 0), .inl (E.2.2.2.1, 16, .inl (fun _ => 0))), ((f6 1), .inl (E.2.2.2.1, 16, .inl (fun _ => 0))), ((f6 2), .inl (E.2.2.1, 16, .inl (fun _ => 0))), ((f6 3), .inl (E.2.2.1, 16, .inl (fun _ => 0))), ((f6 4), .inl (E.2.2.1, 16, .inl (fun _ => 0))), (q7, .inl (E.2.2.2.2.1, 4, .inr (.inr (.inr (.inr (fun _ => none)))))), (q8, .inr (8, [.ref (f9 0), .ref (f9 1), .ref (f9 2), .ref (f9 3), .ref (f9 4), .int 0])), ((f9 0), .inl (E.2.2.2.1, 16, .inl (fun _ => 0))), ((f9 1), .inl (E.2.2.2.1, 16, .inl (fun _ => 0))), ((f9 2), .inl (E.2.2.1, 16, .inl (fun _ => 0))), ((f9 3), .inl (E.2.2.1, 16, .inl (fun _ => 0))), ((f9 4), .inl (E.2.2.1, 16, .inl (fun _ => 0)))] := hD
  refine W.widen (k := 17) (n := 760) (Nat.le_of_ble_eq_true rfl) (Nat.le_of_ble_eq_true rfl) ?_
  refine va_put (D := E.1) (ci := 3) (v := .ref q8) (ty := .object "BlockPictures$BlockRows") (C := "BlockPictures$PictureDecoder") (T := bF_PD) (N := 11) hx hb htb bc_in_PD bt_PD bt_PD_ok bn_PD hown hK hP hD hS 0 rfl rfl 6 (by decide) (htb _ tw_271) (fun _ h9 => h9) rfl (by decide +kernel) rfl rfl (Nat.le_of_ble_eq_true rfl) (dt_i_PD 25 rfl) (fun H locs hP hD hS => ?_)
  have hP : va_P E.1 bp_cl [(h0, .inr (3, [.ref q1, .ref q3, .ref q5, .ref q7, .int 0, .int 0, .ref q8, .null, .null, .int 0, .int 0])), (q1, .inr (6, [.ref (f2 0), .int 0, .int 0, .int 0])), ((f2 0), .inl (E.2.2.1, 320, .inl (fun _ => 0))), (q3, .inr (9, [.ref (f4 0), .int 0, .int 0, .int 0])), ((f4 0), .inl (E.2.2.1, 256, .inl (fun _ => 0))), (q5, .inr (8, [.ref (f6 0), .ref (f6 1), .ref (f6 2), .ref (f6 3), .ref (f6 4), .int 0])), ((f6 0), .inl (E.2.2.2.1, 16, .inl (fun _ => 0))), ((f6 1), .inl (E.2.2.2.1, 16, .inl (fun _ => 0))), ((f6 2), .inl (E.2.2.1, 16, .inl (fun _ => 0))), ((f6 3), .inl (E.2.2.1, 16, .inl (fun _ => 0))), ((f6 4), .inl (E.2.2.1, 16, .inl (fun _ => 0))), (q7, .inl (E.2.2.2.2.1, 4, .inr (.inr (.inr (.inr (fun _ => none)))))), (q8, .inr (8, [.ref (f9 0), .ref (f9 1), .ref (f9 2), .ref (f9 3), .ref (f9 4), .int 0])), ((f9 0), .inl (E.2.2.2.1, 16, .inl (fun _ => 0))), ((f9 1), .inl (E.2.2.2.1, 16, .inl (fun _ => 0))), ((f9 2), .inl (E.2.2.1, 16, .inl (fun _ => 0))), ((f9 3), .inl (E.2.2.1, 16, .inl (fun _ => 0))), ((f9 4), .inl (E.2.2.1, 16, .inl (fun _ => 0)))] H := hP
  have hD : va_D A [(h0, .inr (3, [.ref q1, .ref q3, .ref q5, .ref q7, .int 0, .int 0, .ref q8, .null, .null, .int 0, .int 0])), (q1, .inr (6, [.ref (f2 0), .int 0, .int 0, .int 0])), ((f2 0), .inl (E.2.2.1, 320, .inl (fun _ => 0))), (q3, .inr (9, [.ref (f4 0), .int 0, .int 0, .int 0])), ((f4 0), .inl (E.2.2.1, 256, .inl (fun _ => 0))), (q5, .inr (8, [.ref (f6 0), .ref (f6 1), .ref (f6 2), .ref (f6 3), .ref (f6 4), .int 0])), ((f6 0), .inl (E.2.2.2.1, 16, .inl (fun _ => 0))), ((f6 1), .inl (E.2.2.2.1, 16, .inl (fun _ => 0))), ((f6 2), .inl (E.2.2.1, 16, .inl (fun _ => 0))), ((f6 3), .inl (E.2.2.1, 16, .inl (fun _ => 0))), ((f6 4), .inl (E.2.2.1, 16, .inl (fun _ => 0))), (q7, .inl (E.2.2.2.2.1, 4, .inr (.inr (.inr (.inr (fun _ => none)))))), (q8, .inr (8, [.ref (f9 0), .ref (f9 1), .ref (f9 2), .ref (f9 3), .ref (f9 4), .int 0])), ((f9 0), .inl (E.2.2.2.1, 16, .inl (fun _ => 0))), ((f9 1), .inl (E.2.2.2.1, 16, .inl (fun _ => 0))), ((f9 2), .inl (E.2.2.1, 16, .inl (fun _ => 0))), ((f9 3), .inl (E.2.2.1, 16, .inl (fun _ => 0))), ((f9 4), .inl (E.2.2.1, 16, .inl (fun _ => 0)))] := hD
  refine lv_aload_n hx hb (dt_i_PD 26 rfl) rfl (lv_at hl 0 rfl) ?_
  refine va_new (ci := 7) (fs := [.null, .null]) (C := "BlockPictures$Motion") (T := bF_MO) (N := 2) hx hb htb bc_in_MO bt_MO bt_MO_ok hown (htb _ tw_246) (htb _ tw_247) (htb _ tw_76) hK hP hD hS hA rfl (fun j hj => by rcases (show j = 0 ∨ j = 1 by omega) with rfl | rfl <;> rfl) (Nat.le_of_ble_eq_true rfl) (Nat.le_of_ble_eq_true rfl) (dt_i_PD 27 rfl) (fun q10 H hP hD hS => ?_)
  have hP : va_P E.1 bp_cl [(h0, .inr (3, [.ref q1, .ref q3, .ref q5, .ref q7, .int 0, .int 0, .ref q8, .null, .null, .int 0, .int 0])), (q1, .inr (6, [.ref (f2 0), .int 0, .int 0, .int 0])), ((f2 0), .inl (E.2.2.1, 320, .inl (fun _ => 0))), (q3, .inr (9, [.ref (f4 0), .int 0, .int 0, .int 0])), ((f4 0), .inl (E.2.2.1, 256, .inl (fun _ => 0))), (q5, .inr (8, [.ref (f6 0), .ref (f6 1), .ref (f6 2), .ref (f6 3), .ref (f6 4), .int 0])), ((f6 0), .inl (E.2.2.2.1, 16, .inl (fun _ => 0))), ((f6 1), .inl (E.2.2.2.1, 16, .inl (fun _ => 0))), ((f6 2), .inl (E.2.2.1, 16, .inl (fun _ => 0))), ((f6 3), .inl (E.2.2.1, 16, .inl (fun _ => 0))), ((f6 4), .inl (E.2.2.1, 16, .inl (fun _ => 0))), (q7, .inl (E.2.2.2.2.1, 4, .inr (.inr (.inr (.inr (fun _ => none)))))), (q8, .inr (8, [.ref (f9 0), .ref (f9 1), .ref (f9 2), .ref (f9 3), .ref (f9 4), .int 0])), ((f9 0), .inl (E.2.2.2.1, 16, .inl (fun _ => 0))), ((f9 1), .inl (E.2.2.2.1, 16, .inl (fun _ => 0))), ((f9 2), .inl (E.2.2.1, 16, .inl (fun _ => 0))), ((f9 3), .inl (E.2.2.1, 16, .inl (fun _ => 0))), ((f9 4), .inl (E.2.2.1, 16, .inl (fun _ => 0))), (q10, .inr (7, [.null, .null]))] H := hP
  have hD : va_D A [(h0, .inr (3, [.ref q1, .ref q3, .ref q5, .ref q7, .int 0, .int 0, .ref q8, .null, .null, .int 0, .int 0])), (q1, .inr (6, [.ref (f2 0), .int 0, .int 0, .int 0])), ((f2 0), .inl (E.2.2.1, 320, .inl (fun _ => 0))), (q3, .inr (9, [.ref (f4 0), .int 0, .int 0, .int 0])), ((f4 0), .inl (E.2.2.1, 256, .inl (fun _ => 0))), (q5, .inr (8, [.ref (f6 0), .ref (f6 1), .ref (f6 2), .ref (f6 3), .ref (f6 4), .int 0])), ((f6 0), .inl (E.2.2.2.1, 16, .inl (fun _ => 0))), ((f6 1), .inl (E.2.2.2.1, 16, .inl (fun _ => 0))), ((f6 2), .inl (E.2.2.1, 16, .inl (fun _ => 0))), ((f6 3), .inl (E.2.2.1, 16, .inl (fun _ => 0))), ((f6 4), .inl (E.2.2.1, 16, .inl (fun _ => 0))), (q7, .inl (E.2.2.2.2.1, 4, .inr (.inr (.inr (.inr (fun _ => none)))))), (q8, .inr (8, [.ref (f9 0), .ref (f9 1), .ref (f9 2), .ref (f9 3), .ref (f9 4), .int 0])), ((f9 0), .inl (E.2.2.2.1, 16, .inl (fun _ => 0))), ((f9 1), .inl (E.2.2.2.1, 16, .inl (fun _ => 0))), ((f9 2), .inl (E.2.2.1, 16, .inl (fun _ => 0))), ((f9 3), .inl (E.2.2.1, 16, .inl (fun _ => 0))), ((f9 4), .inl (E.2.2.1, 16, .inl (fun _ => 0))), (q10, .inr (7, [.null, .null]))] := hD
  refine W.widen (k := 18) (n := 762) (Nat.le_of_ble_eq_true rfl) (Nat.le_of_ble_eq_true rfl) ?_
  refine lv_dup hx hb (dt_i_PD 28 rfl) rfl ?_
  have hPc := hP.sub (ws' := [(q10, .inr (7, [.null, .null]))]) [18] rfl
  have hDc := hD.sub (ws' := [(q10, .inr (7, [.null, .null]))]) [18] (by decide) rfl
  have hFc := va_free (wc := [(q10, .inr (7, [.null, .null]))]) hD hS hA [18] rfl
  refine va_callv (va_runIN (As := []) (rest := [.ref q10, .ref h0]) ⟨hx, hb, hml, hown, htb⟩ (i_MO l E q10 H.size) ⟨va_cnB 0 htb (bp_good tw_250) rfl rfl rfl (hnw _ (List.mem_of_getElem? (i := 5) rfl)) (htb _ tw_76) hd_i_MO ⟨(Nat.le_of_ble_eq_true rfl), (Nat.le_of_ble_eq_true rfl)⟩, rfl, htb _ tw_249⟩ (ic_pre E hK hPc hDc hnw hao) rfl rfl hl.1 rfl (lv_room (Nat.le_of_ble_eq_true rfl)) (dt_i_PD 29 rfl) ⟨(Nat.le_of_ble_eq_true rfl), (Nat.le_of_ble_eq_true rfl)⟩) hS (fun q _ h => hFc q h) hFc (fun f11 t H1 locs ht hvm _ hB hz1 hk1 hS => ?_)
  obtain ⟨hP1, -, hD1⟩ := hB
  rw [ht] at hP1
  obtain ⟨hP, hD⟩ := va_join (wr := [(h0, .inr (3, [.ref q1, .ref q3, .ref q5, .ref q7, .int 0, .int 0, .ref q8, .null, .null, .int 0, .int 0])), (q1, .inr (6, [.ref (f2 0), .int 0, .int 0, .int 0])), ((f2 0), .inl (E.2.2.1, 320, .inl (fun _ => 0))), (q3, .inr (9, [.ref (f4 0), .int 0, .int 0, .int 0])), ((f4 0), .inl (E.2.2.1, 256, .inl (fun _ => 0))), (q5, .inr (8, [.ref (f6 0), .ref (f6 1), .ref (f6 2), .ref (f6 3), .ref (f6 4), .int 0])), ((f6 0), .inl (E.2.2.2.1, 16, .inl (fun _ => 0))), ((f6 1), .inl (E.2.2.2.1, 16, .inl (fun _ => 0))), ((f6 2), .inl (E.2.2.1, 16, .inl (fun _ => 0))), ((f6 3), .inl (E.2.2.1, 16, .inl (fun _ => 0))), ((f6 4), .inl (E.2.2.1, 16, .inl (fun _ => 0))), (q7, .inl (E.2.2.2.2.1, 4, .inr (.inr (.inr (.inr (fun _ => none)))))), (q8, .inr (8, [.ref (f9 0), .ref (f9 1), .ref (f9 2), .ref (f9 3), .ref (f9 4), .int 0])), ((f9 0), .inl (E.2.2.2.1, 16, .inl (fun _ => 0))), ((f9 1), .inl (E.2.2.2.1, 16, .inl (fun _ => 0))), ((f9 2), .inl (E.2.2.1, 16, .inl (fun _ => 0))), ((f9 3), .inl (E.2.2.1, 16, .inl (fun _ => 0))), ((f9 4), .inl (E.2.2.1, 16, .inl (fun _ => 0)))]) (w1 := ic_MO E q10 f11) hP hD [18] [0, 1, 2, 3, 4, 5, 6, 7, 8, 9, 10, 11, 12, 13, 14, 15, 16, 17] rfl rfl (by decide) (by decide) hk1 hFc hP1 hD1
  generalize H1 = H at hP hS ⊢
  have hP : va_P E.1 bp_cl [(h0, .inr (3, [.ref q1, .ref q3, .ref q5, .ref q7, .int 0, .int 0, .ref q8, .null, .null, .int 0, .int 0])), (q1, .inr (6, [.ref (f2 0), .int 0, .int 0, .int 0])), ((f2 0), .inl (E.2.2.1, 320, .inl (fun _ => 0))), (q3, .inr (9, [.ref (f4 0), .int 0, .int 0, .int 0])), ((f4 0), .inl (E.2.2.1, 256, .inl (fun _ => 0))), (q5, .inr (8, [.ref (f6 0), .ref (f6 1), .ref (f6 2), .ref (f6 3), .ref (f6 4), .int 0])), ((f6 0), .inl (E.2.2.2.1, 16, .inl (fun _ => 0))), ((f6 1), .inl (E.2.2.2.1, 16, .inl (fun _ => 0))), ((f6 2), .inl (E.2.2.1, 16, .inl (fun _ => 0))), ((f6 3), .inl (E.2.2.1, 16, .inl (fun _ => 0))), ((f6 4), .inl (E.2.2.1, 16, .inl (fun _ => 0))), (q7, .inl (E.2.2.2.2.1, 4, .inr (.inr (.inr (.inr (fun _ => none)))))), (q8, .inr (8, [.ref (f9 0), .ref (f9 1), .ref (f9 2), .ref (f9 3), .ref (f9 4), .int 0])), ((f9 0), .inl (E.2.2.2.1, 16, .inl (fun _ => 0))), ((f9 1), .inl (E.2.2.2.1, 16, .inl (fun _ => 0))), ((f9 2), .inl (E.2.2.1, 16, .inl (fun _ => 0))), ((f9 3), .inl (E.2.2.1, 16, .inl (fun _ => 0))), ((f9 4), .inl (E.2.2.1, 16, .inl (fun _ => 0))), (q10, .inr (7, [.ref (f11 0), .ref (f11 1)])), ((f11 0), .inl (E.2.2.1, 81, .inl (fun _ => 0))), ((f11 1), .inl (E.2.2.1, 36, .inl (fun _ => 0)))] H := hP
  have hD : va_D A [(h0, .inr (3, [.ref q1, .ref q3, .ref q5, .ref q7, .int 0, .int 0, .ref q8, .null, .null, .int 0, .int 0])), (q1, .inr (6, [.ref (f2 0), .int 0, .int 0, .int 0])), ((f2 0), .inl (E.2.2.1, 320, .inl (fun _ => 0))), (q3, .inr (9, [.ref (f4 0), .int 0, .int 0, .int 0])), ((f4 0), .inl (E.2.2.1, 256, .inl (fun _ => 0))), (q5, .inr (8, [.ref (f6 0), .ref (f6 1), .ref (f6 2), .ref (f6 3), .ref (f6 4), .int 0])), ((f6 0), .inl (E.2.2.2.1, 16, .inl (fun _ => 0))), ((f6 1), .inl (E.2.2.2.1, 16, .inl (fun _ => 0))), ((f6 2), .inl (E.2.2.1, 16, .inl (fun _ => 0))), ((f6 3), .inl (E.2.2.1, 16, .inl (fun _ => 0))), ((f6 4), .inl (E.2.2.1, 16, .inl (fun _ => 0))), (q7, .inl (E.2.2.2.2.1, 4, .inr (.inr (.inr (.inr (fun _ => none)))))), (q8, .inr (8, [.ref (f9 0), .ref (f9 1), .ref (f9 2), .ref (f9 3), .ref (f9 4), .int 0])), ((f9 0), .inl (E.2.2.2.1, 16, .inl (fun _ => 0))), ((f9 1), .inl (E.2.2.2.1, 16, .inl (fun _ => 0))), ((f9 2), .inl (E.2.2.1, 16, .inl (fun _ => 0))), ((f9 3), .inl (E.2.2.1, 16, .inl (fun _ => 0))), ((f9 4), .inl (E.2.2.1, 16, .inl (fun _ => 0))), (q10, .inr (7, [.ref (f11 0), .ref (f11 1)])), ((f11 0), .inl (E.2.2.1, 81, .inl (fun _ => 0))), ((f11 1), .inl (E.2.2.1, 36, .inl (fun _ => 0)))] := hD
  refine W.widen (k := 20) (n := 879) (Nat.le_of_ble_eq_true rfl) (Nat.le_of_ble_eq_true rfl) ?_
  refine va_putF (D := E.1) (ci := 3) (v := .ref q10) (ty := .object "BlockPictures$Motion") (C := "BlockPictures$PictureDecoder") (T := bF_PD) (N := 11) hx hb htb bc_in_PD bt_PD bt_PD_ok bn_PD hown hK hP hD hS 0 rfl rfl 7 (by decide) (htb _ tw_272) (fun _ h9 => h9) rfl hin rfl (by decide +kernel) rfl rfl (Nat.le_of_ble_eq_true rfl) (dt_i_PD 30 rfl) (fun H locs hP hD hS => ?_)
  have hP : va_P E.1 bp_cl [(h0, .inr (3, [.ref q1, .ref q3, .ref q5, .ref q7, .int 0, .int 0, .ref q8, .ref q10, .null, .int 0, .int 0])), (q1, .inr (6, [.ref (f2 0), .int 0, .int 0, .int 0])), ((f2 0), .inl (E.2.2.1, 320, .inl (fun _ => 0))), (q3, .inr (9, [.ref (f4 0), .int 0, .int 0, .int 0])), ((f4 0), .inl (E.2.2.1, 256, .inl (fun _ => 0))), (q5, .inr (8, [.ref (f6 0), .ref (f6 1), .ref (f6 2), .ref (f6 3), .ref (f6 4), .int 0])), ((f6 0), .inl (E.2.2.2.1, 16, .inl (fun _ => 0))), ((f6 1), .inl (E.2.2.2.1, 16, .inl (fun _ => 0))), ((f6 2), .inl (E.2.2.1, 16, .inl (fun _ => 0))), ((f6 3), .inl (E.2.2.1, 16, .inl (fun _ => 0))), ((f6 4), .inl (E.2.2.1, 16, .inl (fun _ => 0))), (q7, .inl (E.2.2.2.2.1, 4, .inr (.inr (.inr (.inr (fun _ => none)))))), (q8, .inr (8, [.ref (f9 0), .ref (f9 1), .ref (f9 2), .ref (f9 3), .ref (f9 4), .int 0])), ((f9 0), .inl (E.2.2.2.1, 16, .inl (fun _ => 0))), ((f9 1), .inl (E.2.2.2.1, 16, .inl (fun _ => 0))), ((f9 2), .inl (E.2.2.1, 16, .inl (fun _ => 0))), ((f9 3), .inl (E.2.2.1, 16, .inl (fun _ => 0))), ((f9 4), .inl (E.2.2.1, 16, .inl (fun _ => 0))), (q10, .inr (7, [.ref (f11 0), .ref (f11 1)])), ((f11 0), .inl (E.2.2.1, 81, .inl (fun _ => 0))), ((f11 1), .inl (E.2.2.1, 36, .inl (fun _ => 0)))] H := hP
  have hD : va_D A [(h0, .inr (3, [.ref q1, .ref q3, .ref q5, .ref q7, .int 0, .int 0, .ref q8, .ref q10, .null, .int 0, .int 0])), (q1, .inr (6, [.ref (f2 0), .int 0, .int 0, .int 0])), ((f2 0), .inl (E.2.2.1, 320, .inl (fun _ => 0))), (q3, .inr (9, [.ref (f4 0), .int 0, .int 0, .int 0])), ((f4 0), .inl (E.2.2.1, 256, .inl (fun _ => 0))), (q5, .inr (8, [.ref (f6 0), .ref (f6 1), .ref (f6 2), .ref (f6 3), .ref (f6 4), .int 0])), ((f6 0), .inl (E.2.2.2.1, 16, .inl (fun _ => 0))), ((f6 1), .inl (E.2.2.2.1, 16, .inl (fun _ => 0))), ((f6 2), .inl (E.2.2.1, 16, .inl (fun _ => 0))), ((f6 3), .inl (E.2.2.1, 16, .inl (fun _ => 0))), ((f6 4), .inl (E.2.2.1, 16, .inl (fun _ => 0))), (q7, .inl (E.2.2.2.2.1, 4, .inr (.inr (.inr (.inr (fun _ => none)))))), (q8, .inr (8, [.ref (f9 0), .ref (f9 1), .ref (f9 2), .ref (f9 3), .ref (f9 4), .int 0])), ((f9 0), .inl (E.2.2.2.1, 16, .inl (fun _ => 0))), ((f9 1), .inl (E.2.2.2.1, 16, .inl (fun _ => 0))), ((f9 2), .inl (E.2.2.1, 16, .inl (fun _ => 0))), ((f9 3), .inl (E.2.2.1, 16, .inl (fun _ => 0))), ((f9 4), .inl (E.2.2.1, 16, .inl (fun _ => 0))), (q10, .inr (7, [.ref (f11 0), .ref (f11 1)])), ((f11 0), .inl (E.2.2.1, 81, .inl (fun _ => 0))), ((f11 1), .inl (E.2.2.1, 36, .inl (fun _ => 0)))] := hD
  refine lv_aload_n hx hb (dt_i_PD 31 rfl) rfl (lv_at hl 0 rfl) ?_
  refine lv_bipush (v := 16) hx hb (dt_i_PD 32 rfl) (by decide) ?_
  refine bp_newa (atype := .int) (ty := .int) (a0 := (16, .inl (fun _ => 0))) hx hb (htb _ tw_120) rfl (Or.inl rfl) hK hP hD hS hA 0 rfl (fun _ => rfl) (by decide) (by decide) (Nat.le_of_ble_eq_true rfl) (Nat.le_of_ble_eq_true rfl) (Nat.le_of_ble_eq_true rfl) (dt_i_PD 33 rfl) (fun q12 H hP hD hS => ?_)
  have hP : va_P E.1 bp_cl [(h0, .inr (3, [.ref q1, .ref q3, .ref q5, .ref q7, .int 0, .int 0, .ref q8, .ref q10, .null, .int 0, .int 0])), (q1, .inr (6, [.ref (f2 0), .int 0, .int 0, .int 0])), ((f2 0), .inl (E.2.2.1, 320, .inl (fun _ => 0))), (q3, .inr (9, [.ref (f4 0), .int 0, .int 0, .int 0])), ((f4 0), .inl (E.2.2.1, 256, .inl (fun _ => 0))), (q5, .inr (8, [.ref (f6 0), .ref (f6 1), .ref (f6 2), .ref (f6 3), .ref (f6 4), .int 0])), ((f6 0), .inl (E.2.2.2.1, 16, .inl (fun _ => 0))), ((f6 1), .inl (E.2.2.2.1, 16, .inl (fun _ => 0))), ((f6 2), .inl (E.2.2.1, 16, .inl (fun _ => 0))), ((f6 3), .inl (E.2.2.1, 16, .inl (fun _ => 0))), ((f6 4), .inl (E.2.2.1, 16, .inl (fun _ => 0))), (q7, .inl (E.2.2.2.2.1, 4, .inr (.inr (.inr (.inr (fun _ => none)))))), (q8, .inr (8, [.ref (f9 0), .ref (f9 1), .ref (f9 2), .ref (f9 3), .ref (f9 4), .int 0])), ((f9 0), .inl (E.2.2.2.1, 16, .inl (fun _ => 0))), ((f9 1), .inl (E.2.2.2.1, 16, .inl (fun _ => 0))), ((f9 2), .inl (E.2.2.1, 16, .inl (fun _ => 0))), ((f9 3), .inl (E.2.2.1, 16, .inl (fun _ => 0))), ((f9 4), .inl (E.2.2.1, 16, .inl (fun _ => 0))), (q10, .inr (7, [.ref (f11 0), .ref (f11 1)])), ((f11 0), .inl (E.2.2.1, 81, .inl (fun _ => 0))), ((f11 1), .inl (E.2.2.1, 36, .inl (fun _ => 0))), (q12, .inl (E.2.2.1, 16, .inl (fun _ => 0)))] H := hP
  have hD : va_D A [(h0, .inr (3, [.ref q1, .ref q3, .ref q5, .ref q7, .int 0, .int 0, .ref q8, .ref q10, .null, .int 0, .int 0])), (q1, .inr (6, [.ref (f2 0), .int 0, .int 0, .int 0])), ((f2 0), .inl (E.2.2.1, 320, .inl (fun _ => 0))), (q3, .inr (9, [.ref (f4 0), .int 0, .int 0, .int 0])), ((f4 0), .inl (E.2.2.1, 256, .inl (fun _ => 0))), (q5, .inr (8, [.ref (f6 0), .ref (f6 1), .ref (f6 2), .ref (f6 3), .ref (f6 4), .int 0])), ((f6 0), .inl (E.2.2.2.1, 16, .inl (fun _ => 0))), ((f6 1), .inl (E.2.2.2.1, 16, .inl (fun _ => 0))), ((f6 2), .inl (E.2.2.1, 16, .inl (fun _ => 0))), ((f6 3), .inl (E.2.2.1, 16, .inl (fun _ => 0))), ((f6 4), .inl (E.2.2.1, 16, .inl (fun _ => 0))), (q7, .inl (E.2.2.2.2.1, 4, .inr (.inr (.inr (.inr (fun _ => none)))))), (q8, .inr (8, [.ref (f9 0), .ref (f9 1), .ref (f9 2), .ref (f9 3), .ref (f9 4), .int 0])), ((f9 0), .inl (E.2.2.2.1, 16, .inl (fun _ => 0))), ((f9 1), .inl (E.2.2.2.1, 16, .inl (fun _ => 0))), ((f9 2), .inl (E.2.2.1, 16, .inl (fun _ => 0))), ((f9 3), .inl (E.2.2.1, 16, .inl (fun _ => 0))), ((f9 4), .inl (E.2.2.1, 16, .inl (fun _ => 0))), (q10, .inr (7, [.ref (f11 0), .ref (f11 1)])), ((f11 0), .inl (E.2.2.1, 81, .inl (fun _ => 0))), ((f11 1), .inl (E.2.2.1, 36, .inl (fun _ => 0))), (q12, .inl (E.2.2.1, 16, .inl (fun _ => 0)))] := hD
  refine W.widen (k := 21) (n := 895) (Nat.le_of_ble_eq_true rfl) (Nat.le_of_ble_eq_true rfl) ?_
  refine va_putF (D := E.1) (ci := 3) (v := .ref q12) (ty := .array .int) (C := "BlockPictures$PictureDecoder") (T := bF_PD) (N := 11) hx hb htb bc_in_PD bt_PD bt_PD_ok bn_PD hown hK hP hD hS 0 rfl rfl 8 (by decide) (htb _ tw_273) (fun _ h9 => h9) rfl hin rfl (by decide +kernel) rfl rfl (Nat.le_of_ble_eq_true rfl) (dt_i_PD 34 rfl) (fun H locs hP hD hS => ?_)
  have hP : va_P E.1 bp_cl [(h0, .inr (3, [.ref q1, .ref q3, .ref q5, .ref q7, .int 0, .int 0, .ref q8, .ref q10, .ref q12, .int 0, .int 0])), (q1, .inr (6, [.ref (f2 0), .int 0, .int 0, .int 0])), ((f2 0), .inl (E.2.2.1, 320, .inl (fun _ => 0))), (q3, .inr (9, [.ref (f4 0), .int 0, .int 0, .int 0])), ((f4 0), .inl (E.2.2.1, 256, .inl (fun _ => 0))), (q5, .inr (8, [.ref (f6 0), .ref (f6 1), .ref (f6 2), .ref (f6 3), .ref (f6 4), .int 0])), ((f6 0), .inl (E.2.2.2.1, 16, .inl (fun _ => 0))), ((f6 1), .inl (E.2.2.2.1, 16, .inl (fun _ => 0))), ((f6 2), .inl (E.2.2.1, 16, .inl (fun _ => 0))), ((f6 3), .inl (E.2.2.1, 16, .inl (fun _ => 0))), ((f6 4), .inl (E.2.2.1, 16, .inl (fun _ => 0))), (q7, .inl (E.2.2.2.2.1, 4, .inr (.inr (.inr (.inr (fun _ => none)))))), (q8, .inr (8, [.ref (f9 0), .ref (f9 1), .ref (f9 2), .ref (f9 3), .ref (f9 4), .int 0])), ((f9 0), .inl (E.2.2.2.1, 16, .inl (fun _ => 0))), ((f9 1), .inl (E.2.2.2.1, 16, .inl (fun _ => 0))), ((f9 2), .inl (E.2.2.1, 16, .inl (fun _ => 0))), ((f9 3), .inl (E.2.2.1, 16, .inl (fun _ => 0))), ((f9 4), .inl (E.2.2.1, 16, .inl (fun _ => 0))), (q10, .inr (7, [.ref (f11 0), .ref (f11 1)])), ((f11 0), .inl (E.2.2.1, 81, .inl (fun _ => 0))), ((f11 1), .inl (E.2.2.1, 36, .inl (fun _ => 0))), (q12, .inl (E.2.2.1, 16, .inl (fun _ => 0)))] H := hP
  have hD : va_D A [(h0, .inr (3, [.ref q1, .ref q3, .ref q5, .ref q7, .int 0, .int 0, .ref q8, .ref q10, .ref q12, .int 0, .int 0])), (q1, .inr (6, [.ref (f2 0), .int 0, .int 0, .int 0])), ((f2 0), .inl (E.2.2.1, 320, .inl (fun _ => 0))), (q3, .inr (9, [.ref (f4 0), .int 0, .int 0, .int 0])), ((f4 0), .inl (E.2.2.1, 256, .inl (fun _ => 0))), (q5, .inr (8, [.ref (f6 0), .ref (f6 1), .ref (f6 2), .ref (f6 3), .ref (f6 4), .int 0])), ((f6 0), .inl (E.2.2.2.1, 16, .inl (fun _ => 0))), ((f6 1), .inl (E.2.2.2.1, 16, .inl (fun _ => 0))), ((f6 2), .inl (E.2.2.1, 16, .inl (fun _ => 0))), ((f6 3), .inl (E.2.2.1, 16, .inl (fun _ => 0))), ((f6 4), .inl (E.2.2.1, 16, .inl (fun _ => 0))), (q7, .inl (E.2.2.2.2.1, 4, .inr (.inr (.inr (.inr (fun _ => none)))))), (q8, .inr (8, [.ref (f9 0), .ref (f9 1), .ref (f9 2), .ref (f9 3), .ref (f9 4), .int 0])), ((f9 0), .inl (E.2.2.2.1, 16, .inl (fun _ => 0))), ((f9 1), .inl (E.2.2.2.1, 16, .inl (fun _ => 0))), ((f9 2), .inl (E.2.2.1, 16, .inl (fun _ => 0))), ((f9 3), .inl (E.2.2.1, 16, .inl (fun _ => 0))), ((f9 4), .inl (E.2.2.1, 16, .inl (fun _ => 0))), (q10, .inr (7, [.ref (f11 0), .ref (f11 1)])), ((f11 0), .inl (E.2.2.1, 81, .inl (fun _ => 0))), ((f11 1), .inl (E.2.2.1, 36, .inl (fun _ => 0))), (q12, .inl (E.2.2.1, 16, .inl (fun _ => 0)))] := hD
  refine lv_iconst (v := 0) hx hb (dt_i_PD 35 rfl) (by decide) ?_
  refine lv_istore_n hx hb (dt_i_PD 36 rfl) rfl hl (Nat.le_of_ble_eq_true rfl) rfl (fun ls hl => ?_)
  have hl : lv_has ls 2 [(1, .int 0), (0, .ref h0)] := hl
  refine lv_iload_n hx hb (dt_i_PD 37 rfl) rfl (lv_at hl 0 rfl) ?_
  refine lv_iconst (v := 4) hx hb (dt_i_PD 38 rfl) (by decide) ?_
  refine lv_icmp_ge (tgt := 98) hx hb (dt_i_PD 39 rfl) (by decide) (fun hc => absurd hc (by decide)) (fun _ => ?_)
  refine lv_aload_n hx hb (dt_i_PD 40 rfl) rfl (lv_at hl 1 rfl) ?_
  refine va_get (D := E.1) (ci := 3) (v := .ref q7) (C := "BlockPictures$PictureDecoder") (T := bF_PD) (N := 11) hx hb htb bc_in_PD hown hK hP 0 rfl rfl 3 (by decide) (htb _ tw_265) (fun _ h9 => h9) rfl (dt_i_PD 41 rfl) ?_
  refine lv_iload_n hx hb (dt_i_PD 42 rfl) rfl (lv_at hl 0 rfl) ?_
  refine lv_aload_n hx hb (dt_i_PD 43 rfl) rfl (lv_at hl 1 rfl) ?_
  refine va_get (D := E.1) (ci := 3) (v := .ref q3) (C := "BlockPictures$PictureDecoder") (T := bF_PD) (N := 11) hx hb htb bc_in_PD hown hK hP 0 rfl rfl 1 (by decide) (htb _ tw_261) (fun _ h9 => h9) rfl (dt_i_PD 44 rfl) ?_
  refine va_astq (i := 0) hx hb hK hP hD hS 11 2 3 9 rfl rfl rfl rfl (by unfold vp_in; decide) (dt_i_PD 45 rfl) (fun H locs hP hD hS => ?_)
  have hP : va_P E.1 bp_cl [(h0, .inr (3, [.ref q1, .ref q3, .ref q5, .ref q7, .int 0, .int 0, .ref q8, .ref q10, .ref q12, .int 0, .int 0])), (q1, .inr (6, [.ref (f2 0), .int 0, .int 0, .int 0])), ((f2 0), .inl (E.2.2.1, 320, .inl (fun _ => 0))), (q3, .inr (9, [.ref (f4 0), .int 0, .int 0, .int 0])), ((f4 0), .inl (E.2.2.1, 256, .inl (fun _ => 0))), (q5, .inr (8, [.ref (f6 0), .ref (f6 1), .ref (f6 2), .ref (f6 3), .ref (f6 4), .int 0])), ((f6 0), .inl (E.2.2.2.1, 16, .inl (fun _ => 0))), ((f6 1), .inl (E.2.2.2.1, 16, .inl (fun _ => 0))), ((f6 2), .inl (E.2.2.1, 16, .inl (fun _ => 0))), ((f6 3), .inl (E.2.2.1, 16, .inl (fun _ => 0))), ((f6 4), .inl (E.2.2.1, 16, .inl (fun _ => 0))), (q7, .inl (E.2.2.2.2.1, 4, .inr (.inr (.inr (.inr (va_up (fun _ => none) 0 (some q3))))))), (q8, .inr (8, [.ref (f9 0), .ref (f9 1), .ref (f9 2), .ref (f9 3), .ref (f9 4), .int 0])), ((f9 0), .inl (E.2.2.2.1, 16, .inl (fun _ => 0))), ((f9 1), .inl (E.2.2.2.1, 16, .inl (fun _ => 0))), ((f9 2), .inl (E.2.2.1, 16, .inl (fun _ => 0))), ((f9 3), .inl (E.2.2.1, 16, .inl (fun _ => 0))), ((f9 4), .inl (E.2.2.1, 16, .inl (fun _ => 0))), (q10, .inr (7, [.ref (f11 0), .ref (f11 1)])), ((f11 0), .inl (E.2.2.1, 81, .inl (fun _ => 0))), ((f11 1), .inl (E.2.2.1, 36, .inl (fun _ => 0))), (q12, .inl (E.2.2.1, 16, .inl (fun _ => 0)))] H := hP
  have hD : va_D A [(h0, .inr (3, [.ref q1, .ref q3, .ref q5, .ref q7, .int 0, .int 0, .ref q8, .ref q10, .ref q12, .int 0, .int 0])), (q1, .inr (6, [.ref (f2 0), .int 0, .int 0, .int 0])), ((f2 0), .inl (E.2.2.1, 320, .inl (fun _ => 0))), (q3, .inr (9, [.ref (f4 0), .int 0, .int 0, .int 0])), ((f4 0), .inl (E.2.2.1, 256, .inl (fun _ => 0))), (q5, .inr (8, [.ref (f6 0), .ref (f6 1), .ref (f6 2), .ref (f6 3), .ref (f6 4), .int 0])), ((f6 0), .inl (E.2.2.2.1, 16, .inl (fun _ => 0))), ((f6 1), .inl (E.2.2.2.1, 16, .inl (fun _ => 0))), ((f6 2), .inl (E.2.2.1, 16, .inl (fun _ => 0))), ((f6 3), .inl (E.2.2.1, 16, .inl (fun _ => 0))), ((f6 4), .inl (E.2.2.1, 16, .inl (fun _ => 0))), (q7, .inl (E.2.2.2.2.1, 4, .inr (.inr (.inr (.inr (va_up (fun _ => none) 0 (some q3))))))), (q8, .inr (8, [.ref (f9 0), .ref (f9 1), .ref (f9 2), .ref (f9 3), .ref (f9 4), .int 0])), ((f9 0), .inl (E.2.2.2.1, 16, .inl (fun _ => 0))), ((f9 1), .inl (E.2.2.2.1, 16, .inl (fun _ => 0))), ((f9 2), .inl (E.2.2.1, 16, .inl (fun _ => 0))), ((f9 3), .inl (E.2.2.1, 16, .inl (fun _ => 0))), ((f9 4), .inl (E.2.2.1, 16, .inl (fun _ => 0))), (q10, .inr (7, [.ref (f11 0), .ref (f11 1)])), ((f11 0), .inl (E.2.2.1, 81, .inl (fun _ => 0))), ((f11 1), .inl (E.2.2.1, 36, .inl (fun _ => 0))), (q12, .inl (E.2.2.1, 16, .inl (fun _ => 0)))] := hD
  refine lv_iinc (k := 0) (v := 1) hx hb (dt_i_PD 46 rfl) hl rfl (by decide) (Nat.le_of_ble_eq_true rfl) rfl (fun ls hl => ?_)
  have hl : lv_has ls 2 [(1, .int 1), (0, .ref h0)] := hl
  refine lv_goto (tgt := 77) hx hb (dt_i_PD 47 rfl) (by decide) ?_
  refine lv_iload_n hx hb (dt_i_PD 37 rfl) rfl (lv_at hl 0 rfl) ?_
  refine lv_iconst (v := 4) hx hb (dt_i_PD 38 rfl) (by decide) ?_
  refine lv_icmp_ge (tgt := 98) hx hb (dt_i_PD 39 rfl) (by decide) (fun hc => absurd hc (by decide)) (fun _ => ?_)
  refine lv_aload_n hx hb (dt_i_PD 40 rfl) rfl (lv_at hl 1 rfl) ?_
  refine va_get (D := E.1) (ci := 3) (v := .ref q7) (C := "BlockPictures$PictureDecoder") (T := bF_PD) (N := 11) hx hb htb bc_in_PD hown hK hP 0 rfl rfl 3 (by decide) (htb _ tw_265) (fun _ h9 => h9) rfl (dt_i_PD 41 rfl) ?_
  refine lv_iload_n hx hb (dt_i_PD 42 rfl) rfl (lv_at hl 0 rfl) ?_
  refine lv_aload_n hx hb (dt_i_PD 43 rfl) rfl (lv_at hl 1 rfl) ?_
  refine va_get (D := E.1) (ci := 3) (v := .ref q3) (C := "BlockPictures$PictureDecoder") (T := bF_PD) (N := 11) hx hb htb bc_in_PD hown hK hP 0 rfl rfl 1 (by decide) (htb _ tw_261) (fun _ h9 => h9) rfl (dt_i_PD 44 rfl) ?_
  refine va_astq (i := 1) hx hb hK hP hD hS 11 2 3 9 rfl rfl rfl rfl (by unfold vp_in; decide) (dt_i_PD 45 rfl) (fun H locs hP hD hS => ?_)
  have hP : va_P E.1 bp_cl [(h0, .inr (3, [.ref q1, .ref q3, .ref q5, .ref q7, .int 0, .int 0, .ref q8, .ref q10, .ref q12, .int 0, .int 0])), (q1, .inr (6, [.ref (f2 0), .int 0, .int 0, .int 0])), ((f2 0), .inl (E.2.2.1, 320, .inl (fun _ => 0))), (q3, .inr (9, [.ref (f4 0), .int 0, .int 0, .int 0])), ((f4 0), .inl (E.2.2.1, 256, .inl (fun _ => 0))), (q5, .inr (8, [.ref (f6 0), .ref (f6 1), .ref (f6 2), .ref (f6 3), .ref (f6 4), .int 0])), ((f6 0), .inl (E.2.2.2.1, 16, .inl (fun _ => 0))), ((f6 1), .inl (E.2.2.2.1, 16, .inl (fun _ => 0))), ((f6 2), .inl (E.2.2.1, 16, .inl (fun _ => 0))), ((f6 3), .inl (E.2.2.1, 16, .inl (fun _ => 0))), ((f6 4), .inl (E.2.2.1, 16, .inl (fun _ => 0))), (q7, .inl (E.2.2.2.2.1, 4, .inr (.inr (.inr (.inr (va_up (va_up (fun _ => none) 0 (some q3)) 1 (some q3))))))), (q8, .inr (8, [.ref (f9 0), .ref (f9 1), .ref (f9 2), .ref (f9 3), .ref (f9 4), .int 0])), ((f9 0), .inl (E.2.2.2.1, 16, .inl (fun _ => 0))), ((f9 1), .inl (E.2.2.2.1, 16, .inl (fun _ => 0))), ((f9 2), .inl (E.2.2.1, 16, .inl (fun _ => 0))), ((f9 3), .inl (E.2.2.1, 16, .inl (fun _ => 0))), ((f9 4), .inl (E.2.2.1, 16, .inl (fun _ => 0))), (q10, .inr (7, [.ref (f11 0), .ref (f11 1)])), ((f11 0), .inl (E.2.2.1, 81, .inl (fun _ => 0))), ((f11 1), .inl (E.2.2.1, 36, .inl (fun _ => 0))), (q12, .inl (E.2.2.1, 16, .inl (fun _ => 0)))] H := hP
  have hD : va_D A [(h0, .inr (3, [.ref q1, .ref q3, .ref q5, .ref q7, .int 0, .int 0, .ref q8, .ref q10, .ref q12, .int 0, .int 0])), (q1, .inr (6, [.ref (f2 0), .int 0, .int 0, .int 0])), ((f2 0), .inl (E.2.2.1, 320, .inl (fun _ => 0))), (q3, .inr (9, [.ref (f4 0), .int 0, .int 0, .int 0])), ((f4 0), .inl (E.2.2.1, 256, .inl (fun _ => 0))), (q5, .inr (8, [.ref (f6 0), .ref (f6 1), .ref (f6 2), .ref (f6 3), .ref (f6 4), .int 0])), ((f6 0), .inl (E.2.2.2.1, 16, .inl (fun _ => 0))), ((f6 1), .inl (E.2.2.2.1, 16, .inl (fun _ => 0))), ((f6 2), .inl (E.2.2.1, 16, .inl (fun _ => 0))), ((f6 3), .inl (E.2.2.1, 16, .inl (fun _ => 0))), ((f6 4), .inl (E.2.2.1, 16, .inl (fun _ => 0))), (q7, .inl (E.2.2.2.2.1, 4, .inr (.inr (.inr (.inr (va_up (va_up (fun _ => none) 0 (some q3)) 1 (some q3))))))), (q8, .inr (8, [.ref (f9 0), .ref (f9 1), .ref (f9 2), .ref (f9 3), .ref (f9 4), .int 0])), ((f9 0), .inl (E.2.2.2.1, 16, .inl (fun _ => 0))), ((f9 1), .inl (E.2.2.2.1, 16, .inl (fun _ => 0))), ((f9 2), .inl (E.2.2.1, 16, .inl (fun _ => 0))), ((f9 3), .inl (E.2.2.1, 16, .inl (fun _ => 0))), ((f9 4), .inl (E.2.2.1, 16, .inl (fun _ => 0))), (q10, .inr (7, [.ref (f11 0), .ref (f11 1)])), ((f11 0), .inl (E.2.2.1, 81, .inl (fun _ => 0))), ((f11 1), .inl (E.2.2.1, 36, .inl (fun _ => 0))), (q12, .inl (E.2.2.1, 16, .inl (fun _ => 0)))] := hD
  refine lv_iinc (k := 0) (v := 2) hx hb (dt_i_PD 46 rfl) hl rfl (by decide) (Nat.le_of_ble_eq_true rfl) rfl (fun ls hl => ?_)
  have hl : lv_has ls 2 [(1, .int 2), (0, .ref h0)] := hl
  refine lv_goto (tgt := 77) hx hb (dt_i_PD 47 rfl) (by decide) ?_
  refine lv_iload_n hx hb (dt_i_PD 37 rfl) rfl (lv_at hl 0 rfl) ?_
  refine lv_iconst (v := 4) hx hb (dt_i_PD 38 rfl) (by decide) ?_
  refine lv_icmp_ge (tgt := 98) hx hb (dt_i_PD 39 rfl) (by decide) (fun hc => absurd hc (by decide)) (fun _ => ?_)
  refine lv_aload_n hx hb (dt_i_PD 40 rfl) rfl (lv_at hl 1 rfl) ?_
  refine va_get (D := E.1) (ci := 3) (v := .ref q7) (C := "BlockPictures$PictureDecoder") (T := bF_PD) (N := 11) hx hb htb bc_in_PD hown hK hP 0 rfl rfl 3 (by decide) (htb _ tw_265) (fun _ h9 => h9) rfl (dt_i_PD 41 rfl) ?_
  refine lv_iload_n hx hb (dt_i_PD 42 rfl) rfl (lv_at hl 0 rfl) ?_
  refine lv_aload_n hx hb (dt_i_PD 43 rfl) rfl (lv_at hl 1 rfl) ?_
  refine va_get (D := E.1) (ci := 3) (v := .ref q3) (C := "BlockPictures$PictureDecoder") (T := bF_PD) (N := 11) hx hb htb bc_in_PD hown hK hP 0 rfl rfl 1 (by decide) (htb _ tw_261) (fun _ h9 => h9) rfl (dt_i_PD 44 rfl) ?_
  refine va_astq (i := 2) hx hb hK hP hD hS 11 2 3 9 rfl rfl rfl rfl (by unfold vp_in; decide) (dt_i_PD 45 rfl) (fun H locs hP hD hS => ?_)
  have hP : va_P E.1 bp_cl [(h0, .inr (3, [.ref q1, .ref q3, .ref q5, .ref q7, .int 0, .int 0, .ref q8, .ref q10, .ref q12, .int 0, .int 0])), (q1, .inr (6, [.ref (f2 0), .int 0, .int 0, .int 0])), ((f2 0), .inl (E.2.2.1, 320, .inl (fun _ => 0))), (q3, .inr (9, [.ref (f4 0), .int 0, .int 0, .int 0])), ((f4 0), .inl (E.2.2.1, 256, .inl (fun _ => 0))), (q5, .inr (8, [.ref (f6 0), .ref (f6 1), .ref (f6 2), .ref (f6 3), .ref (f6 4), .int 0])), ((f6 0), .inl (E.2.2.2.1, 16, .inl (fun _ => 0))), ((f6 1), .inl (E.2.2.2.1, 16, .inl (fun _ => 0))), ((f6 2), .inl (E.2.2.1, 16, .inl (fun _ => 0))), ((f6 3), .inl (E.2.2.1, 16, .inl (fun _ => 0))), ((f6 4), .inl (E.2.2.1, 16, .inl (fun _ => 0))), (q7, .inl (E.2.2.2.2.1, 4, .inr (.inr (.inr (.inr (va_up (va_up (va_up (fun _ => none) 0 (some q3)) 1 (some q3)) 2 (some q3))))))), (q8, .inr (8, [.ref (f9 0), .ref (f9 1), .ref (f9 2), .ref (f9 3), .ref (f9 4), .int 0])), ((f9 0), .inl (E.2.2.2.1, 16, .inl (fun _ => 0))), ((f9 1), .inl (E.2.2.2.1, 16, .inl (fun _ => 0))), ((f9 2), .inl (E.2.2.1, 16, .inl (fun _ => 0))), ((f9 3), .inl (E.2.2.1, 16, .inl (fun _ => 0))), ((f9 4), .inl (E.2.2.1, 16, .inl (fun _ => 0))), (q10, .inr (7, [.ref (f11 0), .ref (f11 1)])), ((f11 0), .inl (E.2.2.1, 81, .inl (fun _ => 0))), ((f11 1), .inl (E.2.2.1, 36, .inl (fun _ => 0))), (q12, .inl (E.2.2.1, 16, .inl (fun _ => 0)))] H := hP
  have hD : va_D A [(h0, .inr (3, [.ref q1, .ref q3, .ref q5, .ref q7, .int 0, .int 0, .ref q8, .ref q10, .ref q12, .int 0, .int 0])), (q1, .inr (6, [.ref (f2 0), .int 0, .int 0, .int 0])), ((f2 0), .inl (E.2.2.1, 320, .inl (fun _ => 0))), (q3, .inr (9, [.ref (f4 0), .int 0, .int 0, .int 0])), ((f4 0), .inl (E.2.2.1, 256, .inl (fun _ => 0))), (q5, .inr (8, [.ref (f6 0), .ref (f6 1), .ref (f6 2), .ref (f6 3), .ref (f6 4), .int 0])), ((f6 0), .inl (E.2.2.2.1, 16, .inl (fun _ => 0))), ((f6 1), .inl (E.2.2.2.1, 16, .inl (fun _ => 0))), ((f6 2), .inl (E.2.2.1, 16, .inl (fun _ => 0))), ((f6 3), .inl (E.2.2.1, 16, .inl (fun _ => 0))), ((f6 4), .inl (E.2.2.1, 16, .inl (fun _ => 0))), (q7, .inl (E.2.2.2.2.1, 4, .inr (.inr (.inr (.inr (va_up (va_up (va_up (fun _ => none) 0 (some q3)) 1 (some q3)) 2 (some q3))))))), (q8, .inr (8, [.ref (f9 0), .ref (f9 1), .ref (f9 2), .ref (f9 3), .ref (f9 4), .int 0])), ((f9 0), .inl (E.2.2.2.1, 16, .inl (fun _ => 0))), ((f9 1), .inl (E.2.2.2.1, 16, .inl (fun _ => 0))), ((f9 2), .inl (E.2.2.1, 16, .inl (fun _ => 0))), ((f9 3), .inl (E.2.2.1, 16, .inl (fun _ => 0))), ((f9 4), .inl (E.2.2.1, 16, .inl (fun _ => 0))), (q10, .inr (7, [.ref (f11 0), .ref (f11 1)])), ((f11 0), .inl (E.2.2.1, 81, .inl (fun _ => 0))), ((f11 1), .inl (E.2.2.1, 36, .inl (fun _ => 0))), (q12, .inl (E.2.2.1, 16, .inl (fun _ => 0)))] := hD
  refine lv_iinc (k := 0) (v := 3) hx hb (dt_i_PD 46 rfl) hl rfl (by decide) (Nat.le_of_ble_eq_true rfl) rfl (fun ls hl => ?_)
  have hl : lv_has ls 2 [(1, .int 3), (0, .ref h0)] := hl
  refine lv_goto (tgt := 77) hx hb (dt_i_PD 47 rfl) (by decide) ?_
  refine lv_iload_n hx hb (dt_i_PD 37 rfl) rfl (lv_at hl 0 rfl) ?_
  refine lv_iconst (v := 4) hx hb (dt_i_PD 38 rfl) (by decide) ?_
  refine lv_icmp_ge (tgt := 98) hx hb (dt_i_PD 39 rfl) (by decide) (fun hc => absurd hc (by decide)) (fun _ => ?_)
  refine lv_aload_n hx hb (dt_i_PD 40 rfl) rfl (lv_at hl 1 rfl) ?_
  refine va_get (D := E.1) (ci := 3) (v := .ref q7) (C := "BlockPictures$PictureDecoder") (T := bF_PD) (N := 11) hx hb htb bc_in_PD hown hK hP 0 rfl rfl 3 (by decide) (htb _ tw_265) (fun _ h9 => h9) rfl (dt_i_PD 41 rfl) ?_
  refine lv_iload_n hx hb (dt_i_PD 42 rfl) rfl (lv_at hl 0 rfl) ?_
  refine lv_aload_n hx hb (dt_i_PD 43 rfl) rfl (lv_at hl 1 rfl) ?_
  refine va_get (D := E.1) (ci := 3) (v := .ref q3) (C := "BlockPictures$PictureDecoder") (T := bF_PD) (N := 11) hx hb htb bc_in_PD hown hK hP 0 rfl rfl 1 (by decide) (htb _ tw_261) (fun _ h9 => h9) rfl (dt_i_PD 44 rfl) ?_
  refine va_astq (i := 3) hx hb hK hP hD hS 11 2 3 9 rfl rfl rfl rfl (by unfold vp_in; decide) (dt_i_PD 45 rfl) (fun H locs hP hD hS => ?_)
  have hP : va_P E.1 bp_cl [(h0, .inr (3, [.ref q1, .ref q3, .ref q5, .ref q7, .int 0, .int 0, .ref q8, .ref q10, .ref q12, .int 0, .int 0])), (q1, .inr (6, [.ref (f2 0), .int 0, .int 0, .int 0])), ((f2 0), .inl (E.2.2.1, 320, .inl (fun _ => 0))), (q3, .inr (9, [.ref (f4 0), .int 0, .int 0, .int 0])), ((f4 0), .inl (E.2.2.1, 256, .inl (fun _ => 0))), (q5, .inr (8, [.ref (f6 0), .ref (f6 1), .ref (f6 2), .ref (f6 3), .ref (f6 4), .int 0])), ((f6 0), .inl (E.2.2.2.1, 16, .inl (fun _ => 0))), ((f6 1), .inl (E.2.2.2.1, 16, .inl (fun _ => 0))), ((f6 2), .inl (E.2.2.1, 16, .inl (fun _ => 0))), ((f6 3), .inl (E.2.2.1, 16, .inl (fun _ => 0))), ((f6 4), .inl (E.2.2.1, 16, .inl (fun _ => 0))), (q7, .inl (E.2.2.2.2.1, 4, .inr (.inr (.inr (.inr (va_up (va_up (va_up (va_up (fun _ => none) 0 (some q3)) 1 (some q3)) 2 (some q3)) 3 (some q3))))))), (q8, .inr (8, [.ref (f9 0), .ref (f9 1), .ref (f9 2), .ref (f9 3), .ref (f9 4), .int 0])), ((f9 0), .inl (E.2.2.2.1, 16, .inl (fun _ => 0))), ((f9 1), .inl (E.2.2.2.1, 16, .inl (fun _ => 0))), ((f9 2), .inl (E.2.2.1, 16, .inl (fun _ => 0))), ((f9 3), .inl (E.2.2.1, 16, .inl (fun _ => 0))), ((f9 4), .inl (E.2.2.1, 16, .inl (fun _ => 0))), (q10, .inr (7, [.ref (f11 0), .ref (f11 1)])), ((f11 0), .inl (E.2.2.1, 81, .inl (fun _ => 0))), ((f11 1), .inl (E.2.2.1, 36, .inl (fun _ => 0))), (q12, .inl (E.2.2.1, 16, .inl (fun _ => 0)))] H := hP
  have hD : va_D A [(h0, .inr (3, [.ref q1, .ref q3, .ref q5, .ref q7, .int 0, .int 0, .ref q8, .ref q10, .ref q12, .int 0, .int 0])), (q1, .inr (6, [.ref (f2 0), .int 0, .int 0, .int 0])), ((f2 0), .inl (E.2.2.1, 320, .inl (fun _ => 0))), (q3, .inr (9, [.ref (f4 0), .int 0, .int 0, .int 0])), ((f4 0), .inl (E.2.2.1, 256, .inl (fun _ => 0))), (q5, .inr (8, [.ref (f6 0), .ref (f6 1), .ref (f6 2), .ref (f6 3), .ref (f6 4), .int 0])), ((f6 0), .inl (E.2.2.2.1, 16, .inl (fun _ => 0))), ((f6 1), .inl (E.2.2.2.1, 16, .inl (fun _ => 0))), ((f6 2), .inl (E.2.2.1, 16, .inl (fun _ => 0))), ((f6 3), .inl (E.2.2.1, 16, .inl (fun _ => 0))), ((f6 4), .inl (E.2.2.1, 16, .inl (fun _ => 0))), (q7, .inl (E.2.2.2.2.1, 4, .inr (.inr (.inr (.inr (va_up (va_up (va_up (va_up (fun _ => none) 0 (some q3)) 1 (some q3)) 2 (some q3)) 3 (some q3))))))), (q8, .inr (8, [.ref (f9 0), .ref (f9 1), .ref (f9 2), .ref (f9 3), .ref (f9 4), .int 0])), ((f9 0), .inl (E.2.2.2.1, 16, .inl (fun _ => 0))), ((f9 1), .inl (E.2.2.2.1, 16, .inl (fun _ => 0))), ((f9 2), .inl (E.2.2.1, 16, .inl (fun _ => 0))), ((f9 3), .inl (E.2.2.1, 16, .inl (fun _ => 0))), ((f9 4), .inl (E.2.2.1, 16, .inl (fun _ => 0))), (q10, .inr (7, [.ref (f11 0), .ref (f11 1)])), ((f11 0), .inl (E.2.2.1, 81, .inl (fun _ => 0))), ((f11 1), .inl (E.2.2.1, 36, .inl (fun _ => 0))), (q12, .inl (E.2.2.1, 16, .inl (fun _ => 0)))] := hD
  refine lv_iinc (k := 0) (v := 4) hx hb (dt_i_PD 46 rfl) hl rfl (by decide) (Nat.le_of_ble_eq_true rfl) rfl (fun ls hl => ?_)
  have hl : lv_has ls 2 [(1, .int 4), (0, .ref h0)] := hl
  refine lv_goto (tgt := 77) hx hb (dt_i_PD 47 rfl) (by decide) ?_
  refine lv_iload_n hx hb (dt_i_PD 37 rfl) rfl (lv_at hl 0 rfl) ?_
  refine lv_iconst (v := 4) hx hb (dt_i_PD 38 rfl) (by decide) ?_
  refine lv_icmp_ge (tgt := 98) hx hb (dt_i_PD 39 rfl) (by decide) (fun _ => ?_) (fun hc => absurd (by decide) hc)
  refine W.widen (k := 21) (n := 895) (Nat.le_of_ble_eq_true rfl) (Nat.le_of_ble_eq_true rfl) ?_
  exact W.vret hx hb hr (fun t ht hW => ⟨⟨(fun j => [q1, (f2 0), q3, (f4 0), q5, (f6 0), (f6 1), (f6 2), (f6 3), (f6 4), q7, q8, (f9 0), (f9 1), (f9 2), (f9 3), (f9 4), q10, (f11 0), (f11 1), q12].getD j 0), rfl, trivial, by rw [ht]; exact hP, va_K.moved hW.alike hK, hD⟩, hS.F ht⟩) hS.2.2 (dt_i_PD 48 rfl)

theorem tw_89 : Cond.methodLink "BlockPictures" 1 ⟨"java/lang/Object", "<init>", "()V"⟩ ∈ bp_tb := bp_gd (List.mem_of_getElem? (i := 89) (by decide +kernel)) rfl
theorem tw_90 : Cond.instanceMethod ⟨"java/lang/Object", "<init>", "()V"⟩ ∈ bp_tb := bp_gd (List.mem_of_getElem? (i := 90) (by decide +kernel)) rfl
theorem tw_91 : Cond.code ⟨"java/lang/Object", "<init>", "()V"⟩ object_method_1_code 1 (Option.none : Option Jvm.ClassFile.FieldType) ∈ bp_tb := bp_gd (List.mem_of_getElem? (i := 91) (by decide +kernel)) rfl
theorem tw_92 : Cond.classLink "BlockPictures" 7 "BlockPictures$UnitIntake" ∈ bp_tb := bp_gd (List.mem_of_getElem? (i := 92) (by decide +kernel)) rfl
theorem tw_93 : Cond.instantiable "BlockPictures$UnitIntake" 6 ∈ bp_tb := bp_gd (List.mem_of_getElem? (i := 93) (by decide +kernel)) rfl
theorem tw_95 : Cond.instanceMethod ⟨"BlockPictures$UnitIntake", "<init>", "()V"⟩ ∈ bp_tb := bp_gd (List.mem_of_getElem? (i := 95) (by decide +kernel)) rfl
theorem tw_96 : Cond.code ⟨"BlockPictures$UnitIntake", "<init>", "()V"⟩ prog_10_method_1_code 1 (Option.none : Option Jvm.ClassFile.FieldType) ∈ bp_tb := bp_gd (List.mem_of_getElem? (i := 96) (by decide +kernel)) rfl
theorem tw_97 : Cond.methodLink "BlockPictures$UnitIntake" 3 ⟨"java/lang/Object", "<init>", "()V"⟩ ∈ bp_tb := bp_gd (List.mem_of_getElem? (i := 97) (by decide +kernel)) rfl
theorem tw_120 : Cond.arrayClass .int ∈ bp_tb := bp_gd (List.mem_of_getElem? (i := 120) (by decide +kernel)) rfl
theorem tw_121 : Cond.classLink "BlockPictures" 16 "BlockPictures$Parameters" ∈ bp_tb := bp_gd (List.mem_of_getElem? (i := 121) (by decide +kernel)) rfl
theorem tw_122 : Cond.instantiable "BlockPictures$Parameters" 6 ∈ bp_tb := bp_gd (List.mem_of_getElem? (i := 122) (by decide +kernel)) rfl
theorem tw_124 : Cond.instanceMethod ⟨"BlockPictures$Parameters", "<init>", "()V"⟩ ∈ bp_tb := bp_gd (List.mem_of_getElem? (i := 124) (by decide +kernel)) rfl
theorem tw_125 : Cond.code ⟨"BlockPictures$Parameters", "<init>", "()V"⟩ prog_6_method_1_code 1 (Option.none : Option Jvm.ClassFile.FieldType) ∈ bp_tb := bp_gd (List.mem_of_getElem? (i := 125) (by decide +kernel)) rfl
theorem tw_126 : Cond.methodLink "BlockPictures$Parameters" 3 ⟨"java/lang/Object", "<init>", "()V"⟩ ∈ bp_tb := bp_gd (List.mem_of_getElem? (i := 126) (by decide +kernel)) rfl
theorem tw_149 : Cond.classLink "BlockPictures" 23 "BlockPictures$PictureDecoder" ∈ bp_tb := bp_gd (List.mem_of_getElem? (i := 149) (by decide +kernel)) rfl
theorem tw_150 : Cond.instantiable "BlockPictures$PictureDecoder" 11 ∈ bp_tb := bp_gd (List.mem_of_getElem? (i := 150) (by decide +kernel)) rfl
theorem tw_151 : Cond.methodLink "BlockPictures" 25 ⟨"BlockPictures$PictureDecoder", "<init>", "()V"⟩ ∈ bp_tb := bp_gd (List.mem_of_getElem? (i := 151) (by decide +kernel)) rfl
theorem tw_152 : Cond.instanceMethod ⟨"BlockPictures$PictureDecoder", "<init>", "()V"⟩ ∈ bp_tb := bp_gd (List.mem_of_getElem? (i := 152) (by decide +kernel)) rfl
theorem tw_153 : Cond.code ⟨"BlockPictures$PictureDecoder", "<init>", "()V"⟩ prog_9_method_1_code 2 (Option.none : Option Jvm.ClassFile.FieldType) ∈ bp_tb := bp_gd (List.mem_of_getElem? (i := 153) (by decide +kernel)) rfl
theorem tw_154 : Cond.methodLink "BlockPictures$PictureDecoder" 3 ⟨"java/lang/Object", "<init>", "()V"⟩ ∈ bp_tb := bp_gd (List.mem_of_getElem? (i := 154) (by decide +kernel)) rfl
theorem tw_155 : Cond.classLink "BlockPictures$PictureDecoder" 9 "BlockPictures$BitReader" ∈ bp_tb := bp_gd (List.mem_of_getElem? (i := 155) (by decide +kernel)) rfl
theorem tw_156 : Cond.instantiable "BlockPictures$BitReader" 4 ∈ bp_tb := bp_gd (List.mem_of_getElem? (i := 156) (by decide +kernel)) rfl
theorem tw_158 : Cond.instanceMethod ⟨"BlockPictures$BitReader", "<init>", "()V"⟩ ∈ bp_tb := bp_gd (List.mem_of_getElem? (i := 158) (by decide +kernel)) rfl
theorem tw_159 : Cond.code ⟨"BlockPictures$BitReader", "<init>", "()V"⟩ prog_2_method_1_code 1 (Option.none : Option Jvm.ClassFile.FieldType) ∈ bp_tb := bp_gd (List.mem_of_getElem? (i := 159) (by decide +kernel)) rfl
theorem tw_160 : Cond.methodLink "BlockPictures$BitReader" 5 ⟨"java/lang/Object", "<init>", "()V"⟩ ∈ bp_tb := bp_gd (List.mem_of_getElem? (i := 160) (by decide +kernel)) rfl
theorem tw_177 : Cond.classLink "BlockPictures$PictureDecoder" 18 "BlockPictures$Picture" ∈ bp_tb := bp_gd (List.mem_of_getElem? (i := 177) (by decide +kernel)) rfl
theorem tw_178 : Cond.instantiable "BlockPictures$Picture" 4 ∈ bp_tb := bp_gd (List.mem_of_getElem? (i := 178) (by decide +kernel)) rfl
theorem tw_180 : Cond.instanceMethod ⟨"BlockPictures$Picture", "<init>", "()V"⟩ ∈ bp_tb := bp_gd (List.mem_of_getElem? (i := 180) (by decide +kernel)) rfl
theorem tw_181 : Cond.code ⟨"BlockPictures$Picture", "<init>", "()V"⟩ prog_7_method_1_code 1 (Option.none : Option Jvm.ClassFile.FieldType) ∈ bp_tb := bp_gd (List.mem_of_getElem? (i := 181) (by decide +kernel)) rfl
theorem tw_182 : Cond.methodLink "BlockPictures$Picture" 3 ⟨"java/lang/Object", "<init>", "()V"⟩ ∈ bp_tb := bp_gd (List.mem_of_getElem? (i := 182) (by decide +kernel)) rfl
theorem tw_209 : Cond.classLink "BlockPictures$PictureDecoder" 25 "BlockPictures$BlockRows" ∈ bp_tb := bp_gd (List.mem_of_getElem? (i := 209) (by decide +kernel)) rfl
theorem tw_210 : Cond.instantiable "BlockPictures$BlockRows" 6 ∈ bp_tb := bp_gd (List.mem_of_getElem? (i := 210) (by decide +kernel)) rfl
theorem tw_212 : Cond.instanceMethod ⟨"BlockPictures$BlockRows", "<init>", "()V"⟩ ∈ bp_tb := bp_gd (List.mem_of_getElem? (i := 212) (by decide +kernel)) rfl
theorem tw_213 : Cond.code ⟨"BlockPictures$BlockRows", "<init>", "()V"⟩ prog_3_method_1_code 1 (Option.none : Option Jvm.ClassFile.FieldType) ∈ bp_tb := bp_gd (List.mem_of_getElem? (i := 213) (by decide +kernel)) rfl
theorem tw_214 : Cond.methodLink "BlockPictures$BlockRows" 3 ⟨"java/lang/Object", "<init>", "()V"⟩ ∈ bp_tb := bp_gd (List.mem_of_getElem? (i := 214) (by decide +kernel)) rfl
theorem tw_244 : Cond.arrayClass .boolean ∈ bp_tb := bp_gd (List.mem_of_getElem? (i := 244) (by decide +kernel)) rfl
theorem tw_246 : Cond.classLink "BlockPictures$PictureDecoder" 39 "BlockPictures$Motion" ∈ bp_tb := bp_gd (List.mem_of_getElem? (i := 246) (by decide +kernel)) rfl
theorem tw_247 : Cond.instantiable "BlockPictures$Motion" 2 ∈ bp_tb := bp_gd (List.mem_of_getElem? (i := 247) (by decide +kernel)) rfl
theorem tw_249 : Cond.instanceMethod ⟨"BlockPictures$Motion", "<init>", "()V"⟩ ∈ bp_tb := bp_gd (List.mem_of_getElem? (i := 249) (by decide +kernel)) rfl
theorem tw_250 : Cond.code ⟨"BlockPictures$Motion", "<init>", "()V"⟩ prog_5_method_1_code 1 (Option.none : Option Jvm.ClassFile.FieldType) ∈ bp_tb := bp_gd (List.mem_of_getElem? (i := 250) (by decide +kernel)) rfl
theorem tw_251 : Cond.methodLink "BlockPictures$Motion" 3 ⟨"java/lang/Object", "<init>", "()V"⟩ ∈ bp_tb := bp_gd (List.mem_of_getElem? (i := 251) (by decide +kernel)) rfl
theorem tw_299 : Cond.classLink "BlockPictures" 30 "BlockPictures$PictureBuffer" ∈ bp_tb := bp_gd (List.mem_of_getElem? (i := 299) (by decide +kernel)) rfl
theorem tw_300 : Cond.instantiable "BlockPictures$PictureBuffer" 6 ∈ bp_tb := bp_gd (List.mem_of_getElem? (i := 300) (by decide +kernel)) rfl
theorem tw_301 : Cond.methodLink "BlockPictures" 32 ⟨"BlockPictures$PictureBuffer", "<init>", "()V"⟩ ∈ bp_tb := bp_gd (List.mem_of_getElem? (i := 301) (by decide +kernel)) rfl
theorem tw_302 : Cond.instanceMethod ⟨"BlockPictures$PictureBuffer", "<init>", "()V"⟩ ∈ bp_tb := bp_gd (List.mem_of_getElem? (i := 302) (by decide +kernel)) rfl
theorem tw_303 : Cond.code ⟨"BlockPictures$PictureBuffer", "<init>", "()V"⟩ prog_8_method_1_code 2 (Option.none : Option Jvm.ClassFile.FieldType) ∈ bp_tb := bp_gd (List.mem_of_getElem? (i := 303) (by decide +kernel)) rfl
theorem tw_304 : Cond.methodLink "BlockPictures$PictureBuffer" 3 ⟨"java/lang/Object", "<init>", "()V"⟩ ∈ bp_tb := bp_gd (List.mem_of_getElem? (i := 304) (by decide +kernel)) rfl
theorem tw_305 : Cond.classLink "BlockPictures$PictureBuffer" 9 "BlockPictures$Picture" ∈ bp_tb := bp_gd (List.mem_of_getElem? (i := 305) (by decide +kernel)) rfl
theorem tw_331 : Cond.classLink "BlockPictures" 37 "BlockPictures$UnitWriter" ∈ bp_tb := bp_gd (List.mem_of_getElem? (i := 331) (by decide +kernel)) rfl
theorem tw_332 : Cond.instantiable "BlockPictures$UnitWriter" 6 ∈ bp_tb := bp_gd (List.mem_of_getElem? (i := 332) (by decide +kernel)) rfl
theorem tw_334 : Cond.instanceMethod ⟨"BlockPictures$UnitWriter", "<init>", "()V"⟩ ∈ bp_tb := bp_gd (List.mem_of_getElem? (i := 334) (by decide +kernel)) rfl
theorem tw_335 : Cond.code ⟨"BlockPictures$UnitWriter", "<init>", "()V"⟩ prog_11_method_1_code 1 (Option.none : Option Jvm.ClassFile.FieldType) ∈ bp_tb := bp_gd (List.mem_of_getElem? (i := 335) (by decide +kernel)) rfl
theorem tw_336 : Cond.methodLink "BlockPictures$UnitWriter" 3 ⟨"java/lang/Object", "<init>", "()V"⟩ ∈ bp_tb := bp_gd (List.mem_of_getElem? (i := 336) (by decide +kernel)) rfl
theorem bp_tyeq {D : va_G} {cl : List vw_C} {tys : List (ClassId × FieldType)} {s : State} (hK : va_K D cl tys s) (i j : Nat) {cA cB : ClassId} {ty : FieldType} (hp : ty = .int ∨ ty = .boolean ∨ ∃ C, ty = .object C) (h1 : tys[i]? = some (cA, ty)) (h2 : tys[j]? = some (cB, ty)) : cA = cB := by
  have e1 := (hK.2 i _ h1).2
  have e2 := (hK.2 j _ h2).2
  rcases hp with rfl | rfl | ⟨C, rfl⟩
  · exact Option.some.inj (e1.symm.trans e2)
  · exact Option.some.inj (e1.symm.trans e2)
  · obtain ⟨_, _, _, _, _, f1⟩ := e1
    obtain ⟨_, _, _, _, _, f2⟩ := e2
    exact Option.some.inj (f1.symm.trans f2)
section BPN
variable {p : Program} {l : Launch} {e : Env} {R : Room} {s : State} {m : MethodId} {args : Array Value} {below : List Frame} {meth : Method} {c : Code} {H : Heap} {locs : List Loc} {cells slots : Nat} {Q : State → Prop} {cc : ByteArray} {pc : Nat} {ls : Array Slot} {rest : List Value} {D : va_G} {cl : List vw_C} {A : Nat → Prop} {tys : List (ClassId × FieldType)} {ws : va_W} {H0 : Heap}
theorem bp_newa (hexec : p.tables.exec = Jvm.exec) (hb : c.code = cc) {atype : ArrayType} (harr : (Cond.arrayClass (newarray.typeOf atype)).before args s = true) {ty : FieldType} (hty : newarray.typeOf atype = ty) (hp : ty = .int ∨ ty = .boolean ∨ ∃ C, ty = .object C) (hK : va_K D cl tys s) (hP : va_P D cl ws H) (hD : va_D A ws) (hS : va_S A H0 H locs) (hA : ∀ q, H0.size ≤ q → A q)
    (t0 : Nat) {cT : ClassId} (ht : tys[t0]? = some (cT, ty)) {n : Int32} {N' : Nat} {a0 : vp_A} (ha : ∀ cA : ClassId, vp_cell cA a0 = arrV cA N' (fun _ => defaultValue ty)) (hn : ¬ n < 0) (hN : n.toNatClampNeg = N') (hbytes : N' * componentBytes ty ≤ 536870912) (hcells : cells + 1 ≤ R.cells) (hslots : slots + N' ≤ R.slots) (hdg : decode cc pc = .ok (.newarray atype, 2))
    (kk : ∀ (q : Nat) (H1 : Heap), va_P D cl (ws ++ [(q, .inl (cT, a0))]) H1 → va_D A (ws ++ [(q, .inl (cT, a0))]) → va_S A H0 H1 locs →
      W p l e R s m args below meth c H1 locs (cells + 1) (slots + N') Q (F0 m (pc + 2) ls (.ref q :: rest))) : W p l e R s m args below meth c H locs cells slots Q (F0 m pc ls (.int n :: rest)) := by
  refine va_newa hexec hb harr hty hK hP hD hS hA ha hn hN hbytes hcells hslots hdg (fun q cA H1 hK1 hP1 hD1 hS1 => ?_)
  have hl := (List.getElem?_eq_some_iff.mp ht).1
  have e1 : (tys ++ [(cA, ty)])[t0]? = some (cT, ty) := by rw [List.getElem?_append_left hl]; exact ht
  have e2 : (tys ++ [(cA, ty)])[tys.length]? = some (cA, ty) := by rw [List.getElem?_append_right (Nat.le_refl _)]; simp
  have he := bp_tyeq hK1 tys.length t0 hp e2 e1
  subst he
  exact kk q H1 hP1 hD1 hS1
theorem bp_newq (hexec : p.tables.exec = Jvm.exec) (hb : c.code = cc) {own C : String} {index : Nat} (hown : s.vm.findClass own = some m.cls) (hclink : (Cond.classLink own index C).before args s = true) (hover : va_AO C s) (hK : va_K D cl tys s) (hP : va_P D cl ws H) (hD : va_D A ws) (hS : va_S A H0 H locs) (hA : ∀ q, H0.size ≤ q → A q)
    (t0 : Nat) {cT : ClassId} (ht : tys[t0]? = some (cT, .object C)) {n : Int32} {N' : Nat} (hn : ¬ n < 0) (hN : n.toNatClampNeg = N') (hbytes : N' * 4 ≤ 536870912) (hcells : cells + 1 ≤ R.cells) (hslots : slots + N' ≤ R.slots) (hdg : decode cc pc = .ok (.anewarray index, 3))
    (kk : ∀ (q : Nat) (H1 : Heap), va_P D cl (ws ++ [(q, .inl (cT, N', .inr (.inr (.inr (.inr (fun _ => none))))))]) H1 → va_D A (ws ++ [(q, .inl (cT, N', .inr (.inr (.inr (.inr (fun _ => none))))))]) → va_S A H0 H1 locs →
      W p l e R s m args below meth c H1 locs (cells + 1) (slots + N') Q (F0 m (pc + 3) ls (.ref q :: rest))) : W p l e R s m args below meth c H locs cells slots Q (F0 m pc ls (.int n :: rest)) := by
  refine va_newq hexec hb hown hclink hover hK hP hD hS hA hn hN hbytes hcells hslots hdg (fun q cA H1 hK1 hP1 hD1 hS1 => ?_)
  have hl := (List.getElem?_eq_some_iff.mp ht).1
  have e1 : (tys ++ [(cA, FieldType.object C)])[t0]? = some (cT, .object C) := by rw [List.getElem?_append_left hl]; exact ht
  have e2 : (tys ++ [(cA, FieldType.object C)])[tys.length]? = some (cA, .object C) := by rw [List.getElem?_append_right (Nat.le_refl _)]; simp
  have he := bp_tyeq hK1 tys.length t0 (Or.inr (Or.inr ⟨C, rfl⟩)) e2 e1
  subst he
  exact kk q H1 hP1 hD1 hS1
end BPN
/-- what a constructor starts from: its object alone, as 'new' lays it -/
abbrev ic_Pc (E : bc_E) (h0 : Nat) (d : va_E) (sz : Nat) : Array Value → State → Prop := va_Pc [.ref h0] (fun U => U.heap.size = sz ∧ va_P E.1 bp_cl [(h0, d)] U.heap ∧ va_K E.1 bp_cl (bc_ty E) U ∧ va_D (fun _ => True) [(h0, d)] ∧ bc_Nw U ∧ va_AO "BlockPictures$Picture" U)
theorem ic_pre (E : bc_E) {s : State} {H : Heap} {A : Nat → Prop} {h0 : Nat} {d : va_E} (hK : va_K E.1 bp_cl (bc_ty E) s) (hP : va_P E.1 bp_cl [(h0, d)] H) (hD : va_D A [(h0, d)]) (hnw : bc_Nw s) (hao : va_AO "BlockPictures$Picture" s) : PreS s H (ic_Pc E h0 d H.size) [.ref h0] :=
  ⟨fun a U g mk q => by
    obtain ⟨q0, q1, qP, qK, qD, qN, qA⟩ := q
    exact ⟨q0, q1, qP, va_K.moved (u := U) (U := U.calling g mk a) (Vm.Alike.refl U.vm) qK, qD, bc_Nw.same rfl qN, va_AO.moved (u := U) (U := U.calling g mk a) (Vm.Alike.refl U.vm) qA⟩, fun U hU hW => ⟨rfl, by rw [hU], by rw [hU]; exact hP, va_K.moved hW.alike hK, hD.weaken (fun _ _ _ _ => trivial), bc_Nw.warm hW hnw, va_AO.moved hW.alike hao⟩⟩


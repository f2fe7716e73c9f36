/-! The method by which the buffer takes a picture in: its name as the printed table has it. -/
def nm_f : Cond → String
  | Cond.instanceMethod x => x.name
  | _ => ""
def nm_s : String := ((tables_1[548]? : Option Cond).map nm_f).getD ""
theorem tw_615 : Cond.methodLink "BlockPictures" 228 ⟨"BlockPictures$PictureBuffer", nm_s, "(LBlockPictures$Picture;)V"⟩ ∈ bp_tb := bp_gd (List.mem_of_getElem? (i := 615) (by decide +kernel)) rfl
theorem tw_616 : Cond.instanceMethod ⟨"BlockPictures$PictureBuffer", nm_s, "(LBlockPictures$Picture;)V"⟩ ∈ bp_tb := bp_gd (List.mem_of_getElem? (i := 616) (by decide +kernel)) rfl
theorem tw_617 : Cond.selects "BlockPictures$PictureBuffer" ⟨"BlockPictures$PictureBuffer", nm_s, "(LBlockPictures$Picture;)V"⟩ ⟨"BlockPictures$PictureBuffer", nm_s, "(LBlockPictures$Picture;)V"⟩ ∈ bp_tb := bp_gd (List.mem_of_getElem? (i := 617) (by decide +kernel)) rfl
theorem tw_618 : Cond.code ⟨"BlockPictures$PictureBuffer", nm_s, "(LBlockPictures$Picture;)V"⟩ prog_8_method_7_code 5 (Option.none : Option Jvm.ClassFile.FieldType) ∈ bp_tb := bp_gd (List.mem_of_getElem? (i := 618) (by decide +kernel)) rfl

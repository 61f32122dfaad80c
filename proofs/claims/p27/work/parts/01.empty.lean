-- p27's claim is of launches whose file has the law's entry WITHOUT an exception table; the entry has one: no launch can do it (REPORT.md, S2)
theorem zr_listed (a : Jvm.MethodName) (b : ByteArray) (n : Nat) (r : Option Jvm.ClassFile.FieldType) (ts : List Jvm.Cond) (room : Jvm.Room) :
    (a, b, n, r) ∈ (Jvm.D.headSpec (Jvm.Cond.code a b n r :: ts) room).pre.codes ++ (Jvm.D.headSpec (Jvm.Cond.code a b n r :: ts) room).post.codes := by
  apply List.mem_append_left
  show (a, b, n, r) ∈ [(a, b, n, r)] ++ (Jvm.D.allAtoms ts).codes
  exact List.mem_append_left _ (List.mem_singleton.mpr rfl)
theorem zr_hasCode (l : Jvm.Launch) (F : Jvm.ClassFile.Facts.File) (a : Jvm.MethodName) (b : ByteArray) (n : Nat) (r : Option Jvm.ClassFile.FieldType) (ts : List Jvm.Cond) (room : Jvm.Room)
    (h : Jvm.D.Lists l F a b n r ts room) : F.hasCode a b n r = true := by
  obtain ⟨-, hf, ⟨hc, -⟩, -⟩ := h
  have h1 : ((l.file? a.cls).any fun f => f.hasCode a b n r) = true := hc (a, b, n, r) (zr_listed a b n r ts room)
  rw [hf] at h1
  exact h1
theorem zr_table : Jvm.ClassFile.Facts.File.hasCode classFile x code maxLocals ret = false := by decide +kernel
theorem zr_none (l : Jvm.Launch) (h : Jvm.D.Lists l classFile x code maxLocals ret tables_1 room_1) : False := by
  have h1 := zr_hasCode l classFile x code maxLocals ret tables_1 room_1 h
  rw [zr_table] at h1
  exact Bool.noConfusion h1
theorem i_vc : Claimed_1_1 ∧ Claimed_1_2 :=
  ⟨fun l _ h _ => (zr_none l h).elim, fun l _ h _ => (zr_none l h).elim⟩

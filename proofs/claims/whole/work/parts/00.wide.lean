/-! the rest of the library is read too -/
theorem tb_wide : True := (fun _ => trivial) (@Jvm.Free.Multi.fill_facts)

theorem gW {w : Cond} (h : w ∈ lw_gd) : (w.onTables && w.keeps) = true ∨ ∃ ty, w = .arrayClass ty := good_of_word (List.mem_filter.mp h).2
theorem gI {y : MethodName} {bytes : ByteArray} {n : Nat} {r : Option FieldType} (h : Cond.code y bytes n r ∈ lw_gd) : GoodIn lw_gd (Cond.code y bytes n r :: lw_gd) := by
  intro w hw
  rcases List.mem_cons.mp hw with rfl | h1
  · exact ⟨h, gW h⟩
  · exact ⟨h1, gW h1⟩
theorem gV {own C : String} {idx : Nat} {y : MethodName} {bytes : ByteArray} {n : Nat} {r : Option FieldType} (h1 : Cond.methodLink own idx y ∈ lw_gd) (h2 : Cond.instanceMethod y ∈ lw_gd) (h3 : Cond.selects C y y ∈ lw_gd) (h4 : Cond.initialized C ∈ lw_gd) (h : Cond.code y bytes n r ∈ lw_gd) : GoodIn lw_gd (wsV own idx C y (Cond.code y bytes n r :: lw_gd)) := by
  intro w hw
  rcases List.mem_append.mp hw with hw | hw
  · simp only [List.mem_cons, List.not_mem_nil, or_false] at hw
    rcases hw with rfl | rfl | rfl | rfl
    · exact ⟨h1, gW h1⟩
    · exact ⟨h2, gW h2⟩
    · exact ⟨h3, gW h3⟩
    · exact ⟨h4, gW h4⟩
  · exact gI h w hw
theorem gS {own : String} {idx : Nat} {y : MethodName} {bytes : ByteArray} {n : Nat} {r : Option FieldType} (h1 : Cond.methodLink own idx y ∈ lw_gd) (h2 : Cond.static y ∈ lw_gd) (h4 : Cond.initialized y.cls ∈ lw_gd) (h : Cond.code y bytes n r ∈ lw_gd) : GoodIn lw_gd (va_wsS own idx y (Cond.code y bytes n r :: lw_gd)) := by
  intro w hw
  rcases List.mem_append.mp hw with hw | hw
  · simp only [List.mem_cons, List.not_mem_nil, or_false] at hw
    rcases hw with rfl | rfl | rfl
    · exact ⟨h1, gW h1⟩
    · exact ⟨h2, gW h2⟩
    · exact ⟨h4, gW h4⟩
  · exact gI h w hw

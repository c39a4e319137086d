/-! WHAT THE CLASS IS GIVEN OF ITS SURROUNDINGS: links to nest mates, rows of constants, texts -/
def nestF : List (String × Nat × String × String × String × String) := [(RX5, 61, "OneFurrow$Parish", "fields", "I", "OneFurrow"), (RX4, 57, "OneFurrow$Parish", "fields", "I", "OneFurrow"), (RX5, 110, "OneFurrow$Parish", "teams", "I", "OneFurrow"), (RX4, 99, "OneFurrow$Parish", "teams", "I", "OneFurrow"), (RX5, 97, "OneFurrow$Parish", "joins", "[I", "OneFurrow"), (RX4, 96, "OneFurrow$Parish", "joins", "[I", "OneFurrow"), (RX5, 119, "OneFurrow$Parish", "kinds", "[I", "OneFurrow"), (RX5, 122, "OneFurrow$Parish", "paces", "[I", "OneFurrow"), (RX5, 211, "OneFurrow$Text", "length", "I", "OneFurrow"), (RX5, 148, "OneFurrow$Furrows", "cells", "I", "OneFurrow"), (RX5, 145, "OneFurrow$Furrows", "whole", "I", "OneFurrow"), (RX5, 155, "OneFurrow$Furrows", "turns", "I", "OneFurrow"), (RX5, 158, "OneFurrow$Furrows", "first", "[I", "OneFurrow"), (RX5, 176, "OneFurrow$Furrows", "turnsFrom", "[I", "OneFurrow"), (RX5, 179, "OneFurrow$Furrows", "turnsTo", "[I", "OneFurrow"), (RX5, 291, "OneFurrow$Rows", "fields", "I", "OneFurrow"), (RX5, 292, "OneFurrow$Rows", "hours", "[I", "OneFurrow"), (RX5, 295, "OneFurrow$Rows", "wet", "[I", "OneFurrow"), (RX5, 298, "OneFurrow$Rows", "worth", "[I", "OneFurrow"), (RX5, 207, "OneFurrow$Rows", "joins", "[I", "OneFurrow"), (RX5, 186, "OneFurrow$Rows", "many", "I", "OneFurrow"), (RX5, 201, "OneFurrow$Rows", "mostYield", "I", "OneFurrow"), (RX5, 189, "OneFurrow$Rows", "lateDay", "I", "OneFurrow"), (RX5, 192, "OneFurrow$Rows", "lateYield", "I", "OneFurrow"), (RX5, 195, "OneFurrow$Rows", "late", "[I", "OneFurrow"), (RX5, 198, "OneFurrow$Rows", "lateDays", "[I", "OneFurrow"), (RX5, 235, "OneFurrow$Sheet", "bits", "I", "OneFurrow"), (RX5, 232, "OneFurrow$Sheet", "size", "I", "OneFurrow"), (RX5, 238, "OneFurrow$Sheet", "numbers", "[J", "OneFurrow"), (RX1, 36, "OneFurrow", "FIRST_MARK", "[I", "OneFurrow"), (RX4, 93, "OneFurrow", "MOST_MARK", "[I", "OneFurrow")]
def nestM : List (String × Nat × MethodName × String) := [(RX5, 9, yX1_init, "OneFurrow"), (RX5, 24, yX4_init, "OneFurrow"), (RX5, 45, yX0_init, "OneFurrow"), (RX5, 52, yX2_init, "OneFurrow"), (RX5, 60, yX3_init, "OneFurrow"), (RX5, 69, yX1_addField, "OneFurrow"), (RX5, 73, yX1_hasField, "OneFurrow"), (RX5, 77, yX1_earth, "OneFurrow"), (RX5, 83, yX1_mark, "OneFurrow"), (RX5, 93, yX1_putMark, "OneFurrow"), (RX5, 113, yX1_addTeam, "OneFurrow"), (RX5, 116, yX1_hasTeam, "OneFurrow"), (RX5, 172, yX0_ask, "OneFurrow"), (RX0, 28, yX5_isOfKind, "OneFurrow"), (RX0, 32, yX5_cellsBeside, "OneFurrow"), (RX0, 86, yX5_holds, "OneFurrow"), (RX0, 78, yX5_barOf, "OneFurrow"), (RX0, 99, yX5_cellTowards, "OneFurrow"), (RX0, 103, yX5_mayStep, "OneFurrow"), (RX0, 107, yX5_isTurn, "OneFurrow"), (RX5, 165, yX0_longest, "OneFurrow"), (RX5, 208, yX2_search, "OneFurrow"), (RX2, 52, yX5_holds, "OneFurrow"), (RX5, 214, yX4_append, "OneFurrow"), (RX5, 217, yX1_takeFrom, "OneFurrow"), (RX5, 221, yX4_tellOnto, "OneFurrow"), (RX4, 62, yX1_addField, "OneFurrow"), (RX4, 89, yX1_putMark, "OneFurrow"), (RX4, 104, yX1_addTeam, "OneFurrow"), (RX5, 228, yX3_begin, "OneFurrow"), (RX5, 242, yX3_put, "OneFurrow"), (RX5, 246, yX3_hasNumbers, "OneFurrow"), (RX5, 257, yX1_layCell, "OneFurrow"), (RX5, 283, yX1_allEarth, "OneFurrow"), (RX5, 286, yX1_allJoins, "OneFurrow")]
def lenJS : List Nat := [5, 6, 5, 2, 3, 3, 4, 4, 4, 5, 4, 3, 4, 4]
def bytJS : List (List Int32) := [[102, 105, 101, 108, 100], [115, 116, 111, 110, 101, 115], [116, 114, 101, 101, 115], [105, 110], [111, 117, 116], [119, 101, 116], [106, 111, 105, 110], [116, 101, 97, 109], [108, 101, 102, 116], [114, 105, 103, 104, 116], [119, 105, 100, 101], [115, 104, 121], [115, 108, 111, 119], [112, 97, 99, 101]]
def strI : List Nat := [35, 65, 71, 73, 78, 80, 44, 108, 110, 112, 114, 116, 118, 102]
def strT : List String := ["field", "stones", "trees", "in", "out", "wet", "join", "team", "left", "right", "wide", "shy", "slow", "pace"]
def tbLeast (j : Nat) : Int32 := ([0, 0, (-1), (-1), 0, 0] : List Int32).getD j 0
def tbMost (j : Nat) : Int32 := ([65535, 65535, 15, 15, 99, 999] : List Int32).getD j 0
def tbFirst (j : Nat) : Int32 := ([0, 0, (-1), (-1), 0, 100] : List Int32).getD j 0
def tbKinds (j : Nat) : Int32 := ([1, 3, 5, 9, 19, 41] : List Int32).getD j 0
def tbDear (j : Nat) : Int32 := ([2, 1, 2, 3, 1, 6] : List Int32).getD j 0
def tbBy (j : Nat) : Int32 := ([0, 3, 1, 2] : List Int32).getD j 0
def tabI (C n : String) (N : Nat) (f : Nat → Int32) (A : Nat → Prop) (U : State) (H : Heap) : Prop := ∃ t : Nat, va_Z C n "[I" (.ref t) A U H ∧ va_T .int t N (fun j => .int (f j)) A U H
theorem tabI.go {C n : String} {N : Nat} {f : Nat → Int32} {A B : Nat → Prop} {s U : State} {H H1 : Heap} (h : tabI C n N f A s H) (hv : s.vm.Alike U.vm) (hk : ∀ a : Nat, a < H.size → ¬ A a → H1[a]? = H[a]?) (hB : ∀ q, B q → A q) : tabI C n N f B U H1 := by
  obtain ⟨t, a, b⟩ := h
  exact ⟨t, ((a.moved hv).kept hk).narrow hB, ((b.moved hv).kept hk).narrow hB⟩
def E5 (aK aV : Nat → Nat) : En := fun A U => (∀ f ∈ nestF, va_Nw (.fieldLinkNest f.1 f.2.1 f.2.2.1 f.2.2.2.1 f.2.2.2.2.1 f.2.2.2.2.2) U) ∧ (∀ f ∈ nestM, va_Nw (.methodLinkNest f.1 f.2.1 f.2.2.1 f.2.2.2) U) ∧ tabI RX5 "LEAST_MARK" 6 tbLeast A U U.heap ∧ tabI RX5 "MOST_MARK" 6 tbMost A U U.heap ∧ tabI RX5 "FIRST_MARK" 6 tbFirst A U U.heap ∧ tabI RX5 "KINDS_ABOVE" 6 tbKinds A U U.heap ∧ tabI RX5 "DEAR" 6 tbDear A U U.heap ∧ tabI RX0 "BY_CELL" 4 tbBy A U U.heap ∧ vk_S 14 lenJS bytJS aK aV A U U.heap ∧ (∀ i : Nat, i < 14 → vk_R RX4 (strI.getD i 0) (strT.getD i "") (aK i) U) ∧ va_Z "java/lang/String" "COMPACT_STRINGS" "Z" (.int 1) A U U.heap ∧ va_Zq "jdk/internal/util/Preconditions" "SIOOBE_FORMATTER" "Ljava/util/function/BiFunction;" A U U.heap
theorem E5_ok (aK aV : Nat → Nat) : EnvOk (E5 aK aV) := by
  refine ⟨fun A U gg mk a h => ?_, fun A B s U H locs h hS hU hW hB => ?_⟩
  · obtain ⟨h1, h2, h3, h4, h5, h6, h7, h8, h9, h10, h11, h12⟩ := h
    have hv : U.vm.Alike (U.calling gg mk a).vm := Vm.Alike.refl U.vm
    have hk : ∀ x : Nat, x < U.heap.size → ¬ A x → (U.calling gg mk a).heap[x]? = U.heap[x]? := fun _ _ _ => rfl
    exact ⟨fun f hf => va_Nw.same rfl rfl (h1 f hf), fun f hf => va_Nw.same rfl rfl (h2 f hf), h3.go hv hk (fun _ z => z), h4.go hv hk (fun _ z => z), h5.go hv hk (fun _ z => z), h6.go hv hk (fun _ z => z), h7.go hv hk (fun _ z => z), h8.go hv hk (fun _ z => z), (h9.moved hv).kept hk, fun i hi => vk_R.same rfl (h10 i hi), (h11.moved hv).kept hk, (h12.moved hv).kept hk⟩
  · obtain ⟨h1, h2, h3, h4, h5, h6, h7, h8, h9, h10, h11, h12⟩ := h
    have hv : s.vm.Alike U.vm := hW.alike
    have hk : ∀ x : Nat, x < s.heap.size → ¬ A x → U.heap[x]? = s.heap[x]? := fun x a b => by rw [hU]; exact hS.2.1 x a b
    exact ⟨fun f hf => va_Nw.warmF hW (h1 f hf), fun f hf => va_Nw.warmM hW (h2 f hf), h3.go hv hk hB, h4.go hv hk hB, h5.go hv hk hB, h6.go hv hk hB, h7.go hv hk hB, h8.go hv hk hB, ((h9.moved hv).kept hk).narrow hB, fun i hi => vk_R.warm hW (h10 i hi), ((h11.moved hv).kept hk).narrow hB, ((h12.moved hv).kept hk).narrow hB⟩
section
variable {aK aV : Nat → Nat} {A : Nat → Prop} {U : State}
theorem E5.nFX5_61 (h : E5 aK aV A U) : va_Nw (.fieldLinkNest RX5 61 "OneFurrow$Parish" "fields" "I" "OneFurrow") U := h.1 (RX5, 61, "OneFurrow$Parish", "fields", "I", "OneFurrow") (List.mem_of_getElem? (i := 0) rfl)
theorem E5.nFX4_57 (h : E5 aK aV A U) : va_Nw (.fieldLinkNest RX4 57 "OneFurrow$Parish" "fields" "I" "OneFurrow") U := h.1 (RX4, 57, "OneFurrow$Parish", "fields", "I", "OneFurrow") (List.mem_of_getElem? (i := 1) rfl)
theorem E5.nFX5_110 (h : E5 aK aV A U) : va_Nw (.fieldLinkNest RX5 110 "OneFurrow$Parish" "teams" "I" "OneFurrow") U := h.1 (RX5, 110, "OneFurrow$Parish", "teams", "I", "OneFurrow") (List.mem_of_getElem? (i := 2) rfl)
theorem E5.nFX4_99 (h : E5 aK aV A U) : va_Nw (.fieldLinkNest RX4 99 "OneFurrow$Parish" "teams" "I" "OneFurrow") U := h.1 (RX4, 99, "OneFurrow$Parish", "teams", "I", "OneFurrow") (List.mem_of_getElem? (i := 3) rfl)
theorem E5.nFX5_97 (h : E5 aK aV A U) : va_Nw (.fieldLinkNest RX5 97 "OneFurrow$Parish" "joins" "[I" "OneFurrow") U := h.1 (RX5, 97, "OneFurrow$Parish", "joins", "[I", "OneFurrow") (List.mem_of_getElem? (i := 4) rfl)
theorem E5.nFX4_96 (h : E5 aK aV A U) : va_Nw (.fieldLinkNest RX4 96 "OneFurrow$Parish" "joins" "[I" "OneFurrow") U := h.1 (RX4, 96, "OneFurrow$Parish", "joins", "[I", "OneFurrow") (List.mem_of_getElem? (i := 5) rfl)
theorem E5.nFX5_119 (h : E5 aK aV A U) : va_Nw (.fieldLinkNest RX5 119 "OneFurrow$Parish" "kinds" "[I" "OneFurrow") U := h.1 (RX5, 119, "OneFurrow$Parish", "kinds", "[I", "OneFurrow") (List.mem_of_getElem? (i := 6) rfl)
theorem E5.nFX5_122 (h : E5 aK aV A U) : va_Nw (.fieldLinkNest RX5 122 "OneFurrow$Parish" "paces" "[I" "OneFurrow") U := h.1 (RX5, 122, "OneFurrow$Parish", "paces", "[I", "OneFurrow") (List.mem_of_getElem? (i := 7) rfl)
theorem E5.nFX5_211 (h : E5 aK aV A U) : va_Nw (.fieldLinkNest RX5 211 "OneFurrow$Text" "length" "I" "OneFurrow") U := h.1 (RX5, 211, "OneFurrow$Text", "length", "I", "OneFurrow") (List.mem_of_getElem? (i := 8) rfl)
theorem E5.nFX5_148 (h : E5 aK aV A U) : va_Nw (.fieldLinkNest RX5 148 "OneFurrow$Furrows" "cells" "I" "OneFurrow") U := h.1 (RX5, 148, "OneFurrow$Furrows", "cells", "I", "OneFurrow") (List.mem_of_getElem? (i := 9) rfl)
theorem E5.nFX5_145 (h : E5 aK aV A U) : va_Nw (.fieldLinkNest RX5 145 "OneFurrow$Furrows" "whole" "I" "OneFurrow") U := h.1 (RX5, 145, "OneFurrow$Furrows", "whole", "I", "OneFurrow") (List.mem_of_getElem? (i := 10) rfl)
theorem E5.nFX5_155 (h : E5 aK aV A U) : va_Nw (.fieldLinkNest RX5 155 "OneFurrow$Furrows" "turns" "I" "OneFurrow") U := h.1 (RX5, 155, "OneFurrow$Furrows", "turns", "I", "OneFurrow") (List.mem_of_getElem? (i := 11) rfl)
theorem E5.nFX5_158 (h : E5 aK aV A U) : va_Nw (.fieldLinkNest RX5 158 "OneFurrow$Furrows" "first" "[I" "OneFurrow") U := h.1 (RX5, 158, "OneFurrow$Furrows", "first", "[I", "OneFurrow") (List.mem_of_getElem? (i := 12) rfl)
theorem E5.nFX5_176 (h : E5 aK aV A U) : va_Nw (.fieldLinkNest RX5 176 "OneFurrow$Furrows" "turnsFrom" "[I" "OneFurrow") U := h.1 (RX5, 176, "OneFurrow$Furrows", "turnsFrom", "[I", "OneFurrow") (List.mem_of_getElem? (i := 13) rfl)
theorem E5.nFX5_179 (h : E5 aK aV A U) : va_Nw (.fieldLinkNest RX5 179 "OneFurrow$Furrows" "turnsTo" "[I" "OneFurrow") U := h.1 (RX5, 179, "OneFurrow$Furrows", "turnsTo", "[I", "OneFurrow") (List.mem_of_getElem? (i := 14) rfl)
theorem E5.nFX5_291 (h : E5 aK aV A U) : va_Nw (.fieldLinkNest RX5 291 "OneFurrow$Rows" "fields" "I" "OneFurrow") U := h.1 (RX5, 291, "OneFurrow$Rows", "fields", "I", "OneFurrow") (List.mem_of_getElem? (i := 15) rfl)
theorem E5.nFX5_292 (h : E5 aK aV A U) : va_Nw (.fieldLinkNest RX5 292 "OneFurrow$Rows" "hours" "[I" "OneFurrow") U := h.1 (RX5, 292, "OneFurrow$Rows", "hours", "[I", "OneFurrow") (List.mem_of_getElem? (i := 16) rfl)
theorem E5.nFX5_295 (h : E5 aK aV A U) : va_Nw (.fieldLinkNest RX5 295 "OneFurrow$Rows" "wet" "[I" "OneFurrow") U := h.1 (RX5, 295, "OneFurrow$Rows", "wet", "[I", "OneFurrow") (List.mem_of_getElem? (i := 17) rfl)
theorem E5.nFX5_298 (h : E5 aK aV A U) : va_Nw (.fieldLinkNest RX5 298 "OneFurrow$Rows" "worth" "[I" "OneFurrow") U := h.1 (RX5, 298, "OneFurrow$Rows", "worth", "[I", "OneFurrow") (List.mem_of_getElem? (i := 18) rfl)
theorem E5.nFX5_207 (h : E5 aK aV A U) : va_Nw (.fieldLinkNest RX5 207 "OneFurrow$Rows" "joins" "[I" "OneFurrow") U := h.1 (RX5, 207, "OneFurrow$Rows", "joins", "[I", "OneFurrow") (List.mem_of_getElem? (i := 19) rfl)
theorem E5.nFX5_186 (h : E5 aK aV A U) : va_Nw (.fieldLinkNest RX5 186 "OneFurrow$Rows" "many" "I" "OneFurrow") U := h.1 (RX5, 186, "OneFurrow$Rows", "many", "I", "OneFurrow") (List.mem_of_getElem? (i := 20) rfl)
theorem E5.nFX5_201 (h : E5 aK aV A U) : va_Nw (.fieldLinkNest RX5 201 "OneFurrow$Rows" "mostYield" "I" "OneFurrow") U := h.1 (RX5, 201, "OneFurrow$Rows", "mostYield", "I", "OneFurrow") (List.mem_of_getElem? (i := 21) rfl)
theorem E5.nFX5_189 (h : E5 aK aV A U) : va_Nw (.fieldLinkNest RX5 189 "OneFurrow$Rows" "lateDay" "I" "OneFurrow") U := h.1 (RX5, 189, "OneFurrow$Rows", "lateDay", "I", "OneFurrow") (List.mem_of_getElem? (i := 22) rfl)
theorem E5.nFX5_192 (h : E5 aK aV A U) : va_Nw (.fieldLinkNest RX5 192 "OneFurrow$Rows" "lateYield" "I" "OneFurrow") U := h.1 (RX5, 192, "OneFurrow$Rows", "lateYield", "I", "OneFurrow") (List.mem_of_getElem? (i := 23) rfl)
theorem E5.nFX5_195 (h : E5 aK aV A U) : va_Nw (.fieldLinkNest RX5 195 "OneFurrow$Rows" "late" "[I" "OneFurrow") U := h.1 (RX5, 195, "OneFurrow$Rows", "late", "[I", "OneFurrow") (List.mem_of_getElem? (i := 24) rfl)
theorem E5.nFX5_198 (h : E5 aK aV A U) : va_Nw (.fieldLinkNest RX5 198 "OneFurrow$Rows" "lateDays" "[I" "OneFurrow") U := h.1 (RX5, 198, "OneFurrow$Rows", "lateDays", "[I", "OneFurrow") (List.mem_of_getElem? (i := 25) rfl)
theorem E5.nFX5_235 (h : E5 aK aV A U) : va_Nw (.fieldLinkNest RX5 235 "OneFurrow$Sheet" "bits" "I" "OneFurrow") U := h.1 (RX5, 235, "OneFurrow$Sheet", "bits", "I", "OneFurrow") (List.mem_of_getElem? (i := 26) rfl)
theorem E5.nFX5_232 (h : E5 aK aV A U) : va_Nw (.fieldLinkNest RX5 232 "OneFurrow$Sheet" "size" "I" "OneFurrow") U := h.1 (RX5, 232, "OneFurrow$Sheet", "size", "I", "OneFurrow") (List.mem_of_getElem? (i := 27) rfl)
theorem E5.nFX5_238 (h : E5 aK aV A U) : va_Nw (.fieldLinkNest RX5 238 "OneFurrow$Sheet" "numbers" "[J" "OneFurrow") U := h.1 (RX5, 238, "OneFurrow$Sheet", "numbers", "[J", "OneFurrow") (List.mem_of_getElem? (i := 28) rfl)
theorem E5.nFX1_36 (h : E5 aK aV A U) : va_Nw (.fieldLinkNest RX1 36 "OneFurrow" "FIRST_MARK" "[I" "OneFurrow") U := h.1 (RX1, 36, "OneFurrow", "FIRST_MARK", "[I", "OneFurrow") (List.mem_of_getElem? (i := 29) rfl)
theorem E5.nFX4_93 (h : E5 aK aV A U) : va_Nw (.fieldLinkNest RX4 93 "OneFurrow" "MOST_MARK" "[I" "OneFurrow") U := h.1 (RX4, 93, "OneFurrow", "MOST_MARK", "[I", "OneFurrow") (List.mem_of_getElem? (i := 30) rfl)
theorem E5.nMX5_9 (h : E5 aK aV A U) : va_Nw (.methodLinkNest RX5 9 yX1_init "OneFurrow") U := h.2.1 (RX5, 9, yX1_init, "OneFurrow") (List.mem_of_getElem? (i := 0) rfl)
theorem E5.nMX5_24 (h : E5 aK aV A U) : va_Nw (.methodLinkNest RX5 24 yX4_init "OneFurrow") U := h.2.1 (RX5, 24, yX4_init, "OneFurrow") (List.mem_of_getElem? (i := 1) rfl)
theorem E5.nMX5_45 (h : E5 aK aV A U) : va_Nw (.methodLinkNest RX5 45 yX0_init "OneFurrow") U := h.2.1 (RX5, 45, yX0_init, "OneFurrow") (List.mem_of_getElem? (i := 2) rfl)
theorem E5.nMX5_52 (h : E5 aK aV A U) : va_Nw (.methodLinkNest RX5 52 yX2_init "OneFurrow") U := h.2.1 (RX5, 52, yX2_init, "OneFurrow") (List.mem_of_getElem? (i := 3) rfl)
theorem E5.nMX5_60 (h : E5 aK aV A U) : va_Nw (.methodLinkNest RX5 60 yX3_init "OneFurrow") U := h.2.1 (RX5, 60, yX3_init, "OneFurrow") (List.mem_of_getElem? (i := 4) rfl)
theorem E5.nMX5_69 (h : E5 aK aV A U) : va_Nw (.methodLinkNest RX5 69 yX1_addField "OneFurrow") U := h.2.1 (RX5, 69, yX1_addField, "OneFurrow") (List.mem_of_getElem? (i := 5) rfl)
theorem E5.nMX5_73 (h : E5 aK aV A U) : va_Nw (.methodLinkNest RX5 73 yX1_hasField "OneFurrow") U := h.2.1 (RX5, 73, yX1_hasField, "OneFurrow") (List.mem_of_getElem? (i := 6) rfl)
theorem E5.nMX5_77 (h : E5 aK aV A U) : va_Nw (.methodLinkNest RX5 77 yX1_earth "OneFurrow") U := h.2.1 (RX5, 77, yX1_earth, "OneFurrow") (List.mem_of_getElem? (i := 7) rfl)
theorem E5.nMX5_83 (h : E5 aK aV A U) : va_Nw (.methodLinkNest RX5 83 yX1_mark "OneFurrow") U := h.2.1 (RX5, 83, yX1_mark, "OneFurrow") (List.mem_of_getElem? (i := 8) rfl)
theorem E5.nMX5_93 (h : E5 aK aV A U) : va_Nw (.methodLinkNest RX5 93 yX1_putMark "OneFurrow") U := h.2.1 (RX5, 93, yX1_putMark, "OneFurrow") (List.mem_of_getElem? (i := 9) rfl)
theorem E5.nMX5_113 (h : E5 aK aV A U) : va_Nw (.methodLinkNest RX5 113 yX1_addTeam "OneFurrow") U := h.2.1 (RX5, 113, yX1_addTeam, "OneFurrow") (List.mem_of_getElem? (i := 10) rfl)
theorem E5.nMX5_116 (h : E5 aK aV A U) : va_Nw (.methodLinkNest RX5 116 yX1_hasTeam "OneFurrow") U := h.2.1 (RX5, 116, yX1_hasTeam, "OneFurrow") (List.mem_of_getElem? (i := 11) rfl)
theorem E5.nMX5_172 (h : E5 aK aV A U) : va_Nw (.methodLinkNest RX5 172 yX0_ask "OneFurrow") U := h.2.1 (RX5, 172, yX0_ask, "OneFurrow") (List.mem_of_getElem? (i := 12) rfl)
theorem E5.nMX0_28 (h : E5 aK aV A U) : va_Nw (.methodLinkNest RX0 28 yX5_isOfKind "OneFurrow") U := h.2.1 (RX0, 28, yX5_isOfKind, "OneFurrow") (List.mem_of_getElem? (i := 13) rfl)
theorem E5.nMX0_32 (h : E5 aK aV A U) : va_Nw (.methodLinkNest RX0 32 yX5_cellsBeside "OneFurrow") U := h.2.1 (RX0, 32, yX5_cellsBeside, "OneFurrow") (List.mem_of_getElem? (i := 14) rfl)
theorem E5.nMX0_86 (h : E5 aK aV A U) : va_Nw (.methodLinkNest RX0 86 yX5_holds "OneFurrow") U := h.2.1 (RX0, 86, yX5_holds, "OneFurrow") (List.mem_of_getElem? (i := 15) rfl)
theorem E5.nMX0_78 (h : E5 aK aV A U) : va_Nw (.methodLinkNest RX0 78 yX5_barOf "OneFurrow") U := h.2.1 (RX0, 78, yX5_barOf, "OneFurrow") (List.mem_of_getElem? (i := 16) rfl)
theorem E5.nMX0_99 (h : E5 aK aV A U) : va_Nw (.methodLinkNest RX0 99 yX5_cellTowards "OneFurrow") U := h.2.1 (RX0, 99, yX5_cellTowards, "OneFurrow") (List.mem_of_getElem? (i := 17) rfl)
theorem E5.nMX0_103 (h : E5 aK aV A U) : va_Nw (.methodLinkNest RX0 103 yX5_mayStep "OneFurrow") U := h.2.1 (RX0, 103, yX5_mayStep, "OneFurrow") (List.mem_of_getElem? (i := 18) rfl)
theorem E5.nMX0_107 (h : E5 aK aV A U) : va_Nw (.methodLinkNest RX0 107 yX5_isTurn "OneFurrow") U := h.2.1 (RX0, 107, yX5_isTurn, "OneFurrow") (List.mem_of_getElem? (i := 19) rfl)
theorem E5.nMX5_165 (h : E5 aK aV A U) : va_Nw (.methodLinkNest RX5 165 yX0_longest "OneFurrow") U := h.2.1 (RX5, 165, yX0_longest, "OneFurrow") (List.mem_of_getElem? (i := 20) rfl)
theorem E5.nMX5_208 (h : E5 aK aV A U) : va_Nw (.methodLinkNest RX5 208 yX2_search "OneFurrow") U := h.2.1 (RX5, 208, yX2_search, "OneFurrow") (List.mem_of_getElem? (i := 21) rfl)
theorem E5.nMX2_52 (h : E5 aK aV A U) : va_Nw (.methodLinkNest RX2 52 yX5_holds "OneFurrow") U := h.2.1 (RX2, 52, yX5_holds, "OneFurrow") (List.mem_of_getElem? (i := 22) rfl)
theorem E5.nMX5_214 (h : E5 aK aV A U) : va_Nw (.methodLinkNest RX5 214 yX4_append "OneFurrow") U := h.2.1 (RX5, 214, yX4_append, "OneFurrow") (List.mem_of_getElem? (i := 23) rfl)
theorem E5.nMX5_217 (h : E5 aK aV A U) : va_Nw (.methodLinkNest RX5 217 yX1_takeFrom "OneFurrow") U := h.2.1 (RX5, 217, yX1_takeFrom, "OneFurrow") (List.mem_of_getElem? (i := 24) rfl)
theorem E5.nMX5_221 (h : E5 aK aV A U) : va_Nw (.methodLinkNest RX5 221 yX4_tellOnto "OneFurrow") U := h.2.1 (RX5, 221, yX4_tellOnto, "OneFurrow") (List.mem_of_getElem? (i := 25) rfl)
theorem E5.nMX4_62 (h : E5 aK aV A U) : va_Nw (.methodLinkNest RX4 62 yX1_addField "OneFurrow") U := h.2.1 (RX4, 62, yX1_addField, "OneFurrow") (List.mem_of_getElem? (i := 26) rfl)
theorem E5.nMX4_89 (h : E5 aK aV A U) : va_Nw (.methodLinkNest RX4 89 yX1_putMark "OneFurrow") U := h.2.1 (RX4, 89, yX1_putMark, "OneFurrow") (List.mem_of_getElem? (i := 27) rfl)
theorem E5.nMX4_104 (h : E5 aK aV A U) : va_Nw (.methodLinkNest RX4 104 yX1_addTeam "OneFurrow") U := h.2.1 (RX4, 104, yX1_addTeam, "OneFurrow") (List.mem_of_getElem? (i := 28) rfl)
theorem E5.nMX5_228 (h : E5 aK aV A U) : va_Nw (.methodLinkNest RX5 228 yX3_begin "OneFurrow") U := h.2.1 (RX5, 228, yX3_begin, "OneFurrow") (List.mem_of_getElem? (i := 29) rfl)
theorem E5.nMX5_242 (h : E5 aK aV A U) : va_Nw (.methodLinkNest RX5 242 yX3_put "OneFurrow") U := h.2.1 (RX5, 242, yX3_put, "OneFurrow") (List.mem_of_getElem? (i := 30) rfl)
theorem E5.nMX5_246 (h : E5 aK aV A U) : va_Nw (.methodLinkNest RX5 246 yX3_hasNumbers "OneFurrow") U := h.2.1 (RX5, 246, yX3_hasNumbers, "OneFurrow") (List.mem_of_getElem? (i := 31) rfl)
theorem E5.nMX5_257 (h : E5 aK aV A U) : va_Nw (.methodLinkNest RX5 257 yX1_layCell "OneFurrow") U := h.2.1 (RX5, 257, yX1_layCell, "OneFurrow") (List.mem_of_getElem? (i := 32) rfl)
theorem E5.nMX5_283 (h : E5 aK aV A U) : va_Nw (.methodLinkNest RX5 283 yX1_allEarth "OneFurrow") U := h.2.1 (RX5, 283, yX1_allEarth, "OneFurrow") (List.mem_of_getElem? (i := 33) rfl)
theorem E5.nMX5_286 (h : E5 aK aV A U) : va_Nw (.methodLinkNest RX5 286 yX1_allJoins "OneFurrow") U := h.2.1 (RX5, 286, yX1_allJoins, "OneFurrow") (List.mem_of_getElem? (i := 34) rfl)
theorem E5.tbLeast (h : E5 aK aV A U) : tabI RX5 "LEAST_MARK" 6 tbLeast A U U.heap := h.2.2.1
theorem E5.tbMost (h : E5 aK aV A U) : tabI RX5 "MOST_MARK" 6 tbMost A U U.heap := h.2.2.2.1
theorem E5.tbFirst (h : E5 aK aV A U) : tabI RX5 "FIRST_MARK" 6 tbFirst A U U.heap := h.2.2.2.2.1
theorem E5.tbKinds (h : E5 aK aV A U) : tabI RX5 "KINDS_ABOVE" 6 tbKinds A U U.heap := h.2.2.2.2.2.1
theorem E5.tbDear (h : E5 aK aV A U) : tabI RX5 "DEAR" 6 tbDear A U U.heap := h.2.2.2.2.2.2.1
theorem E5.tbBy (h : E5 aK aV A U) : tabI RX0 "BY_CELL" 4 tbBy A U U.heap := h.2.2.2.2.2.2.2.1
theorem E5.strS (h : E5 aK aV A U) : vk_S 14 lenJS bytJS aK aV A U U.heap := h.2.2.2.2.2.2.2.2.1
theorem E5.str35 (h : E5 aK aV A U) : vk_R RX4 35 "field" (aK 0) U := h.2.2.2.2.2.2.2.2.2.1 0 (by decide)
theorem E5.str65 (h : E5 aK aV A U) : vk_R RX4 65 "stones" (aK 1) U := h.2.2.2.2.2.2.2.2.2.1 1 (by decide)
theorem E5.str71 (h : E5 aK aV A U) : vk_R RX4 71 "trees" (aK 2) U := h.2.2.2.2.2.2.2.2.2.1 2 (by decide)
theorem E5.str73 (h : E5 aK aV A U) : vk_R RX4 73 "in" (aK 3) U := h.2.2.2.2.2.2.2.2.2.1 3 (by decide)
theorem E5.str78 (h : E5 aK aV A U) : vk_R RX4 78 "out" (aK 4) U := h.2.2.2.2.2.2.2.2.2.1 4 (by decide)
theorem E5.str80 (h : E5 aK aV A U) : vk_R RX4 80 "wet" (aK 5) U := h.2.2.2.2.2.2.2.2.2.1 5 (by decide)
theorem E5.str44 (h : E5 aK aV A U) : vk_R RX4 44 "join" (aK 6) U := h.2.2.2.2.2.2.2.2.2.1 6 (by decide)
theorem E5.str108 (h : E5 aK aV A U) : vk_R RX4 108 "team" (aK 7) U := h.2.2.2.2.2.2.2.2.2.1 7 (by decide)
theorem E5.str110 (h : E5 aK aV A U) : vk_R RX4 110 "left" (aK 8) U := h.2.2.2.2.2.2.2.2.2.1 8 (by decide)
theorem E5.str112 (h : E5 aK aV A U) : vk_R RX4 112 "right" (aK 9) U := h.2.2.2.2.2.2.2.2.2.1 9 (by decide)
theorem E5.str114 (h : E5 aK aV A U) : vk_R RX4 114 "wide" (aK 10) U := h.2.2.2.2.2.2.2.2.2.1 10 (by decide)
theorem E5.str116 (h : E5 aK aV A U) : vk_R RX4 116 "shy" (aK 11) U := h.2.2.2.2.2.2.2.2.2.1 11 (by decide)
theorem E5.str118 (h : E5 aK aV A U) : vk_R RX4 118 "slow" (aK 12) U := h.2.2.2.2.2.2.2.2.2.1 12 (by decide)
theorem E5.str102 (h : E5 aK aV A U) : vk_R RX4 102 "pace" (aK 13) U := h.2.2.2.2.2.2.2.2.2.1 13 (by decide)
theorem E5.compact (h : E5 aK aV A U) : va_Z "java/lang/String" "COMPACT_STRINGS" "Z" (.int 1) A U U.heap := h.2.2.2.2.2.2.2.2.2.2.1
theorem E5.fmt (h : E5 aK aV A U) : va_Zq "jdk/internal/util/Preconditions" "SIOOBE_FORMATTER" "Ljava/util/function/BiFunction;" A U U.heap := h.2.2.2.2.2.2.2.2.2.2.2
end

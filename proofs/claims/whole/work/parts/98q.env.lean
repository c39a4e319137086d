/-! WHAT THE LAW IS GIVEN OF ITS SURROUNDINGS, OUT OF ITS TABLES AND ITS START -/
def lw_fl : List Cond := flatC (Jvm.Cond.and given_1 narrow_1)
section
variable {s : State} {b : Nat} {A : Nat → Prop}
theorem env_tab {C n : String} {N : Nat} {f : Nat → Int32} (hts : ∀ w ∈ lw_tbl, w.before #[Value.ref b] s = true) (hf : ∀ w ∈ lw_fl, w.before #[Value.ref b] s = true) (hA : ∀ a : Nat, a < s.heap.size → ¬ A a) (hN : N < 2 ^ 31) (hl : Cond.laysStatic C n "[I" ∈ lw_tbl) (hi : Cond.initialized C ∈ lw_tbl) (ha : Cond.arrayOf (.static C n "[I") .int ∈ lw_fl) (hlen : Cond.eq (.length (.static C n "[I")) (.int (Int32.ofNat N)) ∈ lw_fl) (hel : ∀ j : Nat, j < N → Cond.eq (.elem (.static C n "[I") (.int (Int32.ofNat j))) (.int (f j)) ∈ lw_fl) : tabI C n N f A s s.heap := by
  obtain ⟨t, ht, hT⟩ := va_Tof (tm := .static C n "[I") (f := fun j => .int (f j)) hN (hf _ ha) (va_eqt (hf _ hlen)) (fun j hj => va_eqt (hf _ (hel j hj))) hA
  exact ⟨t, va_Zref (hts _ hl) (hts _ hi) ht hA, hT⟩
set_option maxRecDepth 100000 in
theorem env_nF : ∀ f ∈ nestF, Cond.fieldLinkNest f.1 f.2.1 f.2.2.1 f.2.2.2.1 f.2.2.2.2.1 f.2.2.2.2.2 ∈ lw_tbl := by decide +kernel
set_option maxRecDepth 100000 in
theorem env_nM : ∀ f ∈ nestM, Cond.methodLinkNest f.1 f.2.1 f.2.2.1 f.2.2.2 ∈ lw_tbl := by decide +kernel
set_option maxRecDepth 100000 in
theorem env_s1 : ∀ i : Nat, i < 14 → Cond.exactly (.string RX4 (strI.getD i 0)) "java/lang/String" ∈ lw_fl ∧ Cond.eq (.field (.string RX4 (strI.getD i 0)) "java/lang/String" "coder" "B") (.int 0) ∈ lw_fl ∧ Cond.arrayOf (.field (.string RX4 (strI.getD i 0)) "java/lang/String" "value" "[B") .byte ∈ lw_fl ∧ Cond.eq (.length (.field (.string RX4 (strI.getD i 0)) "java/lang/String" "value" "[B")) (.int (Int32.ofNat (lenJS.getD i 0))) ∈ lw_fl ∧ Cond.stringRef RX4 (strI.getD i 0) (strT.getD i "") ∈ lw_tbl := by decide +kernel
set_option maxRecDepth 100000 in
theorem env_s2 : ∀ i : Nat, i < 14 → ∀ j : Nat, j < lenJS.getD i 0 → Cond.eq (.elem (.field (.string RX4 (strI.getD i 0)) "java/lang/String" "value" "[B") (.int (Int32.ofNat j))) (.int ((bytJS.getD i []).getD j 0)) ∈ lw_fl := by decide +kernel
def env_bs : List Nat := [0, 94, 104, 112, 122, 133, 146, 160, 175, 192, 209, 226, 245, 265]
set_option maxRecDepth 100000 in
theorem env_s3i : ∀ j : Nat, j < 14 → ∀ i : Nat, i < j → lw_fl[env_bs.getD j 0 + i]? = some (Cond.not (Cond.eq (.string RX4 (strI.getD i 0)) (.string RX4 (strI.getD j 0)))) := by decide +kernel
set_option maxRecDepth 100000 in
theorem env_s3 (i : Nat) (hi : i < 14) (j : Nat) (hj : j < 14) (hn : i ≠ j) : Cond.not (Cond.eq (.string RX4 (strI.getD i 0)) (.string RX4 (strI.getD j 0))) ∈ lw_fl ∨ Cond.not (Cond.eq (.string RX4 (strI.getD j 0)) (.string RX4 (strI.getD i 0))) ∈ lw_fl := by
  rcases Nat.lt_or_gt_of_ne hn with h | h
  · exact Or.inl (List.mem_of_getElem? (env_s3i j hj i h))
  · exact Or.inr (List.mem_of_getElem? (env_s3i i hi j h))
set_option maxRecDepth 100000 in
theorem law_env (hts : ∀ w ∈ lw_tbl, w.before #[Value.ref b] s = true) (hgv : (Jvm.Cond.and given_1 narrow_1).before #[Value.ref b] s = true) (hA : ∀ a : Nat, a < s.heap.size → ¬ A a) : ∃ aK aV : Nat → Nat, E5i aK aV A s := by
  have hf : ∀ w ∈ lw_fl, w.before #[Value.ref b] s = true := flat_of_before _ hgv
  obtain ⟨aK, aV, hS, hR⟩ := vk_Sof (tm := fun i => .string RX4 (strI.getD i 0)) (N := 14) (len := lenJS) (byt := bytJS) (A := A) (args := #[Value.ref b]) (s := s) (by decide) (fun i hi => hf _ (env_s1 i hi).1) (fun i hi => hf _ (env_s1 i hi).2.1) (fun i hi => hf _ (env_s1 i hi).2.2.1) (fun i hi => hf _ (env_s1 i hi).2.2.2.1) (fun i hi j hj => hf _ (env_s2 i hi j hj)) (fun i j hi hj hn => (env_s3 i hi j hj hn).imp (hf _) (hf _)) hA
  refine ⟨aK, aV, ⟨fun f h => va_Nw.of rfl (hts _ (env_nF f h)), fun f h => va_Nw.of rfl (hts _ (env_nM f h)), ?_, ?_, ?_, ?_, ?_, ?_, hS, fun i hi => vk_R.of (hts _ (env_s1 i hi).2.2.2.2) (hR i hi), ?_, ?_⟩, va_AO.of (hts (.arrayOver (.object RX0)) (by decide +kernel)), va_AO.of (hts (.arrayOver (.object RX3)) (by decide +kernel))⟩
  · exact env_tab hts hf hA (by decide) (by decide +kernel) (by decide +kernel) (by decide +kernel) (by decide +kernel) (by decide +kernel)
  · exact env_tab hts hf hA (by decide) (by decide +kernel) (by decide +kernel) (by decide +kernel) (by decide +kernel) (by decide +kernel)
  · exact env_tab hts hf hA (by decide) (by decide +kernel) (by decide +kernel) (by decide +kernel) (by decide +kernel) (by decide +kernel)
  · exact env_tab hts hf hA (by decide) (by decide +kernel) (by decide +kernel) (by decide +kernel) (by decide +kernel) (by decide +kernel)
  · exact env_tab hts hf hA (by decide) (by decide +kernel) (by decide +kernel) (by decide +kernel) (by decide +kernel) (by decide +kernel)
  · exact env_tab hts hf hA (by decide) (by decide +kernel) (by decide +kernel) (by decide +kernel) (by decide +kernel) (by decide +kernel)
  · exact va_Zof (hts _ (show Cond.laysStatic "java/lang/String" "COMPACT_STRINGS" "Z" ∈ lw_tbl by decide +kernel)) (hts _ (show Cond.initialized "java/lang/String" ∈ lw_tbl by decide +kernel)) (va_eqt (hf _ (show Cond.eq (.static "java/lang/String" "COMPACT_STRINGS" "Z") (.int 1) ∈ lw_fl by decide +kernel))) hA
  · exact va_Zqof (hts _ (show Cond.laysStatic "jdk/internal/util/Preconditions" "SIOOBE_FORMATTER" "Ljava/util/function/BiFunction;" ∈ lw_tbl by decide +kernel)) (hts _ (show Cond.initialized "jdk/internal/util/Preconditions" ∈ lw_tbl by decide +kernel)) (hf _ (show Cond.isRef (.static "jdk/internal/util/Preconditions" "SIOOBE_FORMATTER" "Ljava/util/function/BiFunction;") ∈ lw_fl by decide +kernel)) hA
end

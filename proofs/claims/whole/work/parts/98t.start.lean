/-! THE LAW FROM ITS ENTRY -/
section
variable {s : State} {b : Nat}
theorem arr_known {ty : FieldType} {args : Array Value} (h : (Cond.arrayClass ty).before args s = true) : ∃ cA : ClassId, ArrOfT s cA ty ∧ s.vm.findClass ("[" ++ ty.toString) = some cA := by
  obtain ⟨c, k, comp, h1, h2, h3⟩ := Cond.arrayClass_spec h
  exact ⟨c, fun n z => ⟨fun k h => (by cases h), k, h2, comp, h3⟩, h1⟩
theorem ao_known {C : String} (h : va_AO C s) : ∃ cA : ClassId, ArrOfT s cA (.object C) ∧ va_RA s cA (.object C) := by
  obtain ⟨comp, c, k, h1, h2, h3, h4, h5⟩ := Cond.arrayOver_spec h
  exact ⟨c, fun n z => ⟨fun k h => (by cases h), k, h3, comp, h4⟩, k, comp, h3, h4, h1, h5⟩
set_option maxRecDepth 100000 in
theorem law_world (hts : ∀ w ∈ lw_tbl, w.before #[Value.ref b] s = true) : ∃ g : Gl, va_K g.1 vwCl (tysG g.2) s := by
  obtain ⟨c0, i0, k0⟩ := u_known (C := RX0) (T := TX0) (N := 14) (n := 14) hts (by decide +kernel) (hts (.instantiable RX0 14) (by decide +kernel))
  obtain ⟨c1, i1, k1⟩ := u_known (C := RX1) (T := TX1) (N := 6) (n := 6) hts (by decide +kernel) (hts (.instantiable RX1 6) (by decide +kernel))
  obtain ⟨c2, i2, k2⟩ := u_known (C := RX2) (T := TX2) (N := 13) (n := 13) hts (by decide +kernel) (hts (.instantiable RX2 13) (by decide +kernel))
  obtain ⟨c3, i3, k3⟩ := u_known (C := RX3) (T := TX3) (N := 3) (n := 3) hts (by decide +kernel) (hts (.instantiable RX3 3) (by decide +kernel))
  obtain ⟨c4, i4, k4⟩ := u_known (C := RX4) (T := TX4) (N := 6) (n := 6) hts (by decide +kernel) (hts (.instantiable RX4 6) (by decide +kernel))
  obtain ⟨c5, i5, k5⟩ := u_known (C := RX5) (T := TX5) (N := 11) (n := 11) hts (by decide +kernel) (hts (.instantiable RX5 11) (by decide +kernel))
  obtain ⟨c6, i6, k6⟩ := u_known (C := RX6) (T := TX6) (N := 33) (n := 33) hts (by decide +kernel) (hts (.instantiable RX6 33) (by decide +kernel))
  obtain ⟨aI, hI1, hI2⟩ := arr_known (hts (.arrayClass .int) (by decide +kernel))
  obtain ⟨aJ, hJ1, hJ2⟩ := arr_known (hts (.arrayClass .long) (by decide +kernel))
  obtain ⟨aF, hF1, hF2⟩ := ao_known (C := RX0) (va_AO.of (hts (.arrayOver (.object RX0)) (by decide +kernel)))
  obtain ⟨aH, hH1, hH2⟩ := ao_known (C := RX3) (va_AO.of (hts (.arrayOver (.object RX3)) (by decide +kernel)))
  refine ⟨((fun k => if k = 0 then c0 else if k = 1 then c1 else if k = 2 then c2 else if k = 3 then c3 else if k = 4 then c4 else if k = 5 then c5 else c6, fun k => if k = 0 then i0 else if k = 1 then i1 else if k = 2 then i2 else if k = 3 then i3 else if k = 4 then i4 else if k = 5 then i5 else i6), fun k => if k = 0 then aI else if k = 1 then aJ else if k = 2 then aF else aH), ?_, ?_⟩
  · intro k q hq
    match k, hq with
    | 0, hq => cases hq; exact k0
    | 1, hq => cases hq; exact k1
    | 2, hq => cases hq; exact k2
    | 3, hq => cases hq; exact k3
    | 4, hq => cases hq; exact k4
    | 5, hq => cases hq; exact k5
    | 6, hq => cases hq; exact k6
    | k + 7, hq => simp [vwCl] at hq
  · intro k q hq
    match k, hq with
    | 0, hq => cases hq; exact ⟨hI1, hI2⟩
    | 1, hq => cases hq; exact ⟨hJ1, hJ2⟩
    | 2, hq => cases hq; exact ⟨hF1, hF2⟩
    | 3, hq => cases hq; exact ⟨hH1, hH2⟩
    | k + 4, hq => simp [tysG] at hq
end
set_option maxHeartbeats 4000000 in
set_option maxRecDepth 100000 in
theorem whole_start {p : Program} {e : Env} {s : State} {m : MethodId} {below : List Frame} {meth : Method} {c : Code} (l : Launch) (hflags : l.flags = flags0) {b L : Nat} {xs : Nat → Int32} (hL : L ≤ 448) (h0 : lw_At p s m meth c b L xs) : W p l e room_1 s m #[Value.ref b] below meth c s.heap [] 0 0 (lw_Z below #[Value.ref b] s) (entryFrame m ([Value.ref b] : List Value).toArray 4) := by
  obtain ⟨hx, hb, hr, hml, hown, hts, hX, hbl, hlocks, hgv⟩ := h0
  have hA : ∀ q : Nat, s.heap.size ≤ q → (fun q : Nat => s.heap.size ≤ q) q := fun _ h => h
  have hbA : ¬ (fun q : Nat => s.heap.size ≤ q) b := Nat.not_le.mpr hbl
  obtain ⟨g, hK⟩ := law_world hts
  obtain ⟨aK, aV, hE⟩ := law_env (A := fun q : Nat => s.heap.size ≤ q) hts hgv (fun a h => Nat.not_le.mpr h)
  have hC : CallFix p m c cL_law 4 s #[Value.ref b] wsL_law RL := ⟨hx, hb, hml, hown, fun w hw => hts w (wsL_law_in w hw)⟩
  have hin5 : ∀ w ∈ wsX50, w ∈ lw_tbl := by decide +kernel
  have hin6 : ∀ w ∈ wsX60, w ∈ lw_tbl := by decide +kernel
  have hS : va_S (fun q : Nat => s.heap.size ≤ q) s.heap s.heap [] := va_S.rf
  have hP : va_P g.1 vwCl [] s.heap := fun k q h => by simp at h
  have hD : va_D (fun q : Nat => s.heap.size ≤ q) [] := ⟨fun i j p q h => by simp at h, fun k q h => by simp at h⟩
  have hl := lv_entry ([.ref b]) (n := 4) (Nat.le_of_ble_eq_true rfl)
  rw [lg_entry_eq]
  generalize (lg_sl ([.ref b]) ++ List.replicate (4 - (lg_sl ([.ref b])).length) Slot.unset).toArray = ls at hl ⊢
  have hl : lv_has ls 4 [(0, .ref b)] := hl
  refine va_new (ci := 5) (fs := [.null, .null, .null, .int 0, .null, .null, .null, .null, .null, .null, .null]) (C := RX5) (T := TX5) (N := 11) hx hb hts hin5 tyX5 tyX5_ok hown (hts (.classLink RL 7 RX5) (by decide +kernel)) (hts (.instantiable RX5 11) (by decide +kernel)) (hts (.initialized RX5) (by decide +kernel)) hK hP hD hS hA rfl (fun j hj => by match j, hj with | 0, _ => rfl | 1, _ => rfl | 2, _ => rfl | 3, _ => rfl | 4, _ => rfl | 5, _ => rfl | 6, _ => rfl | 7, _ => rfl | 8, _ => rfl | 9, _ => rfl | 10, _ => rfl | j + 11, hj => exact absurd hj (by omega)) (Nat.le_of_ble_eq_true rfl) (Nat.le_of_ble_eq_true rfl) dL_law_0 (fun o5 H hP hD hS => ?_)
  refine lv_dup hx hb dL_law_3 rfl ?_
  have hw : Wd g.1 (fun q : Nat => s.heap.size ≤ q) s.heap ([] ++ [(o5, .inr (5, [.null, .null, .null, .int 0, .null, .null, .null, .null, .null, .null, .null]))]) H [] := ⟨hP, hD, hS⟩
  have hFc := (Sub1.last [] (o5, .inr (5, [.null, .null, .null, .int 0, .null, .null, .null, .null, .null, .null, .null]))).free hw.2.1 hw.2.2 hA
  refine va_callv (va_runI (As := []) (rest := [.ref o5]) hC (iX5 l g aK aV o5 H.size) (cwI 0 hC.2.2.2.2 gL_law_X5_init rfl rfl rfl (hts (.initialized RX5) (by decide +kernel)) (hts (.methodLink RL 9 yX5_init) (by decide +kernel)) (hts (.instanceMethod yX5_init) (by decide +kernel)) rfl (by decide +kernel) ⟨Nat.le_of_ble_eq_true rfl, Nat.le_of_ble_eq_true rfl⟩) (mpre (E5i_ok aK aV) hK hE hA hw (Sub1.last _ _)) rfl rfl hl.1 rfl (lv_room (Nat.le_of_ble_eq_true rfl)) dL_law_4 ⟨Nat.le_of_ble_eq_true rfl, Nat.le_of_ble_eq_true rfl⟩) hS (fun q _ h => hFc q h) hFc (fun q5 t H1 locs1 ht hvm hp hB hz hk hS => ?_)
  replace hw := mjoin hw hk hFc (by rw [← ht]; exact hB.1) hB.2.2 hS
  replace hp : q5 0 0 = o5 := hp
  subst hp
  clear hP hD hS
  obtain ⟨hP, hD, hS⟩ := hw
  generalize H1 = H at hP hS ⊢
  generalize locs1 = locs at hS ⊢
  replace hP : va_P g.1 vwCl (wC g q5 (C0, N0)) H := hP
  replace hD : va_D (fun q : Nat => s.heap.size ≤ q) (wC g q5 (C0, N0)) := hD
  refine lv_astore_n (lv' := [(1, .ref (q5 0 0)), (0, .ref b)]) hx hb dL_law_7 rfl hl (by decide) rfl (fun ls hl => ?_)
  refine va_new (ci := 6) (fs := [.null, .null, .null, .null, .int 0, .null, .null, .null, .null, .null, .int 0, .int 0, .int 0, .int 0, .null, .null, .null, .null, .null, .int 0, .int 0, .int 0, .int 0, .null, .int 0, .int 0, .int 0, .int 0, .int 0, .null, .null, .null, .null]) (C := RX6) (T := TX6) (N := 33) hx hb hts hin6 tyX6 tyX6_ok hown (hts (.classLink RL 10 RX6) (by decide +kernel)) (hts (.instantiable RX6 33) (by decide +kernel)) (hts (.initialized RX6) (by decide +kernel)) hK hP hD hS hA rfl (fun j hj => by match j, hj with | 0, _ => rfl | 1, _ => rfl | 2, _ => rfl | 3, _ => rfl | 4, _ => rfl | 5, _ => rfl | 6, _ => rfl | 7, _ => rfl | 8, _ => rfl | 9, _ => rfl | 10, _ => rfl | 11, _ => rfl | 12, _ => rfl | 13, _ => rfl | 14, _ => rfl | 15, _ => rfl | 16, _ => rfl | 17, _ => rfl | 18, _ => rfl | 19, _ => rfl | 20, _ => rfl | 21, _ => rfl | 22, _ => rfl | 23, _ => rfl | 24, _ => rfl | 25, _ => rfl | 26, _ => rfl | 27, _ => rfl | 28, _ => rfl | 29, _ => rfl | 30, _ => rfl | 31, _ => rfl | 32, _ => rfl | j + 33, hj => exact absurd hj (by omega)) (Nat.le_of_ble_eq_true rfl) (Nat.le_of_ble_eq_true rfl) dL_law_8 (fun o6 H hP hD hS => ?_)
  refine lv_dup hx hb dL_law_11 rfl ?_
  have hw : Wd g.1 (fun q : Nat => s.heap.size ≤ q) s.heap (wC g q5 (C0, N0) ++ [(o6, .inr (6, [.null, .null, .null, .null, .int 0, .null, .null, .null, .null, .null, .int 0, .int 0, .int 0, .int 0, .null, .null, .null, .null, .null, .int 0, .int 0, .int 0, .int 0, .null, .int 0, .int 0, .int 0, .int 0, .int 0, .null, .null, .null, .null]))]) H locs := ⟨hP, hD, hS⟩
  have hFc := (Sub1.last (wC g q5 (C0, N0)) (o6, .inr (6, [.null, .null, .null, .null, .int 0, .null, .null, .null, .null, .null, .int 0, .int 0, .int 0, .int 0, .null, .null, .null, .null, .null, .int 0, .int 0, .int 0, .int 0, .null, .int 0, .int 0, .int 0, .int 0, .int 0, .null, .null, .null, .null]))).free hw.2.1 hw.2.2 hA
  refine va_callv (va_runI (As := []) (rest := [.ref o6]) hC (iX6 l g o6 H.size) (cwI 0 hC.2.2.2.2 gL_law_X6_init rfl rfl rfl (hts (.initialized RX6) (by decide +kernel)) (hts (.methodLink RL 12 yX6_init) (by decide +kernel)) (hts (.instanceMethod yX6_init) (by decide +kernel)) rfl (by decide +kernel) ⟨Nat.le_of_ble_eq_true rfl, Nat.le_of_ble_eq_true rfl⟩) (mpre E0_ok hK trivial hA hw (Sub1.last _ _)) rfl rfl hl.1 rfl (lv_room (Nat.le_of_ble_eq_true rfl)) dL_law_12 ⟨Nat.le_of_ble_eq_true rfl, Nat.le_of_ble_eq_true rfl⟩) hS (fun q _ h => hFc q h) hFc (fun q6 t H1 locs1 ht hvm hp hB hz hk hS => ?_)
  replace hw := mjoin hw hk hFc (by rw [← ht]; exact hB.1) hB.2.2 hS
  replace hp : q6 0 = o6 := hp
  subst hp
  clear hP hD hS
  refine lv_astore_n (lv' := [(2, .ref (q6 0)), (1, .ref (q5 0 0)), (0, .ref b)]) hx hb dL_law_15 rfl hl (by decide) rfl (fun ls hl => ?_)
  refine lv_iconst (v := 0) hx hb dL_law_16 (by decide) ?_
  refine lv_istore_n (lv' := [(3, .int 0), (2, .ref (q6 0)), (1, .ref (q5 0 0)), (0, .ref b)]) hx hb dL_law_17 rfl hl (by decide) rfl (fun ls hl => ?_)
  exact law_loop hC hr hlocks hA (fun _ h => h) hK hE.1 hX hbl hbA hL (L + 1) 0 C0 N0 _ _ H1 locs1 ls (Nat.zero_le L) (by omega) inv_start hw (lv_sub hl [3, 2, 1, 0] rfl)

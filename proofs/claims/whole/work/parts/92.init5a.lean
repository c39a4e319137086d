def FZ : Bun := up (fun _ _ => 0) 0 0 (-1)
def C0 : Nat → Bun := fun b => if b = 6 ∨ 11 ≤ b then FZ else (fun _ _ => 0)
def N0 : Nat → Lon := fun _ _ _ => 0
def E5i (aK aV : Nat → Nat) : En := fun A U => E5 aK aV A U ∧ va_AO RX0 U ∧ va_AO RX3 U
theorem E5i_ok (aK aV : Nat → Nat) : EnvOk (E5i aK aV) := ⟨fun A U gg mk a h => ⟨(E5_ok aK aV).1 A U gg mk a h.1, h.2.1.moved (Vm.Alike.refl U.vm), h.2.2.moved (Vm.Alike.refl U.vm)⟩, fun A B s U H locs h hS hU hW hB => ⟨(E5_ok aK aV).2 A B s U H locs h.1 hS hU hW hB, h.2.1.moved hW.alike, h.2.2.moved hW.alike⟩⟩
theorem newFc {D : va_G} {cl : List vw_C} {k : Nat → ClassId} {cA : ClassId} {s : State} (h : va_K D cl (tysG k ++ [(cA, .object RX0)]) s) : cA = k 2 := by
  obtain ⟨_, _, _, _, _, h1⟩ := (h.2 2 _ rfl).2
  obtain ⟨_, _, _, _, _, h2⟩ := (h.2 4 _ rfl).2
  exact Option.some.inj (h2.symm.trans h1)
theorem newH {D : va_G} {cl : List vw_C} {k : Nat → ClassId} {cA : ClassId} {s : State} (h : va_K D cl (tysG k ++ [(cA, .object RX3)]) s) : cA = k 3 := by
  obtain ⟨_, _, _, _, _, h1⟩ := (h.2 3 _ rfl).2
  obtain ⟨_, _, _, _, _, h2⟩ := (h.2 4 _ rfl).2
  exact Option.some.inj (h2.symm.trans h1)
/-- behind a constructor: the new cells beside the rest -/
theorem mjoin {D : va_G} {A : Nat → Prop} {H0 H H1 : Heap} {locs locs1 : List Loc} {wr w1 : va_W} {cell : Nat × va_E} (hw : Wd D A H0 (wr ++ [cell]) H locs) (hk : ∀ q : Nat, q < H.size → ¬ va_A [cell] H.size q → H1[q]? = H[q]?) (hF : ∀ q, va_A [cell] H.size q → A q) (hP1 : va_P D vwCl w1 H1) (hD1 : va_D (va_A [cell] H.size) w1) (hS : va_S A H0 H1 locs1) : Wd D A H0 (wr ++ w1) H1 locs1 := by
  have h := va_join (wc := [cell]) (wr := wr) hw.1 hw.2.1 [wr.length] (List.range' 0 wr.length) (by simp) ?_ (nd_range' _ _) ?_ hk hF hP1 hD1
  · exact ⟨h.1, h.2, hS⟩
  · apply List.ext_getElem?
    intro i
    by_cases h : i < wr.length
    · simp [h, List.getElem?_append_left h]
    · simp [h]
  · intro i hi
    have := List.mem_range'_1.mp hi
    simp
    omega
theorem Sub1.last (wr : va_W) (cell : Nat × va_E) : Sub1 (wr ++ [cell]) [cell] := ⟨[wr.length], rfl, by simp⟩
def w5 (g : Gl) (h0 a5 a6 a7 a10 : Nat) (q1 q2 q3 q4 q8 q9 : Nat → Nat) (fa fs : Nat → Option Nat) : va_W := (h0, .inr (5, [.ref (q1 0), .ref (q2 0), .ref (q3 0), .int 0, .ref (q4 0), .ref a5, .ref a6, .ref a7, .ref (q8 0), .ref (q9 0), .ref a10])) :: (((((((((wP g q1 (fun _ _ => 0) ++ wP g q2 (fun _ _ => 0)) ++ wP g q3 (fun _ _ => 0)) ++ wT g q4 (fun _ _ => 0)) ++ [(a5, .inl (g.2 3, 4, .inr (.inr (.inr (.inr fs)))))]) ++ [(a6, .inl (g.2 0, 7, .inl (fun _ => 0)))]) ++ [(a7, .inl (g.2 2, 36, .inr (.inr (.inr (.inr fa)))))]) ++ wF g q8 FZ) ++ wR g q9 (fun _ _ => 0)) ++ [(a10, .inl (g.2 0, 6, .inl (fun _ => 0)))])
def fo (i : Nat) (qf : Nat → Nat → Nat) : Nat → Option Nat := fun k => if k < i then some (qf k 0) else none
def flF (g : Gl) (i : Nat) (qf : Nat → Nat → Nat) : va_W := (List.range i).flatMap (fun k => wF g (qf k) FZ)
def flH (g : Gl) (i : Nat) (qh : Nat → Nat → Nat) : va_W := (List.range i).flatMap (fun k => wH g (qh k) ((fun _ _ => 0), (fun _ _ => 0)))
theorem fo_0 (qf : Nat → Nat → Nat) : fo 0 qf = fun _ => none := by funext k; simp [fo]
theorem fo_s (i : Nat) (qf : Nat → Nat → Nat) (u : Nat → Nat) : va_up (fo i qf) i (some (u 0)) = fo (i + 1) (va_up qf i u) := by
  funext k
  unfold va_up fo
  rcases Nat.lt_trichotomy k i with h | h | h
  · simp [h, Nat.ne_of_lt h, Nat.lt_succ_of_lt h]
  · simp [h]
  · have h1 : ¬ k = i := by omega
    have h2 : ¬ k < i := by omega
    have h3 : ¬ k < i + 1 := by omega
    simp [h1, h2, h3]
theorem flF_s (g : Gl) (i : Nat) (qf : Nat → Nat → Nat) (u : Nat → Nat) : flF g i qf ++ wF g u FZ = flF g (i + 1) (va_up qf i u) := by
  unfold flF
  rw [List.range_succ, List.flatMap_append]
  have h : (List.range i).flatMap (fun k => wF g (va_up qf i u k) FZ) = (List.range i).flatMap (fun k => wF g (qf k) FZ) := fm_congr (fun k hk => by rw [up_o (by have := List.mem_range.mp hk; omega)])
  rw [h]
  simp [up_s]
theorem flH_s (g : Gl) (i : Nat) (qh : Nat → Nat → Nat) (u : Nat → Nat) : flH g i qh ++ wH g u ((fun _ _ => 0), (fun _ _ => 0)) = flH g (i + 1) (va_up qh i u) := by
  unfold flH
  rw [List.range_succ, List.flatMap_append]
  have h : (List.range i).flatMap (fun k => wH g (va_up qh i u k) ((fun _ _ => 0), (fun _ _ => 0))) = (List.range i).flatMap (fun k => wH g (qh k) ((fun _ _ => 0), (fun _ _ => 0))) := fm_congr (fun k hk => by rw [up_o (by have := List.mem_range.mp hk; omega)])
  rw [h]
  simp [up_s]
theorem va_P_iff {D : va_G} {cl : List vw_C} {ws : va_W} {H : Heap} : va_P D cl ws H ↔ ∀ q ∈ ws, va_at D cl q H := ⟨fun h q hq => by obtain ⟨k, hk⟩ := List.getElem?_of_mem hq; exact h k q hk, fun h k q hk => h q (List.mem_of_getElem? hk)⟩
theorem va_D_iff {A : Nat → Prop} {ws : va_W} : va_D A ws ↔ (ws.map (fun q => q.1)).Nodup ∧ ∀ q ∈ ws, A q.1 := by
  constructor
  · intro h
    refine ⟨?_, fun q hq => by obtain ⟨k, hk⟩ := List.getElem?_of_mem hq; exact h.2 k q hk⟩
    rw [List.nodup_iff_pairwise_ne, List.pairwise_iff_getElem]
    intro i j hi hj hij e
    rw [List.length_map] at hi hj
    rw [List.getElem_map, List.getElem_map] at e
    have := h.1 i j _ _ (List.getElem?_eq_getElem hi) (List.getElem?_eq_getElem hj) e
    omega
  · intro h
    refine ⟨fun i j x y hx hy e => ?_, fun k q hk => h.2 q (List.mem_of_getElem? hk)⟩
    obtain ⟨hi, ex⟩ := List.getElem?_eq_some_iff.mp hx
    obtain ⟨hj, ey⟩ := List.getElem?_eq_some_iff.mp hy
    have h1 := h.1
    rw [List.nodup_iff_pairwise_ne, List.pairwise_iff_getElem] at h1
    rcases Nat.lt_trichotomy i j with h2 | h2 | h2
    · exact absurd (by rw [List.getElem_map, List.getElem_map, ex, ey]; exact e) (h1 i j (by simpa using hi) (by simpa using hj) h2)
    · exact h2
    · exact absurd (by rw [List.getElem_map, List.getElem_map, ex, ey]; exact e.symm) (h1 j i (by simpa using hj) (by simpa using hi) h2)
theorem va_P_perm {D : va_G} {cl : List vw_C} {ws ws' : va_W} {H : Heap} (p : ws.Perm ws') (h : va_P D cl ws H) : va_P D cl ws' H := va_P_iff.mpr (fun q hq => va_P_iff.mp h q (p.mem_iff.mpr hq))
theorem va_D_perm {A : Nat → Prop} {ws ws' : va_W} (p : ws.Perm ws') (h : va_D A ws) : va_D A ws' := by
  rw [va_D_iff] at h ⊢
  exact ⟨(p.map (fun q => q.1)).nodup_iff.mp h.1, fun q hq => h.2 q (p.mem_iff.mpr hq)⟩
def qfin (h0 a5 a6 a7 a10 : Nat) (q1 q2 q3 q4 q8 q9 : Nat → Nat) (qf qh : Nat → Nat → Nat) : Nat → Nat → Nat := fun b j => if b = 0 then ([h0, 0, 0, 0, 0, 0, a5, a6, a7, 0, 0, a10] : List Nat).getD j 0 else if b = 1 then q1 j else if b = 2 then q2 j else if b = 3 then q3 j else if b = 4 then q4 j else if b = 5 then q9 j else if b = 6 then q8 j else if b ≤ 10 then qh (b - 7) j else qf (b - 11) j
theorem fm_shift (f : Nat → va_W) (k n : Nat) : (List.range' k n).flatMap f = (List.range n).flatMap (fun i => f (i + k)) := by
  have h : List.range' k n = (List.range n).map (fun i => i + k) := by
    apply List.ext_getElem?
    intro i
    by_cases h : i < n
    · simp [h, List.getElem?_range', Nat.add_comm]
    · simp [h]
  rw [h, List.flatMap_map]
theorem wC_fin (g : Gl) (h0 a5 a6 a7 a10 : Nat) (q1 q2 q3 q4 q8 q9 : Nat → Nat) (qf qh : Nat → Nat → Nat) : wC g (qfin h0 a5 a6 a7 a10 q1 q2 q3 q4 q8 q9 qf qh) (C0, N0) = [(h0, .inr (5, [.ref (q1 0), .ref (q2 0), .ref (q3 0), .int 0, .ref (q4 0), .ref a5, .ref a6, .ref a7, .ref (q8 0), .ref (q9 0), .ref a10]))] ++ ([(a5, .inl (g.2 3, 4, .inr (.inr (.inr (.inr (fun i => some (qfin h0 a5 a6 a7 a10 q1 q2 q3 q4 q8 q9 qf qh (i + 7) 0)))))))] ++ ([(a6, .inl (g.2 0, 7, .inl (fun _ => 0)))] ++ ([(a7, .inl (g.2 2, 36, .inr (.inr (.inr (.inr (fun i => some (qfin h0 a5 a6 a7 a10 q1 q2 q3 q4 q8 q9 qf qh (i + 11) 0)))))))] ++ ([(a10, .inl (g.2 0, 6, .inl (fun _ => 0)))] ++ ((((wP g q1 (fun _ _ => 0) ++ wP g q2 (fun _ _ => 0)) ++ wP g q3 (fun _ _ => 0)) ++ wT g q4 (fun _ _ => 0)) ++ (wR g q9 (fun _ _ => 0) ++ (wF g q8 FZ ++ (flH g 4 qh ++ flF g 36 qf)))))))) := by
  have hr : List.range 47 = [0, 1, 2, 3, 4, 5, 6] ++ (List.range' 7 4 ++ List.range' 11 36) := by decide
  unfold wC
  rw [hr, List.flatMap_append, List.flatMap_append, fm_shift _ 7 4, fm_shift _ 11 36]
  have e1 : (List.range 4).flatMap (fun i => bw g (qfin h0 a5 a6 a7 a10 q1 q2 q3 q4 q8 q9 qf qh) C0 N0 (i + 7)) = flH g 4 qh := by
    unfold flH
    refine fm_congr (fun i hi => ?_)
    have hi := List.mem_range.mp hi
    rw [bw_H ⟨by omega, by omega⟩]
    have a : qfin h0 a5 a6 a7 a10 q1 q2 q3 q4 q8 q9 qf qh (i + 7) = qh i := by
      funext j
      unfold qfin
      rw [if_neg (by omega), if_neg (by omega), if_neg (by omega), if_neg (by omega), if_neg (by omega), if_neg (by omega), if_neg (by omega), if_pos (by omega), Nat.add_sub_cancel]
    have b : C0 (i + 7) = fun _ _ => 0 := by
      unfold C0
      rw [if_neg (by omega)]
    rw [a, b]
    rfl
  have e2 : (List.range 36).flatMap (fun i => bw g (qfin h0 a5 a6 a7 a10 q1 q2 q3 q4 q8 q9 qf qh) C0 N0 (i + 11)) = flF g 36 qf := by
    unfold flF
    refine fm_congr (fun i hi => ?_)
    have hi := List.mem_range.mp hi
    rw [bw_F (Or.inr ⟨by omega, by omega⟩)]
    have a : qfin h0 a5 a6 a7 a10 q1 q2 q3 q4 q8 q9 qf qh (i + 11) = qf i := by
      funext j
      unfold qfin
      rw [if_neg (by omega), if_neg (by omega), if_neg (by omega), if_neg (by omega), if_neg (by omega), if_neg (by omega), if_neg (by omega), if_neg (by omega), Nat.add_sub_cancel]
    have b : C0 (i + 11) = FZ := by
      unfold C0
      rw [if_pos (Or.inr (by omega))]
    rw [a, b]
  show _ ++ (List.flatMap (fun i => bw g (qfin h0 a5 a6 a7 a10 q1 q2 q3 q4 q8 q9 qf qh) C0 N0 (i + 7)) (List.range 4) ++ List.flatMap (fun i => bw g (qfin h0 a5 a6 a7 a10 q1 q2 q3 q4 q8 q9 qf qh) C0 N0 (i + 11)) (List.range 36)) = _
  rw [e1, e2]
  rfl
theorem perm_fin {A P s f a F R t FF HH : va_W} : (A ++ (P ++ (s ++ (f ++ (a ++ (F ++ (R ++ (t ++ (FF ++ HH))))))))).Perm (A ++ (s ++ (f ++ (a ++ (t ++ (P ++ (R ++ (F ++ (HH ++ FF))))))))) := by
  refine List.Perm.append_left A ?_
  have c : ∀ (x y z : va_W), (x ++ (y ++ z)).Perm (y ++ (x ++ z)) := fun x y z => by
    rw [← List.append_assoc, ← List.append_assoc]
    exact List.Perm.append_right z List.perm_append_comm
  refine (c P s _).trans (List.Perm.append_left s ?_)
  refine (c P f _).trans (List.Perm.append_left f ?_)
  refine (c P a _).trans (List.Perm.append_left a ?_)
  have h1 : (F ++ (R ++ (t ++ (FF ++ HH)))).Perm (t ++ (F ++ (R ++ (FF ++ HH)))) := ((List.Perm.append_left F (c R t _))).trans (c F t _)
  refine ((List.Perm.append_left P h1).trans (c P t _)).trans (List.Perm.append_left t (List.Perm.append_left P ?_))
  refine (c F R _).trans (List.Perm.append_left R (List.Perm.append_left F List.perm_append_comm))
theorem w5_fin (g : Gl) (h0 a5 a6 a7 a10 : Nat) (q1 q2 q3 q4 q8 q9 : Nat → Nat) (fa fs : Nat → Option Nat) (X Y : va_W) : ((w5 g h0 a5 a6 a7 a10 q1 q2 q3 q4 q8 q9 fa fs ++ X) ++ Y) = [(h0, .inr (5, [.ref (q1 0), .ref (q2 0), .ref (q3 0), .int 0, .ref (q4 0), .ref a5, .ref a6, .ref a7, .ref (q8 0), .ref (q9 0), .ref a10]))] ++ ((((wP g q1 (fun _ _ => 0) ++ wP g q2 (fun _ _ => 0)) ++ wP g q3 (fun _ _ => 0)) ++ wT g q4 (fun _ _ => 0)) ++ ([(a5, .inl (g.2 3, 4, .inr (.inr (.inr (.inr fs)))))] ++ ([(a6, .inl (g.2 0, 7, .inl (fun _ => 0)))] ++ ([(a7, .inl (g.2 2, 36, .inr (.inr (.inr (.inr fa)))))] ++ (wF g q8 FZ ++ (wR g q9 (fun _ _ => 0) ++ ([(a10, .inl (g.2 0, 6, .inl (fun _ => 0)))] ++ (X ++ Y)))))))) := by
  unfold w5
  simp only [List.append_assoc, List.cons_append, List.nil_append]
/-- arrays of references speak of their length's places alone -/
theorem at_refs {D : va_G} {cl : List vw_C} {a n : Nat} {cA : ClassId} {f f2 : Nat → Option Nat} {H : Heap} (h : va_at D cl (a, .inl (cA, n, .inr (.inr (.inr (.inr f))))) H) (e : ∀ k, k < n → f2 k = f k) : va_at D cl (a, .inl (cA, n, .inr (.inr (.inr (.inr f2))))) H := by
  have h1 : H[a]? = some (vp_cell cA (n, .inr (.inr (.inr (.inr f))))) := h
  show H[a]? = some (vp_cell cA (n, .inr (.inr (.inr (.inr f2)))))
  rw [h1]
  rw [vp_cell_q, vp_cell_q]
  unfold arrV
  have hq : (fun j : Fin n => va_rf (f j.val)) = (fun j : Fin n => va_rf (f2 j.val)) := funext (fun j => by rw [e j.val j.isLt])
  rw [hq]

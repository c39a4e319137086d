/-! THE WORDS OF THE WALK: states as rows of rows, worlds as lists of cells, one start, one end and one call for every method -/
abbrev Bun : Type := Nat → Nat → Int32
abbrev Lon : Type := Nat → Nat → Int64
def up (S : Bun) (k i : Nat) (v : Int32) : Bun := va_up S k (upd (S k) i v)
def upL (S : Lon) (k i : Nat) (v : Int64) : Lon := va_up S k (vp_updL (S k) i v)
/-- a loop: what every predicate closed under the body holds of -/
def wloop {σ : Type} (body : (σ → Prop) → σ → Prop) (st : σ) : Prop := ∀ P : σ → Prop, (∀ s, body P s → P s) → P st
/-- a place where two ways meet -/
def wjoin {σ : Type} (rest : σ → Prop) (main : (σ → Prop) → Prop) : Prop := ∃ J : σ → Prop, (∀ st, J st → rest st) ∧ main J
/-- a truth value -/
def zb (v : Int32) : Prop := v = 0 ∨ v = 1
theorem zb_narrow {v : Int32} (h : zb v) : narrow .boolean (.int v) = .int v := by rcases h with rfl | rfl <;> rfl
theorem zb_fits {v : Int32} (h : zb v) : fits .boolean (.int v) = true := by rcases h with rfl | rfl <;> rfl
abbrev Gl : Type := va_G × (Nat → ClassId)
abbrev En : Type := (Nat → Prop) → State → Prop
abbrev tysG (k : Nat → ClassId) : List (ClassId × FieldType) := [(k 0, .int), (k 1, .long), (k 2, .object "OneFurrow$Furrows"), (k 3, .object "OneFurrow$Sheet")]
def Wd (D : va_G) (A : Nat → Prop) (H0 : Heap) (ws : va_W) (H : Heap) (locs : List Loc) : Prop := va_P D vwCl ws H ∧ va_D A ws ∧ va_S A H0 H locs
abbrev wPc (g : Gl) (E : En) (ws : va_W) (sz : Nat) (av : List Value) : Array Value → State → Prop := va_Pc av (fun U => U.heap.size = sz ∧ va_P g.1 vwCl ws U.heap ∧ va_K g.1 vwCl (tysG g.2) U ∧ va_D (fun _ => True) ws ∧ E (va_A ws sz) U)
def wB (g : Gl) {S : Type} (w : S → va_W) (A : Nat → Prop) (u : S) (t : State) : Prop := va_P g.1 vwCl (w u) t.heap ∧ va_K g.1 vwCl (tysG g.2) t ∧ va_D A (w u)
/-- what a method is given of its surroundings goes over to its callees -/
def EnvOk (E : En) : Prop := (∀ (A : Nat → Prop) (U : State) (g : JFrame) (mk : MethodId) (a : Array Value), E A U → E A (U.calling g mk a)) ∧ ∀ (A B : Nat → Prop) (s U : State) (H : Heap) (locs : List Loc), E A s → va_S A s.heap H locs → U.heap = H → s.WarmedH U.vm → (∀ q, B q → A q) → E B U
def E0 : En := fun _ _ => True
theorem E0_ok : EnvOk E0 := ⟨fun _ _ _ _ _ _ => trivial, fun _ _ _ _ _ _ _ _ _ _ _ => trivial⟩
abbrev rmm (f l : Nat) : Room := { frames := f, cells := 0, slots := 0, locals := l }
theorem mstart {l : Launch} {y : MethodName} {ws ws' : List Cond} {rm : Room} {cc : ByteArray} {maxL : Nat} {ret : Option FieldType} {g : Gl} {E : En} {w0 : va_W} {sz : Nat} {av : List Value} {Qf : (Nat → Prop) → Array Value → State → Outcome → State → Prop} {mc ms : Nat} (hy : plainName y.cls = true) (hw : ws = Cond.code y cc maxL ret :: ws') (hav : (lg_sl av).length ≤ maxL)
    (body : ∀ (p : Program) (e : Env) (s : State) (m : MethodId) (args : Array Value) (below : List Frame) (meth : Method) (c : Code) (A : Nat → Prop) (Q : State → Prop) (H : Heap) (locs : List Loc) (ls : Array Slot), CallFix p m c cc maxL s args ws y.cls → meth.sig.returnType = ret → meth.locks = false → meth.name = y.name → Q = MQ below (Qf A) args s mc ms A → (∀ q : Nat, s.heap.size ≤ q → A q) → va_K g.1 vwCl (tysG g.2) s → E A s → Wd g.1 A s.heap w0 H locs → lv_has ls maxL (lv_args 0 av) → W p l e rm s m args below meth c H locs 0 0 Q (F0 m 0 ls [])) : Met l y ws rm (wPc g E w0 sz av) (Qf (va_A w0 sz)) mc ms (va_A w0 sz) := by
  refine Met.ofW (cc := cc) (maxL := maxL) (ret := ret) hy hw ?_
  intro p e s m args below meth c s₁ B hml hv
  obtain ⟨rfl, hsz, hP, hK, hD0, hE⟩ := hv
  rw [lg_entry_eq]
  exact body p e s m _ below meth c (va_A w0 sz) _ _ _ _ ⟨B.exec, B.bytes, hml, findClass_of_methodNamed B.named, atoms_spec (ws := ws) B.pre⟩ B.returns B.notSynchronized (name_of_methodNamed B.named B.method).1 rfl (fun q h => Or.inr (by rw [← hsz]; exact h)) hK hE ⟨hP, hD0.self (sz := sz), va_S.rf⟩ (lv_entry av hav)
/-- a world that is part of another: by places -/
def Sub1 (ws wc : va_W) : Prop := ∃ is : List Nat, va_nd is = true ∧ is.map (fun i => ws[i]?) = wc.map some
/-- ws' is ws but for the part wc, which has become wc' -/
def Sub (ws wc ws' wc' : va_W) : Prop := ∃ is : List Nat, is.map (fun i => ws[i]?) = wc.map some ∧ (∀ i, i ∉ is → ws'[i]? = ws[i]?) ∧ (∀ i ∈ is, ∀ q, ws'[i]? = some q → ∃ k : Nat, wc'[k]? = some q) ∧ ws'.map (fun q => q.1) = ws.map (fun q => q.1)
theorem va_D.same {A : Nat → Prop} {ws ws' : va_W} (h : va_D A ws) (e : ws'.map (fun q => q.1) = ws.map (fun q => q.1)) : va_D A ws' := by
  have key : ∀ (k : Nat) (q : Nat × va_E), ws'[k]? = some q → ∃ q2, ws[k]? = some q2 ∧ q2.1 = q.1 := by
    intro k q hq
    have h1 : (ws'.map (fun q => q.1))[k]? = some q.1 := by rw [List.getElem?_map, hq]; rfl
    rw [e, List.getElem?_map] at h1
    cases hk : ws[k]? with
    | none => rw [hk] at h1; cases h1
    | some q2 => rw [hk] at h1; exact ⟨q2, rfl, Option.some.inj h1⟩
  refine ⟨fun i j x y hx hy hxy => ?_, fun k q hq => ?_⟩
  · obtain ⟨x2, a1, a2⟩ := key i x hx
    obtain ⟨y2, b1, b2⟩ := key j y hy
    exact h.1 i j x2 y2 a1 b1 (by rw [a2, b2, hxy])
  · obtain ⟨q2, a1, a2⟩ := key k q hq
    rw [← a2]
    exact h.2 k q2 a1
theorem places {is : List Nat} {ws w : va_W} (hs : is.map (fun i => ws[i]?) = w.map some) (k : Nat) (q : Nat × va_E) (hq : w[k]? = some q) : ∃ i, is[k]? = some i ∧ ws[i]? = some q := by
  have h1 : (is.map (fun i => ws[i]?))[k]? = some (some q) := by rw [hs, List.getElem?_map, hq]; rfl
  rw [List.getElem?_map] at h1
  cases hi : is[k]? with
  | none => rw [hi] at h1; cases h1
  | some i => rw [hi] at h1; exact ⟨i, rfl, Option.some.inj h1⟩
theorem Sub.ok {D : va_G} {cl : List vw_C} {A : Nat → Prop} {ws wc ws' wc' : va_W} {H H1 : Heap} (hs : Sub ws wc ws' wc') (hP : va_P D cl ws H) (hD : va_D A ws) (hk : ∀ q : Nat, q < H.size → ¬ va_A wc H.size q → H1[q]? = H[q]?) (hP1 : va_P D cl wc' H1) : va_P D cl ws' H1 ∧ va_D A ws' := by
  obtain ⟨is, h1, h2, h3, h4⟩ := hs
  refine ⟨fun k q hq => ?_, hD.same h4⟩
  by_cases hi : k ∈ is
  · obtain ⟨j, hj⟩ := h3 k hi q hq
    exact hP1 j q hj
  · have hq2 : ws[k]? = some q := by rw [← h2 k hi]; exact hq
    have hat := hP k q hq2
    refine hat.kept (hk q.1 hat.lt ?_)
    rintro (⟨k2, e2, hh⟩ | hh)
    · obtain ⟨i, a1, a2⟩ := places h1 k2 _ hh
      have := hD.1 k i q _ hq2 a2 rfl
      subst this
      exact hi (List.mem_of_getElem? a1)
    · have := hat.lt
      omega
theorem Sub1.refl (ws : va_W) : Sub1 ws ws := by
  refine ⟨List.range ws.length, ?_, ?_⟩
  · have : ∀ (n m : Nat), va_nd (List.range' n m) = true := by
      intro n m
      induction m generalizing n with
      | zero => rfl
      | succ m ih =>
        rw [List.range'_succ]
        simp only [va_nd, Bool.and_eq_true, ih, and_true]
        simp
    rw [List.range_eq_range']
    exact this 0 _
  · apply List.ext_getElem?
    intro i
    by_cases h : i < ws.length
    · simp [h]
    · simp [h]
theorem Sub.whole {ws ws' : va_W} (e : ws'.map (fun q => q.1) = ws.map (fun q => q.1)) : Sub ws ws ws' ws' := by
  refine ⟨List.range ws.length, ?_, ?_, fun i _ q hq => ⟨i, hq⟩, e⟩
  · apply List.ext_getElem?
    intro i
    by_cases h : i < ws.length
    · simp [h]
    · simp [h]
  · intro i hi
    have hl : ws'.length = ws.length := by simpa using congrArg List.length e
    have h2 : ws.length ≤ i := by simpa using hi
    rw [List.getElem?_eq_none h2, List.getElem?_eq_none (by omega)]
theorem Sub1.nil (ws : va_W) : Sub1 ws [] := ⟨[], rfl, rfl⟩
theorem Sub.nil (ws : va_W) : Sub ws [] ws [] := ⟨[], rfl, fun _ _ => rfl, fun i h => absurd h List.not_mem_nil, rfl⟩
theorem Sub1.P {D : va_G} {cl : List vw_C} {ws wc : va_W} {H : Heap} (h : Sub1 ws wc) (hP : va_P D cl ws H) : va_P D cl wc H := by
  obtain ⟨is, -, h1⟩ := h
  intro k q hq
  obtain ⟨i, -, a2⟩ := places h1 k q hq
  exact hP i q a2
theorem Sub1.D {A : Nat → Prop} {ws wc : va_W} (h : Sub1 ws wc) (hD : va_D A ws) : va_D A wc := by
  obtain ⟨is, h0, h1⟩ := h
  exact hD.sub is h0 h1
theorem Sub1.free {A : Nat → Prop} {ws wc : va_W} {H0 H : Heap} {locs : List Loc} (h : Sub1 ws wc) (hD : va_D A ws) (hS : va_S A H0 H locs) (hA : ∀ q, H0.size ≤ q → A q) : ∀ q, va_A wc H.size q → A q := by
  obtain ⟨is, -, h1⟩ := h
  exact va_free hD hS hA is h1
section KC
variable {p : Program} {l : Launch} {e : Env} {R : Room} {s : State} {m : MethodId} {args : Array Value} {below : List Frame} {meth : Method} {c : Code} {H : Heap} {locs : List Loc} {Q : State → Prop}
variable {cc : ByteArray} {pc nL : Nat} {ls : Array Slot} {rest : List Value} {A : Nat → Prop} {Ts : List Cond} {own : String} {g : Gl} {E : En} {ws : va_W}
/-- ends -/
theorem mreti {S : Type} {w : S → va_W} {post : Int32 → S → Prop} {u : S} {v : Int32} (hC : CallFix p m c cc nL s args Ts own) (hr : meth.sig.returnType = some .int) (hlocks : meth.locks = false) (hK : va_K g.1 vwCl (tysG g.2) s) (hw : Wd g.1 A s.heap (w u) H locs) (hp : post v u) (hdg : decode cc pc = .ok (.ireturn, 1)) : W p l e R s m args below meth c H locs 0 0 (MQ below (va_Qi post (wB g w A) A) args s 0 0 A) (F0 m pc ls [.int v]) :=
  W.iret (v := v) hC.1 hC.2.1 hr (fun t ht hW => ⟨⟨v, u, rfl, hp, by rw [ht]; exact hw.1, va_K.moved hW.alike hK, hw.2.1⟩, hw.2.2.F ht⟩) hw.2.2.2.2 hdg
theorem mretz {S : Type} {w : S → va_W} {post : Int32 → S → Prop} {u : S} {v : Int32} (hC : CallFix p m c cc nL s args Ts own) (hr : meth.sig.returnType = some .boolean) (hlocks : meth.locks = false) (hK : va_K g.1 vwCl (tysG g.2) s) (hw : Wd g.1 A s.heap (w u) H locs) (hz : zb v) (hp : post v u) (hdg : decode cc pc = .ok (.ireturn, 1)) : W p l e R s m args below meth c H locs 0 0 (MQ below (va_Qi post (wB g w A) A) args s 0 0 A) (F0 m pc ls [.int v]) :=
  W.zret (v := v) hC.1 hC.2.1 hr (zb_narrow hz) (fun t ht hW => ⟨⟨v, u, rfl, hp, by rw [ht]; exact hw.1, va_K.moved hW.alike hK, hw.2.1⟩, hw.2.2.F ht⟩) hw.2.2.2.2 hdg
theorem mretl {S : Type} {w : S → va_W} {post : Int64 → S → Prop} {u : S} {v : Int64} (hC : CallFix p m c cc nL s args Ts own) (hr : meth.sig.returnType = some .long) (hlocks : meth.locks = false) (hK : va_K g.1 vwCl (tysG g.2) s) (hw : Wd g.1 A s.heap (w u) H locs) (hp : post v u) (hdg : decode cc pc = .ok (.lreturn, 1)) : W p l e R s m args below meth c H locs 0 0 (MQ below (va_Ql post (wB g w A) A) args s 0 0 A) (F0 m pc ls [.long v]) :=
  W.lret (v := v) hC.1 hC.2.1 hr (fun t ht hW => ⟨⟨v, u, rfl, hp, by rw [ht]; exact hw.1, va_K.moved hW.alike hK, hw.2.1⟩, hw.2.2.F ht⟩) hw.2.2.2.2 hdg
theorem mretv {S : Type} {w : S → va_W} {post : S → Prop} {u : S} (hC : CallFix p m c cc nL s args Ts own) (hr : meth.sig.returnType = none) (hlocks : meth.locks = false) (hK : va_K g.1 vwCl (tysG g.2) s) (hw : Wd g.1 A s.heap (w u) H locs) (hp : post u) (hdg : decode cc pc = .ok (.return_, 1)) : W p l e R s m args below meth c H locs 0 0 (MQ below (va_Qv post (wB g w A) A) args s 0 0 A) (F0 m pc ls []) :=
  W.vret hC.1 hC.2.1 hr (fun t ht hW => ⟨⟨u, rfl, hp, by rw [ht]; exact hw.1, va_K.moved hW.alike hK, hw.2.1⟩, hw.2.2.F ht⟩) hw.2.2.2.2 hdg
/-- a callee's start -/
theorem mpre {wc : va_W} {av : List Value} (hEo : EnvOk E) (hK : va_K g.1 vwCl (tysG g.2) s) (hE : E A s) (hA : ∀ q, s.heap.size ≤ q → A q) (hw : Wd g.1 A s.heap ws H locs) (hs : Sub1 ws wc) : PreS s H (wPc g E wc H.size av) av := by
  refine ⟨fun a U gg mk q => ?_, fun U hU hW => ⟨rfl, by rw [hU], by rw [hU]; exact hs.P hw.1, va_K.moved hW.alike hK, (hs.D hw.2.1).weaken (fun _ _ _ _ => trivial), ?_⟩⟩
  · obtain ⟨q0, q1, qP, qK, qD, qE⟩ := q
    exact ⟨q0, q1, qP, va_K.moved (u := U) (U := U.calling gg mk a) (Vm.Alike.refl U.vm) qK, qD, hEo.1 _ _ _ _ _ qE⟩
  · exact hEo.2 A _ s U H locs hE hw.2.2 hU hW (hs.free hw.2.1 hw.2.2 hA)
theorem mpreV {wc : va_W} {As : List Value} {b ci : Nat} {fs : List Value} {C : String} {T : u_T} {N : Nat} (hEo : EnvOk E) (hK : va_K g.1 vwCl (tysG g.2) s) (hE : E A s) (hA : ∀ q, s.heap.size ≤ q → A q) (hw : Wd g.1 A s.heap ws H locs) (hs : Sub1 ws wc) (q0 : Nat) (hb : wc[q0]? = some (b, .inr (ci, fs))) (hc : vwCl[ci]? = some (C, T, N)) : PreV s H C b (wPc g E wc H.size (.ref b :: As)) As := by
  have h := mpre (av := .ref b :: As) hEo hK hE hA hw hs
  exact ⟨h.1, va_recv hK (hs.P hw.1) hc hb, h.2⟩
/-- less of a world -/
theorem Wd.sub {wc : va_W} (hw : Wd g.1 A s.heap ws H locs) (hs : Sub1 ws wc) : Wd g.1 A s.heap wc H locs := ⟨hs.P hw.1, hs.D hw.2.1, hw.2.2⟩
/-- what stands behind a call -/
theorem mback {S : Type} {wc w1 : S → va_W} {u u1 : S} {H1 : Heap} {locs1 : List Loc} {t : State} (hw : Wd g.1 A s.heap ws H locs) (hs : Sub ws (wc u) (w1 u1) (wc u1)) (ht : t.heap = H1) (hB : wB g wc (va_A (wc u) H.size) u1 t) (hk : ∀ q : Nat, q < H.size → ¬ va_A (wc u) H.size q → H1[q]? = H[q]?) (hS : va_S A s.heap H1 locs1) : Wd g.1 A s.heap (w1 u1) H1 locs1 := by
  have h1 : va_P g.1 vwCl (wc u1) H1 := by rw [← ht]; exact hB.1
  obtain ⟨a, b⟩ := hs.ok hw.1 hw.2.1 hk h1
  exact ⟨a, b, hS⟩
theorem mcalli {S : Type} {wc w1 : S → va_W} {u : S} {post : Int32 → S → Prop} {a : Array Value} {st0 : List Value} (hr : va_Run p l e R s m args below meth c H locs 0 0 0 0 (F0 m pc ls st0) rest (va_Qi post (wB g wc (va_A (wc u) H.size)) (va_A (wc u) H.size) a) (va_A (wc u) H.size)) (hA : ∀ q, s.heap.size ≤ q → A q) (hw : Wd g.1 A s.heap ws H locs) (hs1 : Sub1 ws (wc u)) (hs : ∀ u1, Sub ws (wc u) (w1 u1) (wc u1))
    (kk : ∀ (r : Int32) (u1 : S) (H1 : Heap) (locs1 : List Loc), post r u1 → Wd g.1 A s.heap (w1 u1) H1 locs1 → W p l e R s m args below meth c H1 locs1 0 0 Q (F0 m (pc + 3) ls (.int r :: rest))) : W p l e R s m args below meth c H locs 0 0 Q (F0 m pc ls st0) := by
  have hf := hs1.free hw.2.1 hw.2.2 hA
  exact va_calli hr hw.2.2 (fun q _ h => hf q h) hf (fun r u1 t H1 locs1 ht hvm hp hB hz hk hS => kk r u1 H1 locs1 hp (mback hw (hs u1) ht hB hk hS))
theorem mcalll {S : Type} {wc w1 : S → va_W} {u : S} {post : Int64 → S → Prop} {a : Array Value} {st0 : List Value} (hr : va_Run p l e R s m args below meth c H locs 0 0 0 0 (F0 m pc ls st0) rest (va_Ql post (wB g wc (va_A (wc u) H.size)) (va_A (wc u) H.size) a) (va_A (wc u) H.size)) (hA : ∀ q, s.heap.size ≤ q → A q) (hw : Wd g.1 A s.heap ws H locs) (hs1 : Sub1 ws (wc u)) (hs : ∀ u1, Sub ws (wc u) (w1 u1) (wc u1))
    (kk : ∀ (r : Int64) (u1 : S) (H1 : Heap) (locs1 : List Loc), post r u1 → Wd g.1 A s.heap (w1 u1) H1 locs1 → W p l e R s m args below meth c H1 locs1 0 0 Q (F0 m (pc + 3) ls (.long r :: rest))) : W p l e R s m args below meth c H locs 0 0 Q (F0 m pc ls st0) := by
  have hf := hs1.free hw.2.1 hw.2.2 hA
  exact va_calll hr hw.2.2 (fun q _ h => hf q h) hf (fun r u1 t H1 locs1 ht hvm hp hB hz hk hS => kk r u1 H1 locs1 hp (mback hw (hs u1) ht hB hk hS))
theorem mcallv {S : Type} {wc w1 : S → va_W} {u : S} {post : S → Prop} {a : Array Value} {st0 : List Value} (hr : va_Run p l e R s m args below meth c H locs 0 0 0 0 (F0 m pc ls st0) rest (va_Qv post (wB g wc (va_A (wc u) H.size)) (va_A (wc u) H.size) a) (va_A (wc u) H.size)) (hA : ∀ q, s.heap.size ≤ q → A q) (hw : Wd g.1 A s.heap ws H locs) (hs1 : Sub1 ws (wc u)) (hs : ∀ u1, Sub ws (wc u) (w1 u1) (wc u1))
    (kk : ∀ (u1 : S) (H1 : Heap) (locs1 : List Loc), post u1 → Wd g.1 A s.heap (w1 u1) H1 locs1 → W p l e R s m args below meth c H1 locs1 0 0 Q (F0 m (pc + 3) ls rest)) : W p l e R s m args below meth c H locs 0 0 Q (F0 m pc ls st0) := by
  have hf := hs1.free hw.2.1 hw.2.2 hA
  exact va_callv hr hw.2.2 (fun q _ h => hf q h) hf (fun u1 t H1 locs1 ht hvm hp hB hz hk hS => kk u1 H1 locs1 hp (mback hw (hs u1) ht hB hk hS))
end KC

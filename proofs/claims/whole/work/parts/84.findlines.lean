/-! the model's search of lines -/
section
variable {n : Nat} {w v jm : Nat → Nat}
theorem ni_t {r : Nat → Nat} {x : Nat} : ∀ {k : Nat}, niB r x k = true → ∀ i, i < k → r i ≠ x
  | 0, _, i, hi => absurd hi (by omega)
  | k + 1, h, i, hi => by
    have h' : (niB r x k && (r k != x)) = true := h
    rw [Bool.and_eq_true] at h'
    by_cases e : i = k
    · rw [e]; exact bne_iff_ne.mp h'.2
    · exact ni_t h'.1 i (by omega)
def MG (n : Nat) (g : Nat → Option Nat) (w v jm : Nat → Nat) (S : Bun) : Prop := S 1 0 = nI n ∧ ∀ f, f < n → S 15 f = gI (g f) ∧ S 1 (2 + (6 * f + 4)) = nI (w f) ∧ S 1 (2 + (6 * f + 5)) = nI (v f) ∧ S 1 (38 + f) = nI (jm f)
theorem MG.fr {S0 S : Bun} {g : Nat → Option Nat} (h : MG n g w v jm S0) (hf : FrL S0 S) : MG n g w v jm S := by
  unfold MG; rw [hf.one.1, hf.one.2]; exact h
theorem findLines6 {S0 : Bun} {J : Lon} {g : Nat → Option Nat} (hP : PgOk n g w v jm) (hM : MG n g w v jm S0) {post : Bun → Prop} (h : ∀ S' : Bun, FrL S0 S' → RLn n (cO g) w v (LnN n g w jm) S' → post S') : wX6_findLines S0 J post := by
  obtain ⟨n6, hp⟩ := id hP
  unfold wX6_findLines
  rintro _ rfl _ rfl _ rfl _ rfl
  have fr0 : FrL S0 (up (up (up (up S0 0 19 0) 0 20 (-1)) 0 21 0) 0 22 (-1)) := ⟨fun r a _ _ _ _ => by rw [up_k a, up_k a, up_k a, up_k a], fun k a b d e => by rw [up_ki e, up_ki d, up_ki b, up_ki a]⟩
  have rl0 : RLn n (cO g) w v [] (up (up (up (up S0 0 19 0) 0 20 (-1)) 0 21 0) 0 22 (-1)) := by
    refine ⟨(fun m hm => by cases hm), ?_, ?_, (fun m hm => by cases hm), ?_⟩
    · rw [up_ki (by decide), up_ki (by decide), up_ki (by decide), up_ss]; rfl
    · rw [up_ki (by decide), up_ki (by decide), up_ss]; rfl
    · rw [up_ss]; rfl
  generalize up (up (up (up S0 0 19 0) 0 20 (-1)) 0 21 0) 0 22 (-1) = S4 at fr0 rl0
  have hM4 := hM.fr fr0
  rw [c0', hM4.1]
  refine ⟨vin0, ?_⟩
  rintro _ rfl
  have v06 : vp_in (0 : Int32) 6 := by unfold vp_in; decide
  have fr1 : FrL S0 (up S4 16 0 (-1)) := frl_16 fr0
  have rl1 : RLn n (cO g) w v [] (up S4 16 0 (-1)) := rl0.same (up_k (by decide)) (up_k (by decide)) (up_k (by decide))
  refine ⟨fun z => ?_, fun z => ?_⟩
  · have n0 : n = 0 := by
      have := (nI_leI (b := 0) (by omega) (by decide)).mp z
      omega
    subst n0
    intro P hP1
    refine hP1 _ ⟨fun _ => ⟨v06, ?_⟩, fun z2 => absurd (by decide) z2⟩
    rintro _ rfl
    intro Q hQ
    exact hQ _ (br_t rfl (h _ fr1 rl1))
  · have hn : 1 ≤ n := by
      rcases Nat.lt_or_ge 0 n with h' | h'
      · exact h'
      · exact absurd (nI_le (b := 0) h' (by decide)) z
    refine wl_up2 (fun j x y => x = bI (allS g j) ∧ y = nI j) n ?_ (i := 0) (by omega) ⟨rfl, rfl⟩
    rintro j x y KK hj ⟨rfl, rfl⟩ hKK
    refine ⟨fun hc => ⟨v06, ?_⟩, fun hc => ?_⟩
    · have := (nI_leI (by omega) (by omega)).mp hc
      obtain rfl : j = n := by omega
      rintro _ rfl
      cases hall : allS g j with
      | false =>
        intro Q hQ
        refine hQ _ (br_t rfl (h _ fr1 ?_))
        have : LnN j g w jm = [] := by unfold LnN; rw [if_neg (by omega), hall]; rfl
        rw [this]; exact rl1
      | true =>
        have eL : LnN j g w jm = lns j (cO g) w jm 8 0 (fun _ => 0) (2 ^ j - 1) (2 ^ j - 1) := by
          unfold LnN; rw [if_neg (by omega), if_pos hall]
        have hPk := hP.pk hall
        have hMC : MC j (cO g) w v jm S0 := ⟨hM.1, fun f hf => by
          obtain ⟨a1, a2, a3, a4⟩ := hM.2 f hf
          rw [allS_t hall f hf] at a1
          exact ⟨a1, a2, a3, a4⟩⟩
        intro P hPP
        have core : ∀ (d k : Nat) (r : Nat → Nat) (L O : Nat) (S : Bun) (Ls : List Nod), d + k = 8 → k < j → L < 65536 → (∀ i, i < k → r i < j) → (∀ a b, a < b → b < k → r a ≠ r b) → (∀ f, f < j → L.testBit f = niB r f k) → (∀ f, f < j → O.testBit f = ((k == 0) || (jm (r (k - 1))).testBit f)) → FrL S0 S → (∀ i, i < k → S 16 i = nI (r i)) → S 16 k = -1 → RLn j (cO g) w v Ls S → (∀ S' : Bun, FrL S0 S' → (∀ i, i < k → S' 16 i = nI (r i)) → RLn j (cO g) w v (Ls ++ lns j (cO g) w jm d k r L O) S' → P (nI k + (-1 : Int32), S')) → P (nI k, S) := by
          intro d
          induction d with
          | zero => intro k r L O S Ls hd hk; omega
          | succ d ih =>
            intro k r L O S Ls hd hk hL hr hdis hLb hOb hFr s16 s16k hRL cont
            have vk : vp_in (nI k) 6 := vp_in_nI (by omega) (by decide)
            have inner : ∀ (q x : Nat) (S' : Bun), x + q = j → FrL S0 S' → (∀ i, i < k → S' 16 i = nI (r i)) → S' 16 k + 1 = nI x → RLn j (cO g) w v (Ls ++ catTo (lkd j (cO g) w jm d k r L O) x) S' → P (nI k, S') := by
              intro q
              induction q with
              | zero =>
                intro x S' hx f1 f2 f3 f4
                obtain rfl : x = j := by omega
                refine hPP _ (br_f (by decide) (br_f (nI_pos (by omega)) ⟨vk, vk, ?_⟩))
                rw [tn_nI (n := k) (by omega), f3]
                rintro _ rfl
                refine ⟨vk, br_t up_ss ?_⟩
                rintro _ rfl
                refine cont _ (frl_16 f1) (fun i hi => by rw [up_ki (by omega)]; exact f2 i hi) ?_
                rw [lns_k (by omega)]
                exact f4.same (up_k (by decide)) (up_k (by decide)) (up_k (by decide))
              | succ q ihq =>
                intro x S' hx f1 f2 f3 f4
                have hxn : x < j := by omega
                refine hPP _ (br_f (by decide) (br_f (nI_pos (by omega)) ⟨vk, vk, ?_⟩))
                rw [tn_nI (n := k) (by omega), f3]
                rintro _ rfl
                have g1 : FrL S0 (up S' 16 k (nI x)) := frl_16 f1
                have g2 : ∀ i, i < k → up S' 16 k (nI x) 16 i = nI (r i) := fun i hi => by rw [up_ki (by omega)]; exact f2 i hi
                have g3 : up S' 16 k (nI x) 16 k = nI x := up_ss
                have g4 : RLn j (cO g) w v (Ls ++ catTo (lkd j (cO g) w jm d k r L O) x) (up S' 16 k (nI x)) := f4.same (up_k (by decide)) (up_k (by decide)) (up_k (by decide))
                generalize up S' 16 k (nI x) = S68 at g1 g2 g3 g4
                refine ⟨vk, br_f (by rw [g3]; exact fun z => absurd ((nI_eq (by omega) (by omega)).mp z) (by omega)) ?_⟩
                have row : ∀ i, i ≤ k → S68 16 i = nI (ext r k x i) := by
                  intro i hi
                  by_cases e : i = k
                  · rw [e, ext_n]; exact g3
                  · rw [ext_o e]; exact g2 i (by omega)
                have rlt : ∀ i, i ≤ k → ext r k x i < j := by
                  intro i hi
                  by_cases e : i = k
                  · rw [e, ext_n]; exact hxn
                  · rw [ext_o e]; exact hr i (by omega)
                have hM68 := hM.fr g1
                refine mayStand6 (jm := jm) (r := ext r k x) (by omega) (fun i hi => by have := rlt i hi; omega) row (fun i hi => (hM68.2 _ (rlt i (by omega))).2.2.2) ?_
                have est : stB jm (ext r k x) k = (L.testBit x && O.testBit x) := by
                  unfold stB
                  rw [ext_n, hLb x hxn, hOb x hxn, ni_cong (r' := r) (fun i hi => ext_o (by omega)), Bool.and_comm]
                  by_cases k0 : k = 0
                  · rw [beq_iff_eq.mpr k0, Bool.true_or, Bool.true_or]
                  · rw [ext_o (by omega)]
                rw [est]
                refine br_b (fun hb => ?_) (fun hb => ?_)
                · refine ihq (x + 1) S68 (by omega) g1 g2 (by rw [g3]; exact nI_1 x) ?_
                  show RLn j (cO g) w v (Ls ++ (catTo (lkd j (cO g) w jm d k r L O) x ++ lkd j (cO g) w jm d k r L O x)) S68
                  have : lkd j (cO g) w jm d k r L O x = [] := by unfold lkd; rw [hb]; rfl
                  rw [this, List.append_nil]; exact g4
                · have ek : lkd j (cO g) w jm d k r L O x = lns j (cO g) w jm d (k + 1) (ext r k x) (delN L x) (jm x) := by unfold lkd; rw [hb]; rfl
                  have hbL : L.testBit x = true := (Bool.and_eq_true _ _ ▸ hb).1
                  have fresh := ni_t ((hLb x hxn).symm.trans hbL)
                  have dis' : ∀ a b, a < b → b < k + 1 → ext r k x a ≠ ext r k x b := by
                    intro a b hab hb'
                    by_cases e : b = k
                    · rw [e, ext_n, ext_o (by omega)]; exact fresh a (by omega)
                    · rw [ext_o e, ext_o (by omega)]; exact hdis a b hab (by omega)
                  rw [n_pred hn, show nI k = nI (j - 1) ↔ k = j - 1 from nI_eq (by omega) (by omega)]
                  refine ⟨fun e => ?_, fun e => ?_⟩
                  · have ekj : k + 1 = j := by omega
                    obtain ⟨d', rfl⟩ : ∃ d', d = d' + 1 := ⟨d - 1, by omega⟩
                    refine looks6 (r := ext r k x) hPk hn (hMC.fr g1) g4 (fun i hi => rlt i (by omega)) (fun a b hab hb' => dis' a b hab (by omega)) (fun i hi => row i (by omega)) (fun S2 u1 u2 u3 => ?_)
                    refine ihq (x + 1) S2 (by omega) (g1.tr u1) (by rw [u2]; exact g2) (by rw [u2, g3]; exact nI_1 x) ?_
                    show RLn j (cO g) w v (Ls ++ (catTo (lkd j (cO g) w jm (d' + 1) k r L O) x ++ lkd j (cO g) w jm (d' + 1) k r L O x)) S2
                    have el : lns j (cO g) w jm (d' + 1) (k + 1) (ext r k x) (delN L x) (jm x) = [(j, ext r k x, dyN (cO g) w (ext r k x) (j - 1))] := by
                      rw [ekj]; exact lns_n
                    rw [ek, el, ← List.append_assoc]; exact u3
                  · rw [show nI k + (1 : Int32) = nI (k + 1) from nI_1 k]
                    rintro _ rfl
                    rw [tn_nI (n := k + 1) (by omega)]
                    refine ⟨vp_in_nI (by omega) (by decide), ?_⟩
                    rintro _ rfl
                    refine ih (k + 1) (ext r k x) (delN L x) (jm x) (up S68 16 (k + 1) (-1)) (Ls ++ catTo (lkd j (cO g) w jm d k r L O) x) (by omega) (by omega) (del_lt hL) (fun i hi => rlt i (by omega)) dis' (fun f hf => ?_) (fun f hf => ?_) (frl_16 g1) (fun i hi => by rw [up_ki (by omega)]; exact row i (by omega)) up_ss (g4.same (up_k (by decide)) (up_k (by decide)) (up_k (by decide))) (fun S2 u1 u2 u3 => ?_)
                    · rw [del_bit hL]
                      show _ = (niB (ext r k x) f k && (ext r k x k != f))
                      rw [ext_n, ni_cong (r' := r) (fun i hi => ext_o (by omega)), ← hLb f hf]
                      by_cases e2 : f = x
                      · rw [if_pos e2, e2, bne_self_eq_false, Bool.and_false]
                      · rw [if_neg e2, bne_iff_ne.mpr (fun z => e2 z.symm), Bool.and_true]
                    · rw [Nat.add_sub_cancel, ext_n, beq_eq_false_iff_ne.mpr (by omega), Bool.false_or]
                    · have ed : nI (k + 1) + (-1 : Int32) = nI k := by
                        rw [n_dec (by omega), Nat.add_sub_cancel]
                      rw [ed]
                      refine ihq (x + 1) S2 (by omega) u1 (fun i hi => ?_) ?_ ?_
                      · rw [u2 i (by omega), ext_o (by omega)]
                      · rw [u2 k (by omega), ext_n]; exact nI_1 x
                      · show RLn j (cO g) w v (Ls ++ (catTo (lkd j (cO g) w jm d k r L O) x ++ lkd j (cO g) w jm d k r L O x)) S2
                        rw [ek, ← List.append_assoc]; exact u3
            refine inner j 0 S (by omega) hFr s16 (by rw [s16k]; decide) ?_
            show RLn j (cO g) w v (Ls ++ []) S
            rw [List.append_nil]; exact hRL
        have p16 : 2 ^ j - 1 < 65536 := by
          have : 2 ^ j ≤ 2 ^ 6 := Nat.pow_le_pow_right (by decide) n6
          omega
        refine core 8 0 (fun _ => 0) (2 ^ j - 1) (2 ^ j - 1) (up S4 16 0 (-1)) [] rfl (by omega) p16 (fun i hi => absurd hi (by omega)) (fun a b hab hb => absurd hb (by omega)) (fun f hf => ?_) (fun f hf => ?_) fr1 (fun i hi => absurd hi (by omega)) up_ss rl1 (fun S' u1 u2 u3 => ?_)
        · rw [Nat.testBit_two_pow_sub_one, decide_eq_true hf]; rfl
        · rw [Nat.testBit_two_pow_sub_one, decide_eq_true hf]; rfl
        · refine hPP _ (br_f (by decide) (br_t (by decide) (h S' u1 ?_)))
          rw [eL]; exact u3
    · have hlt : j < n := by
        rcases Nat.lt_or_ge j n with h' | h'
        · exact h'
        · exact absurd (nI_le h' (by omega)) hc
      have nx : ∀ q : Bool, q = allS g (j + 1) → ∀ x9 : Int32, x9 = nI j + (1 : Int32) → KK (bI q, x9) := by
        rintro _ rfl _ rfl
        exact hKK _ _ hlt ⟨rfl, nI_1 j⟩
      have st : allS g (j + 1) = (allS g j && (g j).isSome) := rfl
      refine br_b (fun q => nx false (by rw [st, q]; rfl)) (fun q => ⟨vp_in_nI (by omega) (by decide), ?_⟩)
      rw [tn_nI (n := j) (by omega), (hM4.2 j hlt).1]
      cases hg : g j with
      | none => exact br_t (by decide) (nx false (by rw [st, hg]; exact (Bool.and_false _).symm))
      | some y =>
        have := (hp j hlt).1 y hg
        exact br_f (nI_pos (by omega)) (nx true (by rw [st, q, hg]; rfl))
end

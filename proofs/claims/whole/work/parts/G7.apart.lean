theorem lwL_mem {st : Nat → Nat} {a b : Nat} : ∀ {L : List Nat} {i : Nat}, lwL st a b i L = i ∨ lwL st a b i L ∈ L
  | [], _ => Or.inl rfl
  | c :: L, i => by
    show lwL st a b (if hasB st a b c = true then c else i) L = i ∨ _
    rcases lwL_mem (st := st) (a := a) (b := b) (L := L) (i := if hasB st a b c = true then c else i) with h | h
    · by_cases q : hasB st a b c = true
      · right
        rw [if_pos q] at h
        have : lwL st a b i (c :: L) = c := by
          show lwL st a b (if hasB st a b c = true then c else i) L = c
          rw [if_pos q]; exact h
        rw [this]; simp
      · left
        rw [if_neg q] at h ⊢; exact h
    · right
      exact List.mem_cons_of_mem c h
section
variable {σ : Mem} {kd : Nat → Bool} {ch : Nat → List Nat} {st : Nat → Nat} {root : Nat}
theorem T_between_ok (hD : DR σ 10 kd ch st root) {a b : Nat} {g : Bool} (ha8 : a < 8) (hb8 : b < 8) (hne : a ≠ b) (ha : (st root).testBit a = true) (hb : (st root).testBit b = true) : ∃ V, T_between 10 (nI a) (nI b) (if g = true then 1 else 0) σ = some (nI V) ∧ GpV kd ch root a b g V := by
  obtain ⟨c, ec, f1, f2, f3, f4, f5, f6⟩ := hD.facts
  have hAT := hD.1.1
  have hrg := hD.2.2.2.2
  rw [← ec] at hrg
  have h4 := hD.1.2.1
  have h256 : st root < 256 := ((hD.1.1 root hD.1.2.2.1).2.2.2.1 (us_wf hD.1.2.2.2.1)).1
  have lf := hD.1.2.2.2.2.1
  have r8 : 8 ≤ root := Classical.byContradiction (fun h => by
    have h8 : root < 8 := by omega
    rw [(lf root h8).1, Nat.testBit_two_pow] at ha hb
    have := of_decide_eq_true ha
    have := of_decide_eq_true hb
    omega)
  have pa : 2 ^ a < 256 := (lst_pow a ha8).2.1
  have pb : 2 ^ b < 256 := (lst_pow b hb8).2.1
  have pab : 2 ^ a ||| 2 ^ b < 256 := Nat.or_lt_two_pow (n := 8) pa pb
  have ra : rd σ (10 + 2) (nI a) = some (nI (2 ^ a)) := by rw [hAT.set isT10 (by omega) (Or.inl ha8), (lf a ha8).1]
  have rb : rd σ (10 + 2) (nI b) = some (nI (2 ^ b)) := by rw [hAT.set isT10 (by omega) (Or.inl hb8), (lf b hb8).1]
  have key : ∃ r, lp (fun s => T_between_b1 10 (if g = true then 1 else 0) σ (nI (2 ^ a ||| 2 ^ b)) s.1 s.2.1 s.2.2) fuel (nI root, 0, 8) = some r ∧ r = (nI (lwL st a b root (List.range' 8 c)), nI (sumN (fG kd ch st a b g) (List.range' 8 c))) := by
    refine lp_for c (fun j s => s = (nI (lwL st a b root (List.range' 8 j)), nI (sumN (fG kd ch st a b g) (List.range' 8 j)), nI (8 + j))) _ _ 0 (by omega) rfl (by omega) ?_ ?_
    · intro j s hj e
      subst e
      left
      obtain ⟨w1, w2, w3, w4, w5, w6⟩ := f6 (8 + j) (by omega) (by omega)
      have e0 : (8 : Int32) + σ 10 5 = nI (8 + c) := by rw [f2, L_8, nI_add]
      have rN := hAT.set isT10 (id := 8 + j) (by omega) (Or.inr w2)
      have el : lwL st a b root (List.range' 8 (j + 1)) = (if hasB st a b (8 + j) = true then 8 + j else lwL st a b root (List.range' 8 j)) := by rw [List.range'_1_concat, lwL_app]; rfl
      have es : sumN (fG kd ch st a b g) (List.range' 8 (j + 1)) = sumN (fG kd ch st a b g) (List.range' 8 j) + fG kd ch st a b g (8 + j) := by rw [List.range'_1_concat, sumN_app]; rfl
      refine ⟨_, ?_, rfl⟩
      show T_between_b1 10 (if g = true then 1 else 0) σ (nI (2 ^ a ||| 2 ^ b)) (nI (lwL st a b root (List.range' 8 j))) (nI (sumN (fG kd ch st a b g) (List.range' 8 j))) (nI (8 + j)) = _
      rw [el, es]
      generalize lwL st a b root (List.range' 8 j) = lo
      generalize sumN (fG kd ch st a b g) (List.range' 8 j) = su
      have hle : st (8 + j) &&& (2 ^ a ||| 2 ^ b) < 2 ^ 31 := Nat.lt_of_le_of_lt Nat.and_le_left (by omega)
      unfold T_between_b1
      rw [e0]
      refine ifn (nI_ge (by omega) (by omega)) ?_
      refine ob rN ?_
      refine lti (xI_and _ _) ?_
      refine ob (a := (nI (if hasB st a b (8 + j) = true then 8 + j else lo), nI (su + fG kd ch st a b g (8 + j)))) ?_ (lti rfl (lti rfl (lti (nI_1 _) rfl)))
      have hu : ∀ e ∈ ch (8 + j), Us ch e := fun e he => (w6 e he).2.1
      by_cases q : hasB st a b (8 + j) = true
      · have q' := hasB_iff.mp q
        rw [if_pos q]
        refine ifp (by rw [andB.1.mpr q']) ?_
        have : fG kd ch st a b g (8 + j) = 0 := by unfold fG; rw [if_pos q]
        rw [this, Nat.add_zero]
      · rw [if_neg q]
        have n1 : ¬ nI (st (8 + j) &&& (2 ^ a ||| 2 ^ b)) = nI (2 ^ a ||| 2 ^ b) := nI_ne hle (by omega) (fun z => q (hasB_iff.mpr (andB.1.mp z)))
        refine ifn n1 ?_
        by_cases qa : (st (8 + j)).testBit a = true
        · have qb : ¬ (st (8 + j)).testBit b = true := fun z => q (hasB_iff.mpr ⟨qa, z⟩)
          have ev : fG kd ch st a b g (8 + j) = bsN kd ch st a g (8 + j) := by unfold fG; rw [if_neg q, if_pos qa]
          rw [ev, andB.2.2.1 qa qb]
          refine ifn (nI_ne0 (Nat.pos_of_ne_zero (lst_pow a ha8).2.2) (by omega)) ?_
          refine ob (T_besideIn_ok hAT isT10 (by omega) (by omega) w1 w5 hu qa) ?_
          exact lti (nI_add _ _) rfl
        · by_cases qb : (st (8 + j)).testBit b = true
          · have ev : fG kd ch st a b g (8 + j) = bsN kd ch st b g (8 + j) := by unfold fG; rw [if_neg q, if_neg qa, if_pos qb]
            rw [ev, andB.2.2.2 qa qb]
            refine ifn (nI_ne0 (Nat.pos_of_ne_zero (lst_pow b hb8).2.2) (by omega)) ?_
            refine ob (T_besideIn_ok hAT isT10 (by omega) (by omega) w1 w5 hu qb) ?_
            exact lti (nI_add _ _) rfl
          · have ev : fG kd ch st a b g (8 + j) = 0 := by unfold fG; rw [if_neg q, if_neg qa, if_neg qb]
            rw [ev, andB.2.1.mpr ⟨qa, qb⟩]
            exact ifp rfl rfl
    · intro s e
      subst e
      have e0 : (8 : Int32) + σ 10 5 = nI (8 + c) := by rw [f2, L_8, nI_add]
      refine ⟨_, ?_, rfl⟩
      show T_between_b1 10 (if g = true then 1 else 0) σ (nI (2 ^ a ||| 2 ^ b)) (nI (lwL st a b root (List.range' 8 c))) (nI (sumN (fG kd ch st a b g) (List.range' 8 c))) (nI (8 + c)) = _
      unfold T_between_b1
      rw [e0]
      exact ifp (nI_le (Nat.le_refl _) (by omega)) rfl
  obtain ⟨r, l1, rfl⟩ := key
  rw [← hrg] at l1
  have hlow : lwL st a b root (ndD ch 8 root) ∈ ndD ch 8 root := by
    rcases lwL_mem (st := st) (a := a) (b := b) (L := ndD ch 8 root) (i := root) with h | h
    · rw [h]; exact (f3 root).mpr ⟨r8, by have := f5 r8; omega⟩
    · exact h
  have hl2 := (f3 _).mp hlow
  obtain ⟨w1, w2, w3, w4, w5, w6⟩ := f6 _ hl2.1 hl2.2
  refine ⟨_, ?_, gap_ok hne 8 root hD.2.1 h256 ha hb root⟩
  unfold T_between
  refine ob ra ?_
  refine ob rb ?_
  refine lti (xI_or _ _) ?_
  refine lti h4 ?_
  refine ob l1 ?_
  refine lti rfl ?_
  refine lti rfl ?_
  refine ob ra ?_
  refine ob rb ?_
  refine ob (T_betweenIn_ok hAT isT10 (by omega) w2 (fun e he => (w6 e he).2.1) (fun e he => (w6 e he).2.2.1)) ?_
  show some _ = some _
  rw [nI_add]
end
theorem s_apart {σ μ : Mem} (h : CMx σ μ) (x y z : Int32) : ∃ a μ', O_apart x y z σ = some a ∧ M_apart x y z μ = some (a, μ') ∧ CMx σ μ' ∧ KM μ μ' := by
  have h0 := h
  obtain ⟨n, G, c, ⟨kd, ch, st, root, hC⟩, hM⟩ := h
  have hn8 := hC.1.2.2.1
  have hn0 := hC.1.1
  have hm0 := hM.1
  have thing : ∀ w : Int32, (∃ k, k < n ∧ w = nI k ∧ O_isThing w σ = 1 ∧ M_isThing w μ = 1) ∨ (O_isThing w σ = 0 ∧ M_isThing w μ = 0) := fun w => by
    rw [O_isThing_eq hn0]
    unfold M_isThing
    rw [hm0]
    rcases in0 (x := w) (c := n) (by omega) with ⟨k1, j, k2, rfl⟩ | ⟨k1, k2⟩
    · left
      exact ⟨j, k2, rfl, by rw [if_neg (nI_pos (by omega)), if_neg (nI_ge k2 (by omega))], k1⟩
    · right
      refine ⟨?_, k1⟩
      rcases k2 with k2 | k2
      · rw [if_pos k2]
      · by_cases q : w < 0
        · rw [if_pos q]
        · rw [if_neg q, if_pos k2]
  have bad : (if (O_isThing x σ) = 0 then true else if (O_isThing y σ) = 0 then true else if x = y then true else if z < 0 then true else if z ≤ 1 then false else true : Bool) = true → (if (M_isThing x μ) = 0 then false else if (M_isThing y μ) = 0 then false else if x = y then false else if (M_in z 0 1) = 0 then false else true : Bool) = false → ∃ a μ', O_apart x y z σ = some a ∧ M_apart x y z μ = some (a, μ') ∧ CMx σ μ' ∧ KM μ μ' := fun e1 e2 => by
    refine ⟨-2, μ, ?_, ?_, h0, KM.rf⟩
    · unfold O_apart
      exact lti e1 (ifp rfl rfl)
    · unfold M_apart
      refine lti e2 ?_
      refine ob (a := (-2, μ)) (ifn (by decide) rfl) ?_
      exact lti rfl (lti rfl rfl)
  rcases thing x with ⟨i, i1, rfl, i3, i4⟩ | ⟨i1, i2⟩
  · have i3' : ¬ O_isThing (nI i) σ = 0 := by rw [i3]; decide
    have i4' : ¬ M_isThing (nI i) μ = 0 := by rw [i4]; decide
    rcases thing y with ⟨j, j1, rfl, j3, j4⟩ | ⟨j1, j2⟩
    · have j3' : ¬ O_isThing (nI j) σ = 0 := by rw [j3]; decide
      have j4' : ¬ M_isThing (nI j) μ = 0 := by rw [j4]; decide
      by_cases hij : i = j
      · exact bad (by rw [if_neg i3', if_neg j3', if_pos (by rw [hij])]) (by rw [if_neg i4', if_neg j4', if_pos (by rw [hij])])
      · have nij : ¬ nI i = nI j := nI_ne (by omega) (by omega) hij
        rcases in3 (x := z) (hi := 1) (by omega) with ⟨k, k1, rfl, k3⟩ | ⟨k1, k2⟩
        · have k3 : M_in (nI k) 0 1 = 1 := k3
          have k3' : ¬ M_in (nI k) 0 1 = 0 := by rw [k3]; decide
          have eO : (if (O_isThing (nI i) σ) = 0 then true else if (O_isThing (nI j) σ) = 0 then true else if nI i = nI j then true else if nI k < 0 then true else if nI k ≤ 1 then false else true : Bool) = false := by
            rw [if_neg i3', if_neg j3', if_neg nij, if_neg (nI_pos (by omega)), if_pos (show nI k ≤ 1 from nI_le (b := 1) k1 (by omega))]
          have eM : (if (M_isThing (nI i) μ) = 0 then false else if (M_isThing (nI j) μ) = 0 then false else if nI i = nI j then false else if (M_in (nI k) 0 1) = 0 then false else true : Bool) = true := by
            rw [if_neg i4', if_neg j4', if_neg nij, if_neg k3']
          have hroot := hC.1.2.2.2.2.2.2.2.2.1
          have hD := hC.1.2.2.2.2.2.2.2.1
          have hFr := hC.1.2.2.2.2.2.2.2.2.2.1
          have ta : (st root).testBit i = true := by rw [hroot, full_bit]; exact decide_eq_true i1
          have tb : (st root).testBit j = true := by rw [hroot, full_bit]; exact decide_eq_true j1
          obtain ⟨V, v1, v2⟩ := T_between_ok (g := decide (k = 1)) hD (by omega) (by omega) hij ta tb
          have eg : (if decide (k = 1) = true then (1 : Int32) else 0) = (if nI k = 1 then 1 else 0) := by
            by_cases q : k = 1
            · rw [if_pos (decide_eq_true q), q]; rfl
            · rw [if_neg (by rw [decide_eq_true_iff]; exact q), if_neg (show ¬ nI k = 1 from nI_ne (b := 1) (by omega) (by omega) q)]
          rw [eg] at v1
          obtain ⟨μ', lo, hi, m1, m2, m3⟩ := M_apartOf_ok hM i1 j1 hij (nI k)
          have gp : ∀ u w s, GpN n ((List.range 11).map (nget G (tkB n G c) 0)) u w s ↔ GpR kd ch root u w s := fun u w s => by
            constructor
            · rintro ⟨a1, a2, a3, a4, a5⟩
              exact ⟨a1, a2, a3, (hFr _).mpr (rg_rw.mpr a4), a5⟩
            · rintro ⟨a1, a2, a3, a4, a5⟩
              exact ⟨a1, a2, a3, rg_rw.mp ((hFr _).mp a4), a5⟩
          have m3 : MMx lo hi (fun s => GpR kd ch root i j s) := m3.congr (fun s => by
            rw [gp, gp]
            exact ⟨fun q => q.elim id GpR.rev, Or.inl⟩)
          have fin : (if nI k = 0 then lo else hi) = nI V := by
            rcases m3 with ⟨-, -, q⟩ | ⟨a, b, rfl, rfl, -, -, g1, g2, g3⟩
            · exact absurd v2.1 (q V)
            · by_cases q : k = 0
              · rw [if_pos (by rw [q]; rfl)]
                have h1 := (v2.2 a g1).1 (decide_eq_false (by omega))
                have h2 := (g3 V v2.1).1
                rw [show a = V by omega]
              · rw [if_neg (nI_ne0 (by omega) (by omega))]
                have h1 := (v2.2 b g2).2 (decide_eq_true (by omega))
                have h2 := (g3 V v2.1).2
                rw [show b = V by omega]
          rw [fin] at m1
          refine ⟨nI V, μ', ?_, ?_, ⟨n, G, c, ⟨kd, ch, st, root, hC⟩, m2.mi hM⟩, m2.km⟩
          · unfold O_apart
            refine lti eO ?_
            refine ifn (by decide) ?_
            refine lti rfl ?_
            exact ob v1 rfl
          · unfold M_apart
            refine lti eM ?_
            refine ob (a := (nI V, μ')) ?_ (lti rfl (lti rfl rfl))
            refine ifp rfl ?_
            refine ob m1 ?_
            exact lti rfl (lti rfl rfl)
        · have k1 : M_in z 0 1 = 0 := k1
          refine bad ?_ (by rw [if_neg i4', if_neg j4', if_neg nij, if_pos k1])
          rw [if_neg i3', if_neg j3', if_neg nij]
          by_cases q0 : z < 0
          · rw [if_pos q0]
          · rw [if_neg q0]
            refine if_neg ?_
            have hz : (1 : Int32) < z := k2.resolve_left q0
            intro hc
            exact absurd hz (Int32.not_lt.mpr hc)
    · exact bad (by rw [if_neg i3', if_pos j1]) (by rw [if_neg i4', if_pos j2])
  · exact bad (by rw [if_pos i1]) (by rw [if_pos i2])

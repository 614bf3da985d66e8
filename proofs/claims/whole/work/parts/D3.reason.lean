/- the model's pass over the groups ahead -/
noncomputable def rsS (n : Nat) (G : Nat → Nat) (i left g : Nat) : Nat := if left.testBit g = true ∧ cnt n G (sd left (2 ^ g) ||| 2 ^ i) 0 = 0 then sd left (2 ^ g) else left
noncomputable def rsF (n : Nat) (G : Nat → Nat) (i : Nat) : Nat → Nat → Nat
  | 0, left => left
  | k + 1, left => rsF n G i k (rsS n G i left (i - (k + 1)))
theorem sd_le {a b : Nat} : sd a b ≤ a := Nat.le_of_testBit (fun i hi => by rw [sd_bit, Bool.and_eq_true] at hi; exact hi.1)
theorem rsS_sub {n : Nat} {G : Nat → Nat} {i left g : Nat} : subM (rsS n G i left g) left := fun j hj => by
  unfold rsS at hj
  by_cases q : left.testBit g = true ∧ cnt n G (sd left (2 ^ g) ||| 2 ^ i) 0 = 0
  · rw [if_pos q, sd_bit, Bool.and_eq_true] at hj; exact hj.1
  · rw [if_neg q] at hj; exact hj
theorem M_reasonOf_eq {μ : Mem} {n : Nat} {G : Nat → Nat} {c i : Nat} (hM : MI μ n G c) (hi : i < c) : ∃ μ', M_reasonOf (nI i) μ = some ((if (tkB n G c).testBit i = true then -3 else nI (rsF n G i i (tkB n G c &&& fullM i))), μ') ∧ MI μ' n G c ∧ PubM μ μ' := by
  obtain ⟨w, w1⟩ := M_takenNow_eq hM
  have hM1 : MI (mset μ 45 w) n G c := hM.m45
  have hc := hM.2.2.2.2.1
  have htl := tkB_lt (n := n) (G := G) (c := c) hc
  by_cases q : (tkB n G c).testBit i = true
  · rw [if_pos q]
    refine ⟨mset μ 45 w, ?_, hM1, PubM.set (by decide)⟩
    unfold M_reasonOf
    refine ob w1 ?_
    refine lti rfl ?_
    refine lti rfl ?_
    exact ifn (by rw [M_isIn_eq (by omega) (by omega), if_pos q]; decide) rfl
  · rw [if_neg q]
    have hl0 : ∀ j, (tkB n G c &&& fullM i).testBit j = true → j < i := fun j hj => by
      rw [Nat.testBit_and, Bool.and_eq_true, full_bit] at hj; simpa using hj.2
    have key : ∃ r, lp (fun s => M_reasonOf_b1 (nI i) s.1 s.2.1 s.2.2) fuel (nI (tkB n G c &&& fullM i), 0, mset μ 45 w) = some r ∧ ∃ μ', r = (nI (rsF n G i i (tkB n G c &&& fullM i)), μ') ∧ MI μ' n G c ∧ PubM μ μ' := by
      refine lp_for i (fun j s => ∃ left μ', s = (nI left, nI j, μ') ∧ MI μ' n G c ∧ PubM μ μ' ∧ (∀ b, left.testBit b = true → b < i) ∧ rsF n G i (i - j) left = rsF n G i i (tkB n G c &&& fullM i)) _ _ 0 (by omega) ⟨_, _, rfl, hM1, PubM.set (by decide), hl0, rfl⟩ (by omega) ?_ ?_
      · intro j s hj ⟨left, μ1, e, b1, b2, b3, b4⟩
        subst e
        left
        have hll : left < 1024 := Nat.lt_of_lt_of_le (lt_of_bits b3) (Nat.pow_le_pow_right (by omega) (by omega : i ≤ 10))
        have hsd := sd_le (a := left) (b := 2 ^ j)
        have hor : nI (sd left (2 ^ j)) ||| ((1 : Int32) <<< (nI i &&& 31)) = nI (sd left (2 ^ j) ||| 2 ^ i) := by rw [xI_bit (by omega), xI_or]
        have hbits : ∀ b, (sd left (2 ^ j) ||| 2 ^ i).testBit b = true → b < c := fun b hb => by
          rw [Nat.testBit_or, Bool.or_eq_true] at hb
          rcases hb with hb | hb
          · rw [sd_bit, Bool.and_eq_true] at hb; have := b3 b hb.1; omega
          · rw [Nat.testBit_two_pow] at hb; simp at hb; omega
        obtain ⟨w2, w3, -⟩ := M_rowsBy_MI (bs := sd left (2 ^ j) ||| 2 ^ i) (more := 0) b1 hbits (by omega)
        have hcl := cnt_lt (n := n) (G := G) (bs := sd left (2 ^ j) ||| 2 ^ i) (more := 0) hM.2.2.1
        have hand : nI left &&& (((1 : Int32) <<< (nI j &&& 31)) ^^^ (-1)) = nI (sd left (2 ^ j)) := by rw [xI_bit (by omega), xI_diff]
        have hnext : rsF n G i (i - j) left = rsF n G i (i - (j + 1)) (rsS n G i left j) := by
          rw [show i - j = (i - (j + 1)) + 1 by omega]
          show rsF n G i (i - (j + 1)) (rsS n G i left (i - ((i - (j + 1)) + 1))) = _
          rw [show i - ((i - (j + 1)) + 1) = j by omega]
        rw [hnext] at b4
        have hb3' : ∀ b, (rsS n G i left j).testBit b = true → b < i := fun b hb => b3 b (rsS_sub b hb)
        by_cases cb : left.testBit j = true
        · by_cases cz : cnt n G (sd left (2 ^ j) ||| 2 ^ i) 0 = 0
          · have hS : rsS n G i left j = sd left (2 ^ j) := if_pos ⟨cb, cz⟩
            refine ⟨(nI (rsS n G i left j), nI (j + 1), mset μ1 45 w2), ?_, _, _, rfl, b1.m45, b2.tr (PubM.set (by decide)), hb3', b4⟩
            unfold M_reasonOf_b1
            refine ifn (nI_ge hj (by omega)) ?_
            refine lti hand ?_
            refine ob (a := (true, mset μ1 45 w2)) ?_ ?_
            · refine ifn (by rw [M_isIn_eq (by omega) (by omega), if_pos cb]; decide) ?_
              rw [hor]
              refine ob w3 ?_
              refine lti rfl ?_
              refine lti rfl ?_
              exact ifp (by show nI _ = 0; rw [cz]; rfl) rfl
            · refine lti rfl ?_
              refine lti rfl ?_
              refine lti (b := nI (rsS n G i left j)) (by rw [hS]; rfl) ?_
              exact lti (nI_1 _) rfl
          · have hS : rsS n G i left j = left := if_neg (fun q => cz q.2)
            refine ⟨(nI (rsS n G i left j), nI (j + 1), mset μ1 45 w2), ?_, _, _, rfl, b1.m45, b2.tr (PubM.set (by decide)), hb3', b4⟩
            unfold M_reasonOf_b1
            refine ifn (nI_ge hj (by omega)) ?_
            refine lti hand ?_
            refine ob (a := (false, mset μ1 45 w2)) ?_ ?_
            · refine ifn (by rw [M_isIn_eq (by omega) (by omega), if_pos cb]; decide) ?_
              rw [hor]
              refine ob w3 ?_
              refine lti rfl ?_
              refine lti rfl ?_
              exact ifn (nI_ne0 (by omega) (by omega)) rfl
            · refine lti rfl ?_
              refine lti rfl ?_
              refine lti (b := nI (rsS n G i left j)) (by rw [hS]; rfl) ?_
              exact lti (nI_1 _) rfl
        · have hS : rsS n G i left j = left := if_neg (fun q => cb q.1)
          refine ⟨(nI (rsS n G i left j), nI (j + 1), μ1), ?_, _, _, rfl, b1, b2, hb3', b4⟩
          unfold M_reasonOf_b1
          refine ifn (nI_ge hj (by omega)) ?_
          refine lti hand ?_
          refine ob (a := (false, μ1)) ?_ ?_
          · exact ifp (by rw [M_isIn_eq (by omega) (by omega), if_neg cb]) rfl
          · refine lti rfl ?_
            refine lti rfl ?_
            refine lti (b := nI (rsS n G i left j)) (by rw [hS]; rfl) ?_
            exact lti (nI_1 _) rfl
      · intro s ⟨left, μ1, e, b1, b2, b3, b4⟩
        subst e
        rw [Nat.sub_self] at b4
        refine ⟨_, ?_, μ1, rfl, b1, b2⟩
        unfold M_reasonOf_b1
        refine ifp (nI_le (Nat.le_refl _) (by omega)) ?_
        rw [← b4]; rfl
    obtain ⟨r, l1, μ', l2, l3, l4⟩ := key
    refine ⟨μ', ?_, l3, l4⟩
    unfold M_reasonOf
    refine ob w1 ?_
    refine lti rfl ?_
    refine lti rfl ?_
    refine ifp (by rw [M_isIn_eq (by omega) (by omega), if_neg q]) ?_
    have hfm : (((1 : Int32) <<< (nI i &&& 31)) - 1) = nI (fullM i) := by
      rw [xI_bit (by omega)]
      unfold fullM
      exact zz_dec (Nat.two_pow_pos i)
    refine lti (b := nI (tkB n G c &&& fullM i)) (by rw [hfm, xI_and]) ?_
    refine ob l1 ?_
    rw [l2]
    exact lti rfl (lti rfl rfl)

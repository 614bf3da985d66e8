theorem s_reason {σ μ : Mem} (h : CMx σ μ) (x : Int32) : ∃ a σ' μ', O_reason x σ = some (a, σ') ∧ M_reason x μ = some (a, μ') ∧ CMx σ' μ' ∧ KC σ σ' ∧ KM μ μ' := by
  have h0 := h
  obtain ⟨n, G, c, ⟨kd, ch, st, root, hC⟩, hM⟩ := h
  have hC0 := hC
  obtain ⟨⟨a1, a2, a3, a4, a5, a6, a7, a8, a9, a10, a11, a12⟩, b1, b2⟩ := hC
  have htl := tkB_lt (n := n) (G := G) (c := c) a5
  rcases gr0 (x := x) (by omega) a4 with ⟨g1, i, hi, rfl⟩ | ⟨g1, g2⟩
  · have hgM : M_isGroup (nI i) μ = 1 := by
      unfold M_isGroup
      rw [hM.2.2.2.1]
      rcases in0 (x := nI i) (c := c) (by omega) with ⟨q, -⟩ | ⟨-, q | q⟩
      · exact q
      · exact absurd q (nI_pos (by omega))
      · exact absurd q (nI_ge hi (by omega))
    obtain ⟨μ', m1, m2, m3⟩ := M_reasonOf_eq hM hi
    have hmod : ∀ a, M_reasonOf (nI i) μ = some (a, μ') → M_reason (nI i) μ = some (a, μ') := fun a ha => by
      unfold M_reason
      refine ob (a := (a, μ')) ?_ (lti rfl (lti rfl rfl))
      refine ifn (by rw [hgM]; decide) ?_
      exact ob ha (lti rfl (lti rfl rfl))
    have hit := O_isTaken_eq a7 htl (show i < 10 by omega)
    by_cases q : (tkB n G c).testBit i = true
    · rw [if_pos q] at m1 hit
      refine ⟨-3, σ, μ', ?_, hmod _ m1, ⟨n, G, c, ⟨kd, ch, st, root, hC0⟩, m2⟩, KC.rf, m3.km⟩
      unfold O_reason
      refine ifn (by rw [g1]; decide) ?_
      exact ifn (by rw [hit]; decide) rfl
    · rw [if_neg q] at m1 hit
      obtain ⟨σ9, p1, p2, p3⟩ := plant_step (G := G) a11 a2 a3
      obtain ⟨σ16, v, r1, r2, r3⟩ := red_step p2 isT21 (show i < 10 by omega) (a6 i hi).2
      have hbase : v = 1 ∧ TP σ16 21 n G (fun x => False ∨ x = i) := by
        rcases r3 with r | ⟨-, -, hno⟩
        · exact r
        · exact absurd (one_group i) hno
      obtain ⟨hv, hT0⟩ := hbase
      have hF16 : ∀ k, (k < 21 ∨ 31 < k) → σ16 k = σ k := fun k hk => by rw [r2.1 k (by omega), p3 k hk]
      have hfm : (((1 : Int32) <<< (nI i &&& 31)) - 1) = nI (fullM i) := by
        rw [xI_bit (by omega)]; unfold fullM; exact zz_dec (Nat.two_pow_pos i)
      have hl0 : ∀ b, (tkB n G c &&& fullM i).testBit b = true → b < i := fun b hb => (and_full_bit.mp hb).2
      have key : ∃ r, lp (fun s => O_reason_b2 (nI i) s.1 s.2.1 s.2.2) fuel (nI (tkB n G c &&& fullM i), 0, σ16) = some r ∧ ∃ τ, (r = .inl (nI (rsF n G i i (tkB n G c &&& fullM i)), τ) ∨ r = .inr (nI (rsF n G i i (tkB n G c &&& fullM i)), τ)) ∧ TW τ 21 ∧ TW τ 32 ∧ ∀ k, (k < 21 ∨ 42 < k) → τ k = σ k := by
        refine lp_for i (fun j s => ∃ left τ, s = (nI left, nI j, τ) ∧ (∀ b, left.testBit b = true → b < i) ∧ TP τ 21 n G (fun g => g = i ∨ (left.testBit g = true ∧ g < j)) ∧ TW τ 32 ∧ (∀ k, (k < 21 ∨ 42 < k) → τ k = σ k) ∧ rsF n G i (i - j) left = rsF n G i i (tkB n G c &&& fullM i)) _ _ 0 (by omega) ⟨_, σ16, rfl, hl0, hT0.congr (fun g _ => ?_), a12.same (fun a ha => hF16 _ (by omega)), fun k hk => hF16 k (by omega), rfl⟩ (by omega) ?_ ?_
        · constructor
          · rintro (a | a)
            · exact a.elim
            · exact Or.inl a
          · rintro (a | ⟨-, a⟩)
            · exact Or.inr a
            · omega
        · intro j s hj ⟨left, τ, e, c1, c2, c3, c4, c5⟩
          subst e
          have hll : left < 1024 := Nat.lt_of_lt_of_le (lt_of_bits c1) (Nat.pow_le_pow_right (by omega) (by omega : i ≤ 10))
          have hnext : rsF n G i (i - j) left = rsF n G i (i - (j + 1)) (rsS n G i left j) := by
            rw [show i - j = (i - (j + 1)) + 1 by omega]
            show rsF n G i (i - (j + 1)) (rsS n G i left (i - ((i - (j + 1)) + 1))) = _
            rw [show i - ((i - (j + 1)) + 1) = j by omega]
          rw [hnext] at c5
          have hg : ¬ nI i ≤ nI j := nI_ge hj (by omega)
          by_cases cb : left.testBit j = true
          · obtain ⟨σ38, d1, d2, d3, d4⟩ := draw_step c2 c3
            obtain ⟨v2, σ48, i1, i2, i3, i4⟩ := reason_in a3 (show i < 10 by omega) hj hll c1 (fun g hg => by rw [d4 1 (by omega), c4 1 (by omega)]; exact a6 g (by omega)) d2
            have hF48 : ∀ k, (k < 21 ∨ 42 < k) → σ48 k = σ k := fun k hk => by rw [i3 k (by omega), d4 k hk, c4 k hk]
            have h21 : TP σ48 21 n G (fun g => g = i ∨ (left.testBit g = true ∧ g < j)) := d3.same (fun a ha => i3 _ (by omega))
            have hnz : ¬ ((nI left >>> (nI j &&& 31)) &&& 1) = 0 := fun q => by rw [tst_bit (by omega) (by omega)] at q; rw [q] at cb; cases cb
            rcases i4 with ⟨ev, hex⟩ | ⟨ev, hno⟩
            · -- it must stay
              have hS : rsS n G i left j = left := if_neg (fun w => by
                have := (cnt_rp (G := G) a3 (fun g _ => wo_bit)).mp w.2
                exact this hex)
              rw [hS] at c5
              subst ev
              obtain ⟨σ94, v3, t1, t2, t3⟩ := red_step h21 isT21 (show j < 10 by omega) (a6 j (by omega)).2
              have hgj : rd σ48 1 (nI j) = some (nI (G j)) := by rw [rdT (N := 10) rfl (by omega) (by omega), hF48 1 (by omega), (a6 j (by omega)).1]
              have hF94 : ∀ k, (k < 21 ∨ 42 < k) → σ94 k = σ k := fun k hk => by rw [t2.1 k (by omega), hF48 k hk]
              have h32' : TW σ94 32 := i2.same (fun a ha => t2.1 _ (by omega))
              have hcong : ∀ g, g < 10 → (((g = i ∨ (left.testBit g = true ∧ g < j)) ∨ g = j) ↔ (g = i ∨ (left.testBit g = true ∧ g < j + 1))) := fun g _ => by
                constructor
                · rintro ((a | ⟨a, b⟩) | a)
                  · exact Or.inl a
                  · exact Or.inr ⟨a, by omega⟩
                  · subst a; exact Or.inr ⟨cb, by omega⟩
                · rintro (a | ⟨a, b⟩)
                  · exact Or.inl (Or.inl a)
                  · by_cases q : g = j
                    · exact Or.inr q
                    · exact Or.inl (Or.inr ⟨a, by omega⟩)
              rcases t3 with ⟨ev, hT2⟩ | ⟨ev, hW, hno⟩
              · subst ev
                left
                refine ⟨(nI left, nI (j + 1), σ94), ?_, left, σ94, rfl, c1, hT2.congr hcong, h32', hF94, c5⟩
                unfold O_reason_b2
                refine ifn hg ?_
                refine ob (a := .inl (nI left, σ94)) ?_ ?_
                · refine ifn hnz ?_
                  refine ob d1 ?_
                  refine lti (nI_1 _) ?_
                  refine ob i1 ?_
                  refine lti rfl ?_
                  refine lti rfl ?_
                  refine ifn (show ¬ (1 : Int32) = 0 by decide) ?_
                  refine ob hgj ?_
                  refine ob t1 ?_
                  refine lti rfl ?_
                  refine lti rfl ?_
                  exact ifn (show ¬ (1 : Int32) = 0 by decide) rfl
                · show lt _ (fun a => lt _ (fun b => lt (nI j + 1) (fun c => some (Sum.inl (a, c, b))))) = _
                  refine lti rfl ?_
                  refine lti rfl ?_
                  exact lti (nI_1 _) rfl
              · subst ev
                right
                have hno2 : ¬ ∃ r, RP n G (fun g => g = i ∨ (left.testBit g = true ∧ g < j + 1)) r := by
                  rintro ⟨r, hr⟩
                  exact hno ⟨r, (RP_congr hcong r).mpr hr⟩
                have hdrop := rsF_drop (G := G) (j := j) a3 (show i < 10 by omega) (i - (j + 1)) left (by omega) c1 hno2
                rw [show i - (i - (j + 1)) = j + 1 by omega] at hdrop
                rw [hdrop] at c5
                refine ⟨(Sum.inr (nI (left &&& fullM (j + 1)), σ94) : (Int32 × Mem) ⊕ (Int32 × Mem)), ?_, σ94, Or.inr (by rw [c5]), hW, h32', hF94⟩
                unfold O_reason_b2
                refine ifn hg ?_
                refine ob (a := .inr (.inr (.inr (nI (left &&& fullM (j + 1)), σ94)))) ?_ rfl
                refine ifn hnz ?_
                refine ob d1 ?_
                refine lti (nI_1 _) ?_
                refine ob i1 ?_
                refine lti rfl ?_
                refine lti rfl ?_
                refine ifn (show ¬ (1 : Int32) = 0 by decide) ?_
                refine ob hgj ?_
                refine ob t1 ?_
                refine lti rfl ?_
                refine lti rfl ?_
                refine ifp rfl ?_
                have e2 : ((2 : Int32) <<< (nI j &&& 31)) - 1 = nI (fullM (j + 1)) := by
                  rw [shl2 j (by omega)]; unfold fullM; exact zz_dec (Nat.two_pow_pos (j + 1))
                rw [e2, xI_and]
            · -- it may go
              have hz : cnt n G (sd left (2 ^ j) ||| 2 ^ i) 0 = 0 := (cnt_rp (G := G) a3 (fun g _ => wo_bit)).mpr hno
              have hS : rsS n G i left j = sd left (2 ^ j) := if_pos ⟨cb, hz⟩
              rw [hS] at c5
              subst ev
              left
              refine ⟨(nI (sd left (2 ^ j)), nI (j + 1), σ48), ?_, sd left (2 ^ j), σ48, rfl, fun b hb => ?_, h21.congr (fun g _ => ?_), i2, hF48, c5⟩
              · unfold O_reason_b2
                refine ifn hg ?_
                refine ob (a := .inl (nI (sd left (2 ^ j)), σ48)) ?_ ?_
                · refine ifn hnz ?_
                  refine ob d1 ?_
                  refine lti (nI_1 _) ?_
                  refine ob i1 ?_
                  refine lti rfl ?_
                  refine lti rfl ?_
                  refine ifp rfl ?_
                  refine lti (b := nI (sd left (2 ^ j))) ?_ rfl
                  show nI left &&& _ = _
                  rw [xI_bit (by omega), xI_diff]
                · show lt _ (fun a => lt _ (fun b => lt (nI j + 1) (fun c => some (Sum.inl (a, c, b))))) = _
                  refine lti rfl ?_
                  refine lti rfl ?_
                  exact lti (nI_1 _) rfl
              · rw [sd_bit, Bool.and_eq_true] at hb; exact c1 b hb.1
              · rw [sd_bit, Nat.testBit_two_pow]
                simp only [Bool.and_eq_true, Bool.not_eq_true', decide_eq_false_iff_not]
                constructor
                · rintro (a | ⟨a, b⟩)
                  · exact Or.inl a
                  · exact Or.inr ⟨⟨a, by omega⟩, by omega⟩
                · rintro (a | ⟨⟨a, d⟩, b⟩)
                  · exact Or.inl a
                  · exact Or.inr ⟨a, by omega⟩
          · have hS : rsS n G i left j = left := if_neg (fun w => cb w.1)
            rw [hS] at c5
            left
            refine ⟨(nI left, nI (j + 1), τ), ?_, left, τ, rfl, c1, c2.congr (fun g _ => ?_), c3, c4, c5⟩
            · unfold O_reason_b2
              refine ifn hg ?_
              refine ob (a := .inl (nI left, τ)) ?_ ?_
              · exact ifp ((tst_bit (by omega) (by omega)).mpr (by simpa using cb)) rfl
              · show lt _ (fun a => lt _ (fun b => lt (nI j + 1) (fun c => some (Sum.inl (a, c, b))))) = _
                refine lti rfl ?_
                refine lti rfl ?_
                exact lti (nI_1 _) rfl
            · constructor
              · rintro (a | ⟨a, b⟩)
                · exact Or.inl a
                · exact Or.inr ⟨a, by omega⟩
              · rintro (a | ⟨a, b⟩)
                · exact Or.inl a
                · refine Or.inr ⟨a, ?_⟩
                  by_cases q : g = j
                  · subst q; exact absurd a cb
                  · omega
        · intro s ⟨left, τ, e, c1, c2, c3, c4, c5⟩
          subst e
          rw [Nat.sub_self] at c5
          have c5 : left = rsF n G i i (tkB n G c &&& fullM i) := c5
          refine ⟨(Sum.inl (nI left, τ) : (Int32 × Mem) ⊕ (Int32 × Mem)), ?_, τ, Or.inl (by rw [c5]), c2.tw, c3, c4⟩
          unfold O_reason_b2
          exact ifp (nI_le (Nat.le_refl _) (by omega)) rfl
      obtain ⟨r, l1, τ, l2, l3, l4, l5⟩ := key
      have hF9 : F9 σ τ := fun k hk => l5 k (by omega)
      refine ⟨nI (rsF n G i i (tkB n G c &&& fullM i)), τ, μ', ?_, hmod _ m1, ⟨n, G, c, ⟨kd, ch, st, root, hC0.keep hF9 (a8.same (fun a ha => l5 _ (by omega))) l3 l4⟩, m2⟩, hF9.kc, m3.km⟩
      unfold O_reason
      refine ifn (by rw [g1]; decide) ?_
      refine ifp hit ?_
      refine lti (b := nI (tkB n G c &&& fullM i)) (by rw [a7, hfm, xI_and]) ?_
      rw [a1]
      refine ob p1 ?_
      refine ob (a := nI (G i)) (by rw [rdT (N := 10) rfl (by omega) (by omega), p3 1 (by omega), (a6 i hi).1]) ?_
      refine ob r1 ?_
      refine lti rfl ?_
      refine lti rfl ?_
      refine ob l1 ?_
      rcases l2 with e | e
      · rw [e]; rfl
      · rw [e]; rfl
  · refine ⟨-2, σ, μ, ?_, ?_, h0, KC.rf, KM.rf⟩
    · unfold O_reason; exact ifp g1 rfl
    · unfold M_reason
      refine ob (a := (-2, μ)) (ifp ?_ rfl) (lti rfl (lti rfl rfl))
      unfold M_isGroup
      rw [hM.2.2.2.1]
      rcases in0 (x := x) (c := c) (by omega) with ⟨-, j, hj, e⟩ | ⟨q, -⟩
      · subst e
        rcases g2 with q | q
        · exact absurd q (nI_pos (by omega))
        · exact absurd q (nI_ge hj (by omega))
      · exact q

noncomputable def spC (n : Nat) (G : Nat → Nat) (tk : Nat) (g : Nat) : Bool := tk.testBit g && decide (cnt n G (sd tk (2 ^ g)) 0 = cnt n G tk 0)
theorem bup_s {c : Nat → Bool} {j : Nat} : bitsUp c (j + 1) = bitsUp c j ||| (if c j = true then 2 ^ j else 0) := rfl
theorem M_spareOf_eq {μ : Mem} {n : Nat} {G : Nat → Nat} {c : Nat} (hM : MI μ n G c) : ∃ μ', M_spareOf μ = some (nI (bitsUp (spC n G (tkB n G c)) c), μ') ∧ MI μ' n G c ∧ PubM μ μ' := by
  obtain ⟨w, w1⟩ := M_takenNow_eq hM
  have hc := hM.2.2.2.2.1
  have htl := tkB_lt (n := n) (G := G) (c := c) hc
  obtain ⟨w2, w3, -⟩ := M_rowsBy_MI (bs := tkB n G c) (more := 0) (MI.m45 (w := w) hM) (fun i hi => tkB_bit hi) (by omega)
  have hcl0 := cnt_lt (n := n) (G := G) (bs := tkB n G c) (more := 0) hM.2.2.1
  have key : ∃ r, lp (fun s => M_spareOf_b1 (nI (tkB n G c)) (nI (cnt n G (tkB n G c) 0)) s.1 s.2.1 s.2.2) fuel (0, 0, mset (mset μ 45 w) 45 w2) = some r ∧ ∃ μ', r = (nI (bitsUp (spC n G (tkB n G c)) c), μ') ∧ MI μ' n G c ∧ PubM μ μ' := by
    refine lp_for c (fun j s => ∃ μ', s = (nI (bitsUp (spC n G (tkB n G c)) j), nI j, μ') ∧ MI μ' n G c ∧ PubM μ μ') _ _ 0 (by omega) ⟨_, rfl, hM.m45.m45, (PubM.set (by decide)).tr (PubM.set (by decide))⟩ (by omega) ?_ ?_
    · intro j s hj ⟨μ1, e, b1, b2⟩
      subst e
      left
      have hsd := sd_le (a := tkB n G c) (b := 2 ^ j)
      have hand : nI (tkB n G c) &&& (((1 : Int32) <<< (nI j &&& 31)) ^^^ (-1)) = nI (sd (tkB n G c) (2 ^ j)) := by rw [xI_bit (by omega), xI_diff]
      obtain ⟨w4, w5, -⟩ := M_rowsBy_MI (bs := sd (tkB n G c) (2 ^ j)) (more := 0) b1 (fun b hb => by rw [sd_bit, Bool.and_eq_true] at hb; exact tkB_bit hb.1) (by omega)
      have hcl := cnt_lt (n := n) (G := G) (bs := sd (tkB n G c) (2 ^ j)) (more := 0) hM.2.2.1
      have fin : ∀ (b : Bool) (μ2 : Mem), spC n G (tkB n G c) j = b → lt (if b = true then ((1 : Int32) <<< (nI j &&& 31)) else 0 : Int32) (fun vq43 => lt (nI (bitsUp (spC n G (tkB n G c)) j) ||| vq43) (fun vq45 => lt (nI j + 1) (fun vq47 => some (Sum.inl (vq45, vq47, μ2) : (Int32 × Int32 × Mem) ⊕ (Int32 × Mem))))) = some (Sum.inl (nI (bitsUp (spC n G (tkB n G c)) (j + 1)), nI (j + 1), μ2)) := fun b μ2 hb => by
        refine lti (b := nI (if spC n G (tkB n G c) j = true then 2 ^ j else 0)) ?_ ?_
        · rw [hb]
          cases b
          · rfl
          · show ((1 : Int32) <<< (nI j &&& 31)) = nI (2 ^ j); exact xI_bit (by omega)
        · refine lti (b := nI (bitsUp (spC n G (tkB n G c)) (j + 1))) (by rw [xI_or, bup_s]) ?_
          exact lti (nI_1 _) rfl
      by_cases cb : (tkB n G c).testBit j = true
      · by_cases cz : cnt n G (sd (tkB n G c) (2 ^ j)) 0 = cnt n G (tkB n G c) 0
        · refine ⟨(nI (bitsUp (spC n G (tkB n G c)) (j + 1)), nI (j + 1), mset μ1 45 w4), ?_, _, rfl, b1.m45, b2.tr (PubM.set (by decide))⟩
          unfold M_spareOf_b1
          refine ifn (by show ¬ μ1 43 1 ≤ nI j; rw [b1.2.2.2.1]; exact nI_ge hj (by omega)) ?_
          refine ob (a := (true, mset μ1 45 w4)) ?_ ?_
          · refine ifn (by rw [M_isIn_eq (by omega) (by omega), if_pos cb]; decide) ?_
            rw [hand]
            refine ob w5 ?_
            refine lti rfl ?_
            refine lti rfl ?_
            exact ifp (by show nI _ = nI _; rw [cz]) rfl
          · refine lti rfl ?_
            refine lti rfl ?_
            exact fin true _ (by unfold spC; rw [cb, cz]; simp)
        · refine ⟨(nI (bitsUp (spC n G (tkB n G c)) (j + 1)), nI (j + 1), mset μ1 45 w4), ?_, _, rfl, b1.m45, b2.tr (PubM.set (by decide))⟩
          unfold M_spareOf_b1
          refine ifn (by show ¬ μ1 43 1 ≤ nI j; rw [b1.2.2.2.1]; exact nI_ge hj (by omega)) ?_
          refine ob (a := (false, mset μ1 45 w4)) ?_ ?_
          · refine ifn (by rw [M_isIn_eq (by omega) (by omega), if_pos cb]; decide) ?_
            rw [hand]
            refine ob w5 ?_
            refine lti rfl ?_
            refine lti rfl ?_
            exact ifn (nI_ne (by omega) (by omega) cz) rfl
          · refine lti rfl ?_
            refine lti rfl ?_
            exact fin false _ (by unfold spC; rw [cb]; simp [cz])
      · refine ⟨(nI (bitsUp (spC n G (tkB n G c)) (j + 1)), nI (j + 1), μ1), ?_, _, rfl, b1, b2⟩
        unfold M_spareOf_b1
        refine ifn (by show ¬ μ1 43 1 ≤ nI j; rw [b1.2.2.2.1]; exact nI_ge hj (by omega)) ?_
        refine ob (a := (false, μ1)) ?_ ?_
        · exact ifp (by rw [M_isIn_eq (by omega) (by omega), if_neg cb]) rfl
        · refine lti rfl ?_
          refine lti rfl ?_
          exact fin false _ (by unfold spC; simp [cb])
    · intro s ⟨μ1, e, b1, b2⟩
      subst e
      refine ⟨_, ?_, μ1, rfl, b1, b2⟩
      unfold M_spareOf_b1
      exact ifp (by show μ1 43 1 ≤ nI c; rw [b1.2.2.2.1]; exact nI_le (Nat.le_refl _) (by omega)) rfl
  obtain ⟨r, l1, μ', l2, l3, l4⟩ := key
  refine ⟨μ', ?_, l3, l4⟩
  unfold M_spareOf
  refine ob w1 ?_
  refine lti rfl ?_
  refine lti rfl ?_
  refine ob w3 ?_
  refine lti rfl ?_
  refine lti rfl ?_
  refine ob l1 ?_
  rw [l2]
  exact lti rfl (lti rfl rfl)
theorem red_ok {σ : Mem} {t n : Nat} {G : Nat → Nat} {P : Nat → Prop} (h : TP σ t n G P) (ht : isT t) {g : Nat} (hg : g < 10) (hG : G g < 256) (hex : ∃ r, RP n G (fun x => P x ∨ x = g) r) : ∃ τ, T_reduce t (nI (G g)) σ = some (1, τ) ∧ RF t σ τ ∧ TP τ t n G (fun x => P x ∨ x = g) := by
  obtain ⟨τ, v, r1, r2, r3⟩ := red_step h ht hg hG
  rcases r3 with ⟨e, hT⟩ | ⟨-, -, hno⟩
  · subst e; exact ⟨τ, r1, r2, hT⟩
  · exact absurd hex hno
theorem s_spare {σ μ : Mem} (h : CMx σ μ) : ∃ a σ' μ', O_spare σ = some (a, σ') ∧ M_spare μ = some (a, μ') ∧ CMx σ' μ' ∧ KC σ σ' ∧ KM μ μ' := by
  obtain ⟨n, G, c, ⟨kd, ch, st, root, hC⟩, hM⟩ := h
  have hC0 := hC
  obtain ⟨⟨a1, a2, a3, a4, a5, a6, a7, a8, a9, a10, a11, a12⟩, b1, b2⟩ := hC
  have htl := tkB_lt (n := n) (G := G) (c := c) a5
  have hcl0 := cnt_lt (n := n) (G := G) (bs := tkB n G c) (more := 0) a3
  obtain ⟨μ', m1, m2, m3⟩ := M_spareOf_eq hM
  obtain ⟨r0, hr0⟩ := Fr_ex root a8.1.2.2.2.1
  have hall : RP n G (fun g => (tkB n G c).testBit g = true) r0 := (RP_rg (fun g _ => Iff.rfl) r0).mp ((a10 r0).mp hr0)
  obtain ⟨σ7, p1, p2, p3⟩ := plant_step (G := G) a11 a2 a3
  have key : ∃ r, lp (fun s => O_spare_b2 (lN (cnt n G (tkB n G c) 0)) s.1 s.2.1 s.2.2) fuel (0, 0, σ7) = some r ∧ ∃ τ, r = (nI (bitsUp (spC n G (tkB n G c)) c), τ) ∧ TW τ 21 ∧ TW τ 32 ∧ ∀ k, (k < 21 ∨ 42 < k) → τ k = σ k := by
    refine lp_for c (fun j s => ∃ τ, s = (nI (bitsUp (spC n G (tkB n G c)) j), nI j, τ) ∧ TP τ 21 n G (fun g => (tkB n G c).testBit g = true ∧ g < j) ∧ TW τ 32 ∧ ∀ k, (k < 21 ∨ 42 < k) → τ k = σ k) _ _ 0 (by omega) ⟨σ7, rfl, p2.congr (fun g _ => ⟨fun q => q.elim, fun q => by omega⟩), a12.same (fun a ha => p3 _ (by omega)), fun k hk => p3 k (by omega)⟩ (by omega) ?_ ?_
    · intro j s hj ⟨τ, e, c1, c2, c3⟩
      subst e
      left
      have hτ2 : τ 0 2 = nI c := by rw [c3 0 (by omega)]; exact a4
      have hit : O_isTaken (nI j) τ = if (tkB n G c).testBit j = true then 1 else 0 := O_isTaken_eq (by rw [c3 0 (by omega)]; exact a7) htl (by omega)
      have hgn : ¬ τ 0 2 ≤ nI j := by rw [hτ2]; exact nI_ge hj (by omega)
      by_cases cb : (tkB n G c).testBit j = true
      · rw [if_pos cb] at hit
        obtain ⟨σ30, d1, d2, d3, d4⟩ := draw_step c1 c2
        have inner : ∃ r, lp (fun s => O_spare_b1 s.1 s.2) fuel (nI (j + 1), σ30) = some r ∧ TP r 32 n G (fun g => (tkB n G c).testBit g = true ∧ g ≠ j) ∧ ∀ x, (x < 32 ∨ 42 < x) → r x = σ30 x := by
          refine lp_for c (fun k s => j + 1 ≤ k ∧ s.1 = nI k ∧ TP s.2 32 n G (fun g => (tkB n G c).testBit g = true ∧ g < k ∧ g ≠ j) ∧ ∀ x, (x < 32 ∨ 42 < x) → s.2 x = σ30 x) _ _ (j + 1) (by omega) ⟨by omega, rfl, d2.congr (fun g _ => ?_), fun _ _ => rfl⟩ (by omega) ?_ ?_
          · constructor
            · rintro ⟨a, b⟩; exact ⟨a, by omega, by omega⟩
            · rintro ⟨a, b, d⟩; exact ⟨a, by omega⟩
          · intro k s hk ⟨hk1, e, hT, hF⟩
            obtain ⟨s1, υ⟩ := s
            simp only at e hT hF
            subst e
            left
            have hσ : ∀ x, (x < 21 ∨ 42 < x) → υ x = σ x := fun x hx => by rw [hF x (by omega), d4 x hx, c3 x hx]
            have hk2 : ¬ υ 0 2 ≤ nI k := by rw [hσ 0 (by omega), a4]; exact nI_ge hk (by omega)
            have hitk : O_isTaken (nI k) υ = if (tkB n G c).testBit k = true then 1 else 0 := O_isTaken_eq (by rw [hσ 0 (by omega)]; exact a7) htl (by omega)
            by_cases ck : (tkB n G c).testBit k = true
            · rw [if_pos ck] at hitk
              obtain ⟨w, q1, q2, q3⟩ := red_ok hT isT32 (show k < 10 by omega) (a6 k hk).2 ⟨r0, RP_mono (fun g _ hp => by
                rcases hp with ⟨x, -⟩ | x
                · exact x
                · rw [x]; exact ck) hall⟩
              refine ⟨(nI (k + 1), w), ?_, by omega, rfl, q3.congr (fun g _ => ?_), fun x hx => by show w x = _; rw [q2.1 x (by omega)]; exact hF x hx⟩
              · unfold O_spare_b1
                refine ifn hk2 ?_
                refine ob (a := w) ?_ (lti (nI_1 _) rfl)
                refine ifn (by show ¬ O_isTaken (nI k) υ = 0; rw [hitk]; decide) ?_
                refine ob (a := nI (G k)) (by show rd υ 1 (nI k) = _; rw [rdT (N := 10) rfl (by omega) (by omega), hσ 1 (by omega), (a6 k hk).1]) ?_
                refine ob q1 ?_
                exact lti rfl (lti rfl rfl)
              · constructor
                · rintro (⟨a, b, d⟩ | a)
                  · exact ⟨a, by omega, d⟩
                  · subst a; exact ⟨ck, by omega, by omega⟩
                · rintro ⟨a, b, d⟩
                  by_cases q : g = k
                  · exact Or.inr q
                  · exact Or.inl ⟨a, by omega, d⟩
            · rw [if_neg ck] at hitk
              refine ⟨(nI (k + 1), υ), ?_, by omega, rfl, hT.congr (fun g _ => ?_), hF⟩
              · unfold O_spare_b1
                refine ifn hk2 ?_
                exact ob (a := υ) (ifp hitk rfl) (lti (nI_1 _) rfl)
              · constructor
                · rintro ⟨a, b, d⟩; exact ⟨a, by omega, d⟩
                · rintro ⟨a, b, d⟩
                  refine ⟨a, ?_, d⟩
                  by_cases q : g = k
                  · subst q; exact absurd a ck
                  · omega
          · intro s ⟨hk1, e, hT, hF⟩
            obtain ⟨s1, υ⟩ := s
            simp only at e hT hF
            subst e
            have hσ : υ 0 = σ 0 := by rw [hF 0 (by omega), d4 0 (by omega), c3 0 (by omega)]
            refine ⟨υ, ?_, hT.congr (fun g _ => ?_), hF⟩
            · unfold O_spare_b1
              exact ifp (by show υ 0 2 ≤ nI c; rw [hσ, a4]; exact nI_le (Nat.le_refl _) (by omega)) rfl
            · constructor
              · rintro ⟨a, b, d⟩; exact ⟨a, d⟩
              · rintro ⟨a, d⟩; exact ⟨a, tkB_bit a, d⟩
        obtain ⟨σ38, i1, i2, i3⟩ := inner
        have hσ38 : ∀ x, (x < 21 ∨ 42 < x) → σ38 x = σ x := fun x hx => by rw [i3 x (by omega), d4 x hx, c3 x hx]
        have hrc := i2.count isT32 a3 (bs := sd (tkB n G c) (2 ^ j)) (fun g _ => by
          rw [sd_bit, Nat.testBit_two_pow]
          simp only [Bool.and_eq_true, Bool.not_eq_true', decide_eq_false_iff_not]
          exact ⟨fun ⟨a, b⟩ => ⟨a, fun e => b e.symm⟩, fun ⟨a, b⟩ => ⟨a, fun e => b e.symm⟩⟩)
        have hcl := cnt_lt (n := n) (G := G) (bs := sd (tkB n G c) (2 ^ j)) (more := 0) a3
        have h21 : TP σ38 21 n G (fun g => (tkB n G c).testBit g = true ∧ g < j) := d3.same (fun a ha => i3 _ (by omega))
        obtain ⟨σ78, q1, q2, q3⟩ := red_ok h21 isT21 (show j < 10 by omega) (a6 j hj).2 ⟨r0, RP_mono (fun g _ hp => by
          rcases hp with ⟨x, -⟩ | x
          · exact x
          · rw [x]; exact cb) hall⟩
        refine ⟨(nI (bitsUp (spC n G (tkB n G c)) (j + 1)), nI (j + 1), σ78), ?_, σ78, rfl, q3.congr (fun g _ => ?_), i2.tw.same (fun a ha => q2.1 _ (by omega)), fun x hx => by rw [q2.1 x (by omega)]; exact hσ38 x hx⟩
        · unfold O_spare_b2
          refine ifn hgn ?_
          refine ob (a := (nI (bitsUp (spC n G (tkB n G c)) (j + 1)), σ78)) ?_ ?_
          · refine ifn (by show ¬ O_isTaken (nI j) τ = 0; rw [hit]; decide) ?_
            refine ob d1 ?_
            refine lti (nI_1 _) ?_
            refine ob i1 ?_
            refine ob hrc ?_
            refine lti (b := nI (bitsUp (spC n G (tkB n G c)) (j + 1))) ?_ ?_
            · rw [bup_s]
              by_cases cz : cnt n G (sd (tkB n G c) (2 ^ j)) 0 = cnt n G (tkB n G c) 0
              · have hs : spC n G (tkB n G c) j = true := by unfold spC; rw [cb, cz]; simp
                rw [if_pos hs, if_pos ((lg_cmp_eq _ _).mpr (by rw [cz]))]
                show nI _ ||| ((1 : Int32) <<< (nI j &&& 31)) = _
                rw [xI_bit (by omega), xI_or]
              · have hs : ¬ spC n G (tkB n G c) j = true := by unfold spC; rw [cb]; simp [cz]
                rw [if_neg hs, Nat.or_zero, if_neg (fun e => cz ((lN_eq (by omega) (by omega)).mp ((lg_cmp_eq _ _).mp e)))]
            · refine ob (a := nI (G j)) (by rw [rdT (N := 10) rfl (by omega) (by omega), hσ38 1 (by omega), (a6 j hj).1]) ?_
              refine ob q1 ?_
              exact lti rfl (lti rfl rfl)
          · refine lti rfl ?_
            refine lti rfl ?_
            exact lti (nI_1 _) rfl
        · constructor
          · rintro (⟨a, b⟩ | a)
            · exact ⟨a, by omega⟩
            · subst a; exact ⟨cb, by omega⟩
          · rintro ⟨a, b⟩
            by_cases q : g = j
            · exact Or.inr q
            · exact Or.inl ⟨a, by omega⟩
      · rw [if_neg cb] at hit
        have hs : ¬ spC n G (tkB n G c) j = true := by unfold spC; simp [cb]
        refine ⟨(nI (bitsUp (spC n G (tkB n G c)) (j + 1)), nI (j + 1), τ), ?_, τ, rfl, c1.congr (fun g _ => ?_), c2, c3⟩
        · unfold O_spare_b2
          refine ifn hgn ?_
          refine ob (a := (nI (bitsUp (spC n G (tkB n G c)) (j + 1)), τ)) ?_ ?_
          · rw [bup_s, if_neg hs, Nat.or_zero]
            exact ifp hit rfl
          · refine lti rfl ?_
            refine lti rfl ?_
            exact lti (nI_1 _) rfl
        · constructor
          · rintro ⟨a, b⟩; exact ⟨a, by omega⟩
          · rintro ⟨a, b⟩
            refine ⟨a, ?_⟩
            by_cases q : g = j
            · subst q; exact absurd a cb
            · omega
    · intro s ⟨τ, e, c1, c2, c3⟩
      subst e
      refine ⟨_, ?_, τ, rfl, c1.tw, c2, c3⟩
      unfold O_spare_b2
      exact ifp (by show τ 0 2 ≤ nI c; rw [c3 0 (by omega), a4]; exact nI_le (Nat.le_refl _) (by omega)) rfl
  obtain ⟨r, l1, τ, l2, l3, l4, l5⟩ := key
  have hF9 : F9 σ τ := fun k hk => l5 k (by omega)
  refine ⟨nI (bitsUp (spC n G (tkB n G c)) c), τ, μ', ?_, ?_, ⟨n, G, c, ⟨kd, ch, st, root, hC0.keep hF9 (a8.same (fun a ha => l5 _ (by omega))) l3 l4⟩, m2⟩, hF9.kc, m3.km⟩
  · unfold O_spare
    refine ob hC0.count ?_
    refine lti rfl ?_
    rw [a1]
    refine ob p1 ?_
    refine ob l1 ?_
    rw [l2]
    exact lti rfl (lti rfl rfl)
  · unfold M_spare
    exact ob m1 (lti rfl (lti rfl rfl))

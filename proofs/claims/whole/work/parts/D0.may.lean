theorem RG_more {n : Nat} {G : Nat → Nat} {bs k : Nat} {r : List Nat} : RG n G bs k r ↔ (RG n G bs 0 r ∧ Cons (k &&& fullM n) r) := by
  unfold RG
  constructor
  · rintro ⟨a, b, c, d⟩; exact ⟨⟨a, b, c, by rw [Nat.zero_and]; exact cons_0 r⟩, d⟩
  · rintro ⟨⟨a, b, c, -⟩, d⟩; exact ⟨a, b, c, d⟩
def F9 (σ τ : Mem) : Prop := ∀ k, (k < 10 ∨ 42 < k) → τ k = σ k
theorem F9.kc {σ τ : Mem} (h : F9 σ τ) : KC σ τ := ⟨fun k hk => h k (by omega), by rw [h 0 (by omega)], by rw [h 0 (by omega)]⟩
section
variable {σ τ : Mem} {n : Nat} {G : Nat → Nat} {c : Nat} {kd : Nat → Bool} {ch : Nat → List Nat} {st : Nat → Nat} {root : Nat}
theorem CI.keep (h : CI σ n G c kd ch st root) (hF : F9 σ τ) (hD : DR τ 10 kd ch st root) (h21 : TW τ 21) (h32 : TW τ 32) : CI τ n G c kd ch st root := by
  obtain ⟨⟨a1, a2, a3, a4, a5, a6, a7, a8, a9, a10, a11, a12⟩, b1, b2⟩ := h
  have e0 : τ 0 = σ 0 := hF 0 (by omega)
  refine ⟨⟨by rw [e0]; exact a1, a2, a3, by rw [e0]; exact a4, a5, fun g hg => by rw [hF 1 (by omega)]; exact a6 g hg, by rw [e0]; exact a7, hD, a9, a10, h21, h32⟩, by rw [e0]; exact b1, by rw [hF 3 (by omega)]; exact b2⟩
theorem CI.count (h : CI σ n G c kd ch st root) : T_rowCount 10 σ = some (lN (cnt n G (tkB n G c) 0)) := by
  obtain ⟨⟨a1, a2, a3, a4, a5, a6, a7, a8, a9, a10, a11, a12⟩, b1, b2⟩ := h
  obtain ⟨r1, r2⟩ := T_rowCount_ok a8.1 isT10
  rw [r1, tree_count a3 r2 a10]
/- the trial drawn from what is shown, and reduced by one set more -/
theorem trial_ok (h : CI σ n G c kd ch st root) {k : Nat} (hk : k < 256) : ∃ τ υ v, T_draw 32 10 σ = some τ ∧ T_reduce 32 (nI k) τ = some (v, υ) ∧ CI υ n G c kd ch st root ∧ F9 σ υ ∧ ((v = 1 ∧ 0 < cnt n G (tkB n G c) k ∧ T_rowCount 32 υ = some (lN (cnt n G (tkB n G c) k))) ∨ (v = 0 ∧ cnt n G (tkB n G c) k = 0)) := by
  have h0 := h
  obtain ⟨⟨a1, a2, a3, a4, a5, a6, a7, a8, a9, a10, a11, a12⟩, b1, b2⟩ := h
  obtain ⟨τ, kd2, ch2, st2, root2, ch1', d1, d2, d3, d4, d5, d6, d7, d8⟩ := T_draw_ok isT32 isT10 (by omega) a8.1 a12
  have e7 := d7 a8
  subst e7
  have hτ0 : ∀ k, (k < 32 ∨ 42 < k) → k ≠ 14 → τ k = σ k := fun k q1 q2 => d8 k (by omega) (by omega)
  have hD10 : DR τ 10 kd ch1' st root := ⟨d5, a8.2.1, a8.2.2.1, by rw [hτ0 10 (by omega) (by omega)]; exact a8.2.2.2.1, a8.2.2.2.2⟩
  have hRG : ∀ r, RG n G (tkB n G c) k r ↔ (Fr kd2 ch2 root2 r ∧ Cons (k &&& st2 root2) r) := fun r => by
    rw [RG_more, d4, a10, d3, a9]
  rcases T_reduce_ok d2.1 isT32 hk with ⟨⟨r0, hr0⟩, υ, kd3, ch3, st3, r1, r2, r3, r4, r5⟩ | ⟨hno, υ, r1, r2, r3⟩
  · have hυ : ∀ k, (k < 32 ∨ 39 < k) → υ k = τ k := fun k q => r3.1 k (by omega)
    have hF : F9 σ υ := fun k q => by rw [hυ k (by omega), hτ0 k (by omega) (by omega)]
    have hpos : 0 < cnt n G (tkB n G c) k := (cnt_pos a3).mpr ⟨r0, (hRG r0).mpr hr0⟩
    obtain ⟨q1, q2⟩ := T_rowCount_ok r2 isT32
    refine ⟨τ, υ, 1, d1, r1, h0.keep hF (hD10.same (fun a ha => hυ _ (by omega))) (a11.same (fun a ha => by rw [hυ _ (by omega), hτ0 _ (by omega) (by omega)])) r2.tw, hF, Or.inl ⟨rfl, hpos, ?_⟩⟩
    rw [q1, tree_count a3 q2 (fun r => by rw [r5, hRG])]
  · have hυ : ∀ k, (k < 32 ∨ 39 < k) → υ k = τ k := fun k q => r3.1 k (by omega)
    have hF : F9 σ υ := fun k q => by rw [hυ k (by omega), hτ0 k (by omega) (by omega)]
    have hz : cnt n G (tkB n G c) k = 0 := Classical.byContradiction (fun q => by
      obtain ⟨r, hr⟩ := (cnt_pos (n := n) (G := G) (bs := tkB n G c) (more := k) a3).mp (by omega)
      obtain ⟨u1, u2⟩ := (hRG r).mp hr
      exact hno r u1 u2)
    exact ⟨τ, υ, 0, d1, r1, h0.keep hF (hD10.same (fun a ha => hυ _ (by omega))) (a11.same (fun a ha => by rw [hυ _ (by omega), hτ0 _ (by omega) (by omega)])) r2, hF, Or.inr ⟨rfl, hz⟩⟩
theorem CI.cnt_pos0 (h : CI σ n G c kd ch st root) : 0 < cnt n G (tkB n G c) 0 := by
  obtain ⟨r, hr⟩ := Fr_ex root h.1.2.2.2.2.2.2.2.1.1.2.2.2.1
  exact (cnt_pos h.1.2.2.1).mpr ⟨r, (h.1.2.2.2.2.2.2.2.2.2.1 r).mp hr⟩
end
theorem full_div {n k : Nat} (hn : n ≤ 8) : k / 2 ^ n = 0 ↔ sd k (fullM n) = 0 := by
  rw [Nat.div_eq_zero_iff_lt (Nat.two_pow_pos n), sd0_iff]
  constructor
  · intro h i hi
    rw [full_bit, decide_eq_true_iff]
    exact Classical.byContradiction (fun q => by
      have := Nat.testBit_lt_two_pow (Nat.lt_of_lt_of_le h (Nat.pow_le_pow_right (by omega) (Nat.le_of_not_lt q)))
      rw [this] at hi; cases hi)
  · intro h
    have h2 : k ≤ fullM n := Nat.le_of_testBit h
    unfold fullM at h2
    have := Nat.two_pow_pos n
    omega
theorem setT {σ μ : Mem} {n : Nat} {G : Nat → Nat} {c : Nat} (h0 : σ 0 0 = nI n) (hM : MI μ n G c) (x : Int32) : (∃ k, k < 256 ∧ x = nI k ∧ O_isSetOfThings x σ = 1 ∧ M_isSet x μ = 1) ∨ (O_isSetOfThings x σ = 0 ∧ M_isSet x μ = 0) := by
  have hall := M_all_eq hM.1 hM.2.2.1
  have eO : O_isSetOfThings x σ = if O_isSet x = 0 then 0 else if (x >>> ((σ 0 0) &&& 31)) = 0 then 1 else 0 := by
    unfold O_isSetOfThings lt
    by_cases a : O_isSet x = 0
    · simp [a]
    · by_cases b : (x >>> ((σ 0 0) &&& 31)) = 0
      · simp [a, b]
      · simp [a, b]
  have eM : M_isSet x μ = if M_in x 0 255 = 0 then 0 else if (x &&& ((M_all μ) ^^^ (-1))) = 0 then 1 else 0 := by
    unfold M_isSet lt
    by_cases a : M_in x 0 255 = 0
    · simp [a]
    · by_cases b : (x &&& ((M_all μ) ^^^ (-1))) = 0
      · simp [a, b]
      · simp [a, b]
  rw [eO, eM]
  rcases set_cases x with ⟨k, hk, rfl, s1, s2⟩ | ⟨s1, s2⟩
  · have e1 : nI k >>> ((σ 0 0) &&& 31) = nI (k / 2 ^ n) := by rw [h0]; exact xI_shr (by omega) (by have := hM.2.2.1; omega)
    have e2 : nI k &&& ((M_all μ) ^^^ (-1)) = nI (sd k (fullM n)) := by rw [hall, xI_diff]
    have hd := full_div (k := k) hM.2.2.1
    have hl1 : k / 2 ^ n < 2 ^ 31 := by have := Nat.div_le_self k (2 ^ n); omega
    have hl2 := sd_lt (X := fullM n) hk
    have z : ¬ (1 : Int32) = 0 := by decide
    rw [s1, s2, if_neg z, if_neg z, e1, e2]
    by_cases q : k / 2 ^ n = 0
    · left
      rw [q, hd.mp q]
      exact ⟨k, hk, rfl, rfl, rfl⟩
    · right
      have q2 : sd k (fullM n) ≠ 0 := fun e => q (hd.mpr e)
      rw [if_neg (nI_ne0 (Nat.pos_of_ne_zero q) hl1), if_neg (nI_ne0 (by omega) (by omega))]
      exact ⟨rfl, rfl⟩
  · right
    rw [s1, s2]; exact ⟨rfl, rfl⟩
theorem s_may {σ μ : Mem} (h : CMx σ μ) (x : Int32) : ∃ a σ' μ', O_may x σ = some (a, σ') ∧ M_may x μ = some (a, μ') ∧ CMx σ' μ' ∧ KC σ σ' ∧ KM μ μ' := by
  have h0 := h
  obtain ⟨n, G, c, ⟨kd, ch, st, root, hC⟩, hM⟩ := h
  rcases setT hC.1.1 hM x with ⟨k, hk, rfl, s1, s2⟩ | ⟨s1, s2⟩
  · obtain ⟨τ, υ, v, t1, t2, t3, t4, t5⟩ := trial_ok hC hk
    obtain ⟨w, w1⟩ := M_takenNow_eq hM
    obtain ⟨w2, w3, -⟩ := M_rowsBy_MI (bs := tkB n G c) (more := k) hM.m45 (fun i hi => tkB_bit hi) hk
    have hcl := cnt_lt (n := n) (G := G) (bs := tkB n G c) (more := k) hM.2.2.1
    refine ⟨(if 0 < cnt n G (tkB n G c) k then 1 else 0), υ, mset (mset μ 45 w) 45 w2, ?_, ?_, ⟨n, G, c, ⟨kd, ch, st, root, t3⟩, hM.m45.m45⟩, t4.kc, ((PubM.set (by decide)).tr (PubM.set (by decide))).km⟩
    · unfold O_may
      refine ifn (by rw [s1]; decide) ?_
      refine ob t1 ?_
      refine ob t2 ?_
      refine lti rfl ?_
      refine lti rfl ?_
      rcases t5 with ⟨e, hp, -⟩ | ⟨e, hz⟩
      · rw [if_pos hp]
        exact lti (by rw [e]; rfl) rfl
      · have hz2 : ¬ 0 < cnt n G (tkB n G c) k := by omega
        rw [if_neg hz2]
        exact lti (by rw [e]; rfl) rfl
    · unfold M_may
      refine ob (a := ((if 0 < cnt n G (tkB n G c) k then 1 else 0 : Int32), mset (mset μ 45 w) 45 w2)) ?_ (lti rfl (lti rfl rfl))
      refine ifn (by rw [s2]; decide) ?_
      refine ob w1 ?_
      refine lti rfl ?_
      refine lti rfl ?_
      refine ob w3 ?_
      refine lti rfl ?_
      refine lti rfl ?_
      by_cases q : 0 < cnt n G (tkB n G c) k
      · rw [if_pos q]
        exact ifn (nI_nle q (by omega)) rfl
      · rw [if_neg q]
        have : cnt n G (tkB n G c) k = 0 := by omega
        exact ifp (by show nI (cnt n G (tkB n G c) k) ≤ 0; rw [this]; decide) rfl
  · refine ⟨-2, σ, μ, ?_, ?_, h0, KC.rf, KM.rf⟩
    · unfold O_may; exact ifp s1 rfl
    · unfold M_may
      exact ob (a := (-2, μ)) (ifp s2 rfl) (lti rfl (lti rfl rfl))
theorem s_must {σ μ : Mem} (h : CMx σ μ) (x : Int32) : ∃ a σ' μ', O_must x σ = some (a, σ') ∧ M_must x μ = some (a, μ') ∧ CMx σ' μ' ∧ KC σ σ' ∧ KM μ μ' := by
  have h0 := h
  obtain ⟨n, G, c, ⟨kd, ch, st, root, hC⟩, hM⟩ := h
  rcases setT hC.1.1 hM x with ⟨k, hk, rfl, s1, s2⟩ | ⟨s1, s2⟩
  · obtain ⟨τ, υ, v, t1, t2, t3, t4, t5⟩ := trial_ok hC hk
    obtain ⟨w, w1⟩ := M_takenNow_eq hM
    obtain ⟨w2, w3, -⟩ := M_rowsBy_MI (bs := tkB n G c) (more := 0) hM.m45 (fun i hi => tkB_bit hi) (by omega)
    obtain ⟨w4, w5, -⟩ := M_rowsBy_MI (bs := tkB n G c) (more := k) (MI.m45 (w := w2) (MI.m45 (w := w) hM)) (fun i hi => tkB_bit hi) hk
    have hcl := cnt_lt (n := n) (G := G) (bs := tkB n G c) (more := k) hM.2.2.1
    have hcl0 := cnt_lt (n := n) (G := G) (bs := tkB n G c) (more := 0) hM.2.2.1
    have hpos := hC.cnt_pos0
    have hcnt := t3.count
    refine ⟨(if cnt n G (tkB n G c) k = cnt n G (tkB n G c) 0 then 1 else 0), υ, mset (mset (mset μ 45 w) 45 w2) 45 w4, ?_, ?_, ⟨n, G, c, ⟨kd, ch, st, root, t3⟩, hM.m45.m45.m45⟩, t4.kc, (((PubM.set (by decide)).tr (PubM.set (by decide))).tr (PubM.set (by decide))).km⟩
    · unfold O_must
      refine ifn (by rw [s1]; decide) ?_
      refine ob t1 ?_
      refine ob t2 ?_
      refine lti rfl ?_
      refine lti rfl ?_
      rcases t5 with ⟨e, hp, hrc⟩ | ⟨e, hz⟩
      · by_cases q : cnt n G (tkB n G c) k = cnt n G (tkB n G c) 0
        · rw [if_pos q]
          refine ob (a := true) ?_ (lti rfl rfl)
          refine ifn (by rw [e]; show ¬ (1 : Int32) = 0; decide) ?_
          refine ob hrc ?_
          refine ob hcnt ?_
          exact ifp ((lg_cmp_eq _ _).mpr (by rw [q])) rfl
        · rw [if_neg q]
          refine ob (a := false) ?_ (lti rfl rfl)
          refine ifn (by rw [e]; show ¬ (1 : Int32) = 0; decide) ?_
          refine ob hrc ?_
          refine ob hcnt ?_
          exact ifn (fun e2 => q ((lN_eq (by omega) (by omega)).mp ((lg_cmp_eq _ _).mp e2))) rfl
      · have hz2 : ¬ cnt n G (tkB n G c) k = cnt n G (tkB n G c) 0 := by omega
        rw [if_neg hz2]
        exact ob (a := false) (ifp e rfl) (lti rfl rfl)
    · unfold M_must
      refine ob (a := ((if cnt n G (tkB n G c) k = cnt n G (tkB n G c) 0 then 1 else 0 : Int32), mset (mset (mset μ 45 w) 45 w2) 45 w4)) ?_ (lti rfl (lti rfl rfl))
      refine ifn (by rw [s2]; decide) ?_
      refine ob (a := ((if cnt n G (tkB n G c) k = cnt n G (tkB n G c) 0 then 1 else 0 : Int32), mset (mset (mset μ 45 w) 45 w2) 45 w4)) ?_ (lti rfl (lti rfl rfl))
      unfold M_mustOf
      refine ob w1 ?_
      refine lti rfl ?_
      refine lti rfl ?_
      refine ob w3 ?_
      refine lti rfl ?_
      refine lti rfl ?_
      refine ob w5 ?_
      refine lti rfl ?_
      refine lti rfl ?_
      by_cases q : cnt n G (tkB n G c) k = cnt n G (tkB n G c) 0
      · rw [if_pos q]
        exact lti (if_pos (by show nI _ = nI _; rw [q])) rfl
      · rw [if_neg q]
        exact lti (if_neg (nI_ne (by omega) (by omega) q)) rfl
  · refine ⟨-2, σ, μ, ?_, ?_, h0, KC.rf, KM.rf⟩
    · unfold O_must; exact ifp s1 rfl
    · unfold M_must
      exact ob (a := (-2, μ)) (ifp s2 rfl) (lti rfl (lti rfl rfl))
theorem s_manyNow {σ μ : Mem} {n : Nat} {G : Nat → Nat} {c : Nat} (hM : MI μ n G c) : ∃ μ', M_manyNow μ = some (nI (cnt n G (tkB n G c) 0), μ') ∧ MI μ' n G c ∧ PubM μ μ' := by
  obtain ⟨w, w1⟩ := M_takenNow_eq hM
  obtain ⟨w2, w3, -⟩ := M_rowsBy_MI (bs := tkB n G c) (more := 0) hM.m45 (fun i hi => tkB_bit hi) (by omega)
  refine ⟨mset (mset μ 45 w) 45 w2, ?_, hM.m45.m45, (PubM.set (by decide)).tr (PubM.set (by decide))⟩
  unfold M_manyNow
  refine ob w1 ?_
  refine lti rfl ?_
  refine lti rfl ?_
  refine ob w3 ?_
  exact lti rfl (lti rfl rfl)
theorem s_many {σ μ : Mem} (h : CMx σ μ) : ∃ a μ', O_many σ = some a ∧ M_many_ μ = some (a, μ') ∧ CMx σ μ' ∧ KM μ μ' := by
  obtain ⟨n, G, c, ⟨kd, ch, st, root, hC⟩, hM⟩ := h
  obtain ⟨μ', m1, m2, m3⟩ := s_manyNow (σ := σ) hM
  have hcl0 := cnt_lt (n := n) (G := G) (bs := tkB n G c) (more := 0) hM.2.2.1
  refine ⟨lN (cnt n G (tkB n G c) 0), μ', ?_, ?_, ⟨n, G, c, ⟨kd, ch, st, root, hC⟩, m2⟩, m3.km⟩
  · unfold O_many; exact ob hC.count rfl
  · unfold M_many_
    refine ob m1 ?_
    refine lti rfl ?_
    refine lti rfl ?_
    show some ((nI (cnt n G (tkB n G c) 0)).toInt64, μ') = _
    rw [nI_l (by omega)]

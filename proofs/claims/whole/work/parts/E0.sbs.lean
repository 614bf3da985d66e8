theorem findPlaces_ok {σ : Mem} {n : Nat} {T : Nat → Nat} (hn : n ≤ 8) (h0 : σ 0 0 = nI n) (h5 : σ 0 5 = nI n) (hT : ∀ i, i < n → σ 2 i = nI (T i)) (hR : Row0 n n T) : ∃ f, O_findPlaces σ = some (mset σ 5 f) ∧ ∀ i, i < n → f (T i - 97) = nI i := by
  have key : ∃ r, lp (fun s => O_findPlaces_b1 s.1 s.2) fuel (0, σ) = some r ∧ ∃ f, r = mset σ 5 f ∧ ∀ i, i < n → f (T i - 97) = nI i := by
    refine lp_for n (fun j s => ∃ f, s = (nI j, mset σ 5 f) ∧ ∀ i, i < j → f (T i - 97) = nI i) _ _ 0 (by omega) ⟨σ 5, by rw [mset_self]; rfl, fun i hi => by omega⟩ (by omega) ?_ ?_
    · intro j s hj ⟨f, e, hf⟩
      subst e
      left
      have hTj := hR.1 j hj
      have e97 : nI (T j) - 97 = nI (T j - 97) := pk_sub (b := 97) hTj.1
      have e0 : mset σ 5 f 0 = σ 0 := mset_ne (by omega)
      refine ⟨(nI (j + 1), mset σ 5 (upd f (T j - 97) (nI j))), ?_, _, rfl, fun i hi => ?_⟩
      · unfold O_findPlaces_b1
        refine ifn (by show ¬ (mset σ 5 f) 0 5 ≤ nI j; rw [e0, h5]; exact nI_ge hj (by omega)) ?_
        refine ob (a := nI (T j)) (by show rd (mset σ 5 f) 2 (nI j) = _; rw [rdT (N := 8) rfl (by omega) (by omega), mset_ne (by omega), hT j hj]) ?_
        refine lti e97 ?_
        refine ob (a := mset σ 5 (upd f (T j - 97) (nI j))) ?_ (lti (nI_1 _) rfl)
        have i1 : O_isThing (nI (T j - 97)) (mset σ 5 f) = 1 := by
          rw [O_isThing_eq (by rw [e0]; exact h0), if_neg (nI_pos (by omega)), if_neg (nI_ge (by omega) (by omega))]
        refine ifn (by show ¬ O_isThing (nI (T j - 97)) (mset σ 5 f) = 0; rw [i1]; decide) ?_
        refine ob (a := mset σ 5 (upd f (T j - 97) (nI j))) ?_ rfl
        show wr (mset σ 5 f) 5 (nI (T j - 97)) (nI j) = _
        rw [wrT (N := 8) rfl (by omega) (by omega), mput_mset]
      · rw [upd_at]
        by_cases q : i = j
        · rw [if_pos (by rw [q]), q]
        · have := hR.1 i (by omega)
          have h2 := hR.2 i j (by omega) hj
          rw [if_neg (by omega)]; exact hf i (by omega)
    · intro s ⟨f, e, hf⟩
      subst e
      refine ⟨_, ?_, f, rfl, hf⟩
      unfold O_findPlaces_b1
      exact ifp (by show (mset σ 5 f) 0 5 ≤ nI n; rw [mset_ne (by omega), h5]; exact nI_le (Nat.le_refl _) (by omega)) rfl
  obtain ⟨r, k1, f, k2, k3⟩ := key
  refine ⟨f, ?_, k3⟩
  unfold O_findPlaces
  refine ob k1 ?_
  rw [k2]
theorem sbs_math {n : Nat} {T : Nat → Nat} (hR : Row0 n n T) {g k a b : Nat} (hk : k = ((List.range n).filter (fun x => g.testBit x)).length) (pos : Nat → Nat) (hp : ∀ x, x < n → pos x < n ∧ (rwT n T).getD (pos x) 0 = x) (hab : a ≤ b) (ha : ∃ x, x < n ∧ g.testBit x = true ∧ pos x = a) (hb : ∃ x, x < n ∧ g.testBit x = true ∧ pos x = b) (hall : ∀ x, x < n → g.testBit x = true → a ≤ pos x ∧ pos x ≤ b) : Cons (g &&& fullM n) (rwT n T) ↔ b - a + 1 = k := by
  obtain ⟨r1, r2⟩ := rwT_row hR
  have hS : ∀ x, (g &&& fullM n).testBit x = true ↔ (g.testBit x = true ∧ x < n) := fun x => and_full_bit
  have hRx : ∀ p, p < n → (rwT n T).getD p 0 < n := fun p hp2 => by
    refine (r2 _).mp (getD_mem (by rw [rwT_len]; exact hp2))
  have hinj : ∀ p q, p < n → q < n → (rwT n T).getD p 0 = (rwT n T).getD q 0 → p = q := fun p q hp2 hq2 e => by
    refine Classical.byContradiction (fun hne => ?_)
    unfold List.Nodup at r1
    rw [List.pairwise_iff_getElem] at r1
    have hpl : p < (rwT n T).length := by rw [rwT_len]; exact hp2
    have hql : q < (rwT n T).length := by rw [rwT_len]; exact hq2
    rw [List.getD_eq_getElem?_getD, List.getD_eq_getElem?_getD, List.getElem?_eq_getElem hpl, List.getElem?_eq_getElem hql] at e
    have e : (rwT n T)[p] = (rwT n T)[q] := e
    rcases Nat.lt_or_gt_of_ne hne with h | h
    · exact r1 p q hpl hql h e
    · exact r1 q p hql hpl h e.symm
  have hpos : ∀ p, p < n → pos ((rwT n T).getD p 0) = p := fun p hp2 => by
    obtain ⟨u1, u2⟩ := hp _ (hRx p hp2)
    exact hinj _ _ u1 hp2 u2
  obtain ⟨xa, xa1, xa2, xa3⟩ := ha
  obtain ⟨xb, xb1, xb2, xb3⟩ := hb
  have hbn : b < n := by rw [← xb3]; exact (hp xb xb1).1
  -- k counts the places
  have hkp : k = ((List.range' a (b - a + 1)).filter (fun p => g.testBit ((rwT n T).getD p 0))).length := by
    rw [hk]
    have e : ((List.range' a (b - a + 1)).filter (fun p => g.testBit ((rwT n T).getD p 0))).length = (((List.range' a (b - a + 1)).filter (fun p => g.testBit ((rwT n T).getD p 0))).map (fun p => (rwT n T).getD p 0)).length := by simp
    rw [e]
    refine len_same (List.Pairwise.filter _ List.nodup_range) ?_ (fun x => ?_)
    · unfold List.Nodup
      rw [List.pairwise_map]
      refine List.Pairwise.imp_of_mem ?_ (List.Pairwise.filter _ (List.nodup_range' (s := a) (n := b - a + 1)))
      intro p q hp2 hq2 hne e2
      have h1 := (List.mem_filter.mp hp2).1
      have h2 := (List.mem_filter.mp hq2).1
      rw [List.mem_range'_1] at h1 h2
      exact hne (hinj p q (by omega) (by omega) e2)
    · rw [List.mem_filter, List.mem_range, List.mem_map]
      constructor
      · rintro ⟨u1, u2⟩
        refine ⟨pos x, ?_, (hp x u1).2⟩
        rw [List.mem_filter, List.mem_range'_1, (hp x u1).2]
        have := hall x u1 u2
        exact ⟨by omega, u2⟩
      · rintro ⟨p, hp2, e2⟩
        rw [List.mem_filter, List.mem_range'_1] at hp2
        have := hRx p (by omega)
        rw [e2] at this hp2
        exact ⟨this, hp2.2⟩
  have hlen : (List.range' a (b - a + 1)).length = b - a + 1 := List.length_range'
  have hiff : b - a + 1 = k ↔ ∀ p ∈ List.range' a (b - a + 1), g.testBit ((rwT n T).getD p 0) = true := by
    rw [hkp, ← List.length_filter_eq_length_iff, hlen]
    exact ⟨fun e => e.symm, fun e => e.symm⟩
  rw [hiff, cons_int]
  constructor
  · intro h p hp2
    rw [List.mem_range'_1] at hp2
    have hga : g.testBit ((rwT n T).getD a 0) = true := by rw [← xa3, (hp xa xa1).2]; exact xa2
    have hgb : g.testBit ((rwT n T).getD b 0) = true := by rw [← xb3, (hp xb xb1).2]; exact xb2
    by_cases q1 : p = a
    · rw [q1]; exact hga
    · by_cases q2 : p = b
      · rw [q2]; exact hgb
      · refine ((hS _).mp (h a p b (by omega) (by omega) (by rw [rwT_len]; exact hbn) ?_ ?_)).1
        · exact (hS _).mpr ⟨hga, hRx a (by omega)⟩
        · exact (hS _).mpr ⟨hgb, hRx b hbn⟩
  · intro h p q s hpq hqs hs h1 h2
    rw [rwT_len] at hs
    have g1 := (hS _).mp h1
    have g2 := (hS _).mp h2
    have b1 := hall _ g1.2 g1.1
    have b2 := hall _ g2.2 g2.1
    rw [hpos p (by omega)] at b1
    rw [hpos s hs] at b2
    exact (hS _).mpr ⟨h q (by rw [List.mem_range'_1]; omega), hRx q (by omega)⟩
theorem sbs_ok {σ : Mem} {n : Nat} {T : Nat → Nat} (hn : n ≤ 8) (h0 : σ 0 0 = nI n) (hR : Row0 n n T) (hf : ∀ i, i < n → σ 5 (T i - 97) = nI i) {g : Nat} (hg : g < 256) : O_isSideBySide (nI g) σ = some (if cnB (g &&& fullM n) (rwT n T) = true then 1 else 0) := by
  obtain ⟨r1, r2⟩ := rwT_row hR
  have hex : ∀ x, ∃ p, x < n → p < n ∧ (rwT n T).getD p 0 = x ∧ σ 5 x = nI p := fun x => by
    by_cases hx : x < n
    · obtain ⟨p, hp, e⟩ := List.mem_iff_getElem.mp ((r2 x).mpr hx)
      rw [rwT_len] at hp
      have eg : (rwT n T).getD p 0 = x := by rw [List.getD_eq_getElem?_getD, List.getElem?_eq_getElem (by rw [rwT_len]; exact hp), ← e]; rfl
      refine ⟨p, fun _ => ⟨hp, eg, ?_⟩⟩
      rw [← eg, rwT_get hp]; exact hf p hp
    · exact ⟨0, fun q => absurd q hx⟩
  obtain ⟨pos, hpos⟩ := Classical.axiomOfChoice hex
  let cn : Nat → Nat := fun j => ((List.range j).filter (fun x => g.testBit x)).length
  have cns : ∀ j, cn (j + 1) = cn j + if g.testBit j = true then 1 else 0 := fun j => by
    show ((List.range (j + 1)).filter _).length = _
    rw [List.range_succ, List.filter_append, List.length_append]
    congr 1
    by_cases q : g.testBit j = true
    · rw [if_pos q]; simp [q]
    · rw [if_neg q]; simp [q]
  have cnl : ∀ j, cn j ≤ j := fun j => by
    have := List.length_filter_le (fun x => g.testBit x) (List.range j)
    rw [List.length_range] at this; exact this
  have key : ∃ r, lp (fun s => O_isSideBySide_b1 (nI g) σ s.1 s.2.1 s.2.2.1 s.2.2.2) fuel (8, -1, 0, 0) = some r ∧ r.2.2 = nI (cn n) ∧ ((cn n = 0) ∨ ∃ a b, r.1 = nI a ∧ r.2.1 = nI b ∧ a ≤ b ∧ b < n ∧ (∃ x, x < n ∧ g.testBit x = true ∧ pos x = a) ∧ (∃ x, x < n ∧ g.testBit x = true ∧ pos x = b) ∧ ∀ x, x < n → g.testBit x = true → a ≤ pos x ∧ pos x ≤ b) := by
    refine lp_for n (fun j s => s.2.2.2 = nI j ∧ s.2.2.1 = nI (cn j) ∧ ((cn j = 0 ∧ s.1 = 8 ∧ s.2.1 = -1 ∧ ∀ x, x < j → ¬ g.testBit x = true) ∨ ∃ a b, s.1 = nI a ∧ s.2.1 = nI b ∧ a ≤ b ∧ b < n ∧ (∃ x, x < j ∧ g.testBit x = true ∧ pos x = a) ∧ (∃ x, x < j ∧ g.testBit x = true ∧ pos x = b) ∧ ∀ x, x < j → g.testBit x = true → a ≤ pos x ∧ pos x ≤ b)) _ _ 0 (by omega) ⟨rfl, rfl, Or.inl ⟨rfl, rfl, rfl, fun x hx => by omega⟩⟩ (by omega) ?_ ?_
    · intro j s hj ⟨e1, e2, hD⟩
      obtain ⟨v1, v2, v3, v4⟩ := s
      simp only at e1 e2 hD
      subst e1 e2
      left
      have hgn : ¬ σ 0 0 ≤ nI j := by rw [h0]; exact nI_ge hj (by omega)
      obtain ⟨p1, p2, p3⟩ := hpos j hj
      have hcl := cnl j
      by_cases cb : g.testBit j = true
      · have hnz : ¬ ((nI g >>> (nI j &&& 31)) &&& 1) = 0 := fun q => by rw [tst_bit (by omega) (by omega)] at q; rw [q] at cb; cases cb
        have hr : rd σ 5 (nI j) = some (nI (pos j)) := by rw [rdT (N := 8) rfl (by omega) (by omega), p3]
        have c1 : cn (j + 1) = cn j + 1 := by rw [cns, if_pos cb]
        have fin : ∀ a b, (if nI (pos j) < v1 then nI (pos j) else v1) = nI a → (if v2 < nI (pos j) then nI (pos j) else v2) = nI b → O_isSideBySide_b1 (nI g) σ v1 v2 (nI (cn j)) (nI j) = some (.inl (nI a, nI b, nI (cn (j + 1)), nI (j + 1))) := fun a b ha hb => by
          unfold O_isSideBySide_b1
          refine ifn hgn ?_
          refine ob (a := (nI a, nI b, nI (cn (j + 1)))) ?_ ?_
          · refine ifn hnz ?_
            refine ob hr ?_
            refine lti ha ?_
            refine ob hr ?_
            refine lti hb ?_
            exact lti (by rw [c1]; exact nI_1 _) rfl
          · refine lti rfl ?_
            refine lti rfl ?_
            refine lti rfl ?_
            exact lti (nI_1 _) rfl
        rcases hD with ⟨d0, d1, d2, d3⟩ | ⟨a, b, d1, d2, d3, d4, d5, d6, d7⟩
        · subst d1 d2
          refine ⟨_, fin (pos j) (pos j) (if_pos (nI_lt (b := 8) (by omega) (by omega))) (if_pos ?_), rfl, rfl, Or.inr ⟨pos j, pos j, rfl, rfl, Nat.le_refl _, p1, ⟨j, by omega, cb, rfl⟩, ⟨j, by omega, cb, rfl⟩, fun x hx hxb => ?_⟩⟩
          · rw [Int32.lt_iff_toInt_lt, nI_toInt (by omega)]
            have e1 : (-1 : Int32).toInt = -1 := by decide
            rw [e1]; omega
          · by_cases q : x = j
            · rw [q]; exact ⟨Nat.le_refl _, Nat.le_refl _⟩
            · exact absurd hxb (d3 x (by omega))
        · subst d1 d2
          refine ⟨_, fin (min a (pos j)) (max b (pos j)) ?_ ?_, rfl, rfl, Or.inr ⟨min a (pos j), max b (pos j), rfl, rfl, by omega, by omega, ?_, ?_, fun x hx hxb => ?_⟩⟩
          · by_cases q : pos j < a
            · rw [if_pos (nI_lt q (by omega)), Nat.min_eq_right (by omega)]
            · rw [if_neg (nI_nlt (by omega) (by omega)), Nat.min_eq_left (by omega)]
          · by_cases q : b < pos j
            · rw [if_pos (nI_lt q (by omega)), Nat.max_eq_right (by omega)]
            · rw [if_neg (nI_nlt (by omega) (by omega)), Nat.max_eq_left (by omega)]
          · by_cases q : pos j < a
            · exact ⟨j, by omega, cb, by rw [Nat.min_eq_right (by omega)]⟩
            · obtain ⟨x, x1, x2, x3⟩ := d5
              exact ⟨x, by omega, x2, by rw [Nat.min_eq_left (by omega)]; exact x3⟩
          · by_cases q : b < pos j
            · exact ⟨j, by omega, cb, by rw [Nat.max_eq_right (by omega)]⟩
            · obtain ⟨x, x1, x2, x3⟩ := d6
              exact ⟨x, by omega, x2, by rw [Nat.max_eq_left (by omega)]; exact x3⟩
          · by_cases q : x = j
            · subst q; omega
            · have := d7 x (by omega) hxb; omega
      · have hz : ((nI g >>> (nI j &&& 31)) &&& 1) = 0 := (tst_bit (by omega) (by omega)).mpr (by simpa using cb)
        have c1 : cn (j + 1) = cn j := by rw [cns, if_neg cb]; rfl
        refine ⟨(v1, v2, nI (cn j), nI (j + 1)), ?_, rfl, by rw [c1], ?_⟩
        · unfold O_isSideBySide_b1
          refine ifn hgn ?_
          refine ob (a := (v1, v2, nI (cn j))) (ifp hz rfl) ?_
          refine lti rfl ?_
          refine lti rfl ?_
          refine lti rfl ?_
          exact lti (nI_1 _) rfl
        · have hx0 : ∀ x, x < j + 1 → g.testBit x = true → x < j := fun x hx hxb => by
            by_cases q : x = j
            · subst q; exact absurd hxb cb
            · omega
          rcases hD with ⟨d0, d1, d2, d3⟩ | ⟨a, b, d1, d2, d3, d4, ⟨x, x1, x2, x3⟩, ⟨y, y1, y2, y3⟩, d7⟩
          · left
            exact ⟨by rw [c1]; exact d0, d1, d2, fun x hx hxb => d3 x (hx0 x hx hxb) hxb⟩
          · right
            exact ⟨a, b, d1, d2, d3, d4, ⟨x, by omega, x2, x3⟩, ⟨y, by omega, y2, y3⟩, fun z hz2 hzb => d7 z (hx0 z hz2 hzb) hzb⟩
    · intro s ⟨e1, e2, hD⟩
      obtain ⟨v1, v2, v3, v4⟩ := s
      simp only at e1 e2 hD
      subst e1 e2
      refine ⟨(v1, v2, nI (cn n)), ?_, rfl, ?_⟩
      · unfold O_isSideBySide_b1
        exact ifp (by show σ 0 0 ≤ nI n; rw [h0]; exact nI_le (Nat.le_refl _) (by omega)) rfl
      · rcases hD with ⟨d0, -⟩ | d
        · exact Or.inl d0
        · exact Or.inr d
  obtain ⟨⟨v1, v2, v3⟩, k1, k2, k3⟩ := key
  simp only at k2 k3
  subst k2
  have hcl := cnl n
  have fin : ∀ b : Bool, cnB (g &&& fullM n) (rwT n T) = b → (if nI (cn n) < 2 then true else if ((v2 - v1) + 1) = nI (cn n) then true else false : Bool) = b → O_isSideBySide (nI g) σ = some (if cnB (g &&& fullM n) (rwT n T) = true then 1 else 0) := fun b hb hb2 => by
    unfold O_isSideBySide
    refine ob k1 ?_
    refine lti rfl ?_
    refine lti rfl ?_
    refine lti rfl ?_
    refine lti hb2 ?_
    rw [hb]
    exact lti rfl rfl
  by_cases c2 : cn n < 2
  · refine fin true (cnB_iff.mpr (cons_small (fun i j hi hj => ?_) r1)) (if_pos (nI_lt (b := 2) c2 (by omega)))
    refine Classical.byContradiction (fun hne => ?_)
    have hi2 := and_full_bit.mp hi
    have hj2 := and_full_bit.mp hj
    have := len_sub [i, j] ((List.range n).filter (fun x => g.testBit x)) (by simp; exact hne) (fun x hx => by
      simp at hx
      rw [List.mem_filter, List.mem_range]
      rcases hx with e | e
      · rw [e]; exact ⟨hi2.2, hi2.1⟩
      · rw [e]; exact ⟨hj2.2, hj2.1⟩)
    have h2 : 2 ≤ cn n := this
    omega
  · have hn2 : ¬ nI (cn n) < 2 := nI_nlt (b := 2) (by omega) (by omega)
    rcases k3 with k3 | ⟨a, b, d1, d2, d3, d4, d5, d6, d7⟩
    · omega
    · subst d1 d2
      have hm := sbs_math hR (g := g) (k := cn n) rfl pos (fun x hx => ⟨(hpos x hx).1, (hpos x hx).2.1⟩) d3 d5 d6 d7
      have e1 : (nI b - nI a) + 1 = nI (b - a + 1) := by rw [pk_sub d3, nI_1]
      by_cases q : b - a + 1 = cn n
      · refine fin true (cnB_iff.mpr (hm.mpr q)) ?_
        rw [if_neg hn2, e1, q]; exact if_pos rfl
      · have hf2 : cnB (g &&& fullM n) (rwT n T) = false := pB_f (fun w => q (hm.mp w))
        refine fin false hf2 ?_
        rw [if_neg hn2, e1]; exact if_neg (nI_ne (by omega) (by omega) q)

theorem sub_neg60 {sz k : Nat} (hsz : sz ≤ 60) (hk : k < 2 ^ 31) (h : sz < k) : nI sz - nI k < 0 := by
  rw [Int32.lt_iff_toInt_lt, Int32.toInt_sub, nI_toInt (by omega), nI_toInt hk]
  have e0 : (0 : Int32).toInt = 0 := by decide
  rw [e0, Int.bmod_eq_of_le (by omega) (by omega)]
  omega
theorem lN_big {n : Nat} (h : n < 2 ^ 40) : (lN n).toInt = (n : Int) := lg_ofNat_toInt (by omega)
theorem lN_ltB {a b : Nat} (ha : a < 2 ^ 40) (hb : b < 2 ^ 40) : lN a < lN b ↔ a < b := by
  rw [Int64.lt_iff_toInt_lt, lN_big ha, lN_big hb]; omega
theorem lN_leB {a b : Nat} (ha : a < 2 ^ 40) (hb : b < 2 ^ 40) : lN a ≤ lN b ↔ a ≤ b := by
  rw [Int64.le_iff_toInt_le, lN_big ha, lN_big hb]; omega
theorem has_eq {σ : Mem} {s sz : Nat} (hs : s < 4) (hsz : sz ≤ 60) (h8 : σ 8 s = nI sz) {a k : Nat} (ha : a < 2 ^ 31) (hk : k < 2 ^ 31) : S_hasItems (nI s) (nI a) (nI k) σ = some (if a + k ≤ sz then 1 else 0) := by
  have r8 : rd σ 8 (nI s) = some (nI sz) := by rw [rdT (N := 4) rfl hs (by omega), h8]
  unfold S_hasItems
  by_cases c : a + k ≤ sz
  · rw [if_pos c]
    refine ob (a := true) ?_ (lti rfl rfl)
    refine ifn (nI_pos ha) ?_
    refine ifn (nI_pos hk) ?_
    refine ob r8 ?_
    refine ifn ?_ rfl
    rw [pk_sub (by omega)]
    exact nI_nlt (by omega) (by omega)
  · rw [if_neg c]
    refine ob (a := false) ?_ (lti rfl rfl)
    refine ifn (nI_pos ha) ?_
    refine ifn (nI_pos hk) ?_
    refine ob r8 ?_
    refine ifp ?_ rfl
    by_cases q : k ≤ sz
    · rw [pk_sub q]; exact nI_lt (by omega) ha
    · exact Int32.lt_of_lt_of_le (sub_neg60 hsz hk (by omega)) (nI_pos' ha)
theorem has_neg {σ : Mem} {s : Nat} {x y : Int32} (h : x < 0 ∨ y < 0) : S_hasItems (nI s) x y σ = some 0 := by
  unfold S_hasItems
  refine ob (a := false) ?_ (lti rfl rfl)
  by_cases q : x < 0
  · exact ifp q rfl
  · refine ifn q ?_
    exact ifp (h.resolve_left q) rfl
theorem mcopy1 {μ : Mem} {s a k : Nat} (hs : s < 4) (hk : a + k ≤ 60) : ∃ f, lp (fun z => M_copy_b1 (nI s) (nI a) (nI k) z.1 z.2) fuel (0, μ) = some (mset μ 65 f) ∧ ∀ q, q < k → f q = μ 64 (60 * s + a + q) := by
  have key : ∃ r, lp (fun z => M_copy_b1 (nI s) (nI a) (nI k) z.1 z.2) fuel (0, μ) = some r ∧ ∃ f, r = mset μ 65 f ∧ ∀ q, q < k → f q = μ 64 (60 * s + a + q) := by
    refine lp_for k (fun j z => ∃ f, z = (nI j, mset μ 65 f) ∧ ∀ q, q < j → f q = μ 64 (60 * s + a + q)) _ _ 0 (by omega) ⟨μ 65, by rw [mset_self]; rfl, fun q hq => by omega⟩ (by omega) ?_ ?_
    · intro j z hj ⟨f, e, hf⟩
      subst e
      left
      refine ⟨(nI (j + 1), mset μ 65 (upd f j (μ 64 (60 * s + a + j)))), ?_, _, rfl, fun q hq => ?_⟩
      · unfold M_copy_b1
        refine ifn (nI_ge hj (by omega)) ?_
        refine ob (a := μ 64 (60 * s + a + j)) ?_ ?_
        · show rd (mset μ 65 f) 64 (60 * nI s + nI a + nI j) = _
          rw [L_60, xI_mul, nI_add, nI_add, rdT (N := 240) rfl (by omega) (by omega), mset_ne (by omega)]
        · refine ob (a := mset μ 65 (upd f j (μ 64 (60 * s + a + j)))) ?_ (lti (nI_1 _) rfl)
          show wr (mset μ 65 f) 65 (nI j) _ = _
          rw [wrT (N := 60) rfl (by omega) (by omega), mput_mset]
      · rw [upd_at]
        by_cases c : q = j
        · rw [if_pos c, c]
        · rw [if_neg c]; exact hf q (by omega)
    · intro z ⟨f, e, hf⟩
      subst e
      refine ⟨_, ?_, f, rfl, hf⟩
      unfold M_copy_b1
      exact ifp (nI_le (Nat.le_refl _) (by omega)) rfl
  obtain ⟨r, k1, f, k2, k3⟩ := key
  exact ⟨f, by rw [k1, k2], k3⟩
theorem mcopy2 {τ : Mem} {s b k : Nat} (hs : s < 4) (hk : b + k ≤ 60) : ∃ g, lp (fun z => M_copy_b2 (nI s) (nI b) (nI k) z.1 z.2) fuel (0, τ) = some (mset τ 64 g) ∧ (∀ q, q < k → g (60 * s + b + q) = τ 65 q) ∧ ∀ p, (p < 60 * s + b ∨ 60 * s + b + k ≤ p) → g p = τ 64 p := by
  have key : ∃ r, lp (fun z => M_copy_b2 (nI s) (nI b) (nI k) z.1 z.2) fuel (0, τ) = some r ∧ ∃ g, r = mset τ 64 g ∧ (∀ q, q < k → g (60 * s + b + q) = τ 65 q) ∧ ∀ p, (p < 60 * s + b ∨ 60 * s + b + k ≤ p) → g p = τ 64 p := by
    refine lp_for k (fun j z => ∃ g, z = (nI j, mset τ 64 g) ∧ (∀ q, q < j → g (60 * s + b + q) = τ 65 q) ∧ ∀ p, (p < 60 * s + b ∨ 60 * s + b + j ≤ p) → g p = τ 64 p) _ _ 0 (by omega) ⟨τ 64, by rw [mset_self]; rfl, fun q hq => by omega, fun _ _ => rfl⟩ (by omega) ?_ ?_
    · intro j z hj ⟨g, e, h1, h2⟩
      subst e
      left
      refine ⟨(nI (j + 1), mset τ 64 (upd g (60 * s + b + j) (τ 65 j))), ?_, _, rfl, fun q hq => ?_, fun p hp => ?_⟩
      · unfold M_copy_b2
        refine ifn (nI_ge hj (by omega)) ?_
        refine ob (a := τ 65 j) ?_ ?_
        · show rd (mset τ 64 g) 65 (nI j) = _
          rw [rdT (N := 60) rfl (by omega) (by omega), mset_ne (by omega)]
        · refine ob (a := mset τ 64 (upd g (60 * s + b + j) (τ 65 j))) ?_ (lti (nI_1 _) rfl)
          show wr (mset τ 64 g) 64 (60 * nI s + nI b + nI j) _ = _
          rw [L_60, xI_mul, nI_add, nI_add, wrT (N := 240) rfl (by omega) (by omega), mput_mset]
      · rw [upd_at]
        by_cases c : q = j
        · rw [if_pos (by omega), c]
        · rw [if_neg (by omega)]; exact h1 q (by omega)
      · rw [upd_at, if_neg (by omega)]; exact h2 p (by omega)
    · intro z ⟨g, e, h1, h2⟩
      subst e
      refine ⟨_, ?_, g, rfl, h1, h2⟩
      unfold M_copy_b2
      exact ifp (nI_le (Nat.le_refl _) (by omega)) rfl
  obtain ⟨r, k1, g, k2, k3⟩ := key
  exact ⟨g, by rw [k1, k2], k3⟩
theorem s_copy {σ μ : Mem} (h : Rel σ μ) (x y z w n : Int32) : ∃ a σ' μ', O_copy x y z w n σ = some (a, σ') ∧ M_copy x y z w n μ = some (a, μ') ∧ Rel σ' μ' := by
  have zz : ¬ (1 : Int32) = 0 := by decide
  have hbad : ((if O_isSheet x = 0 then true else if O_isSheet z = 0 then true else false : Bool) = true) → ((if M_isSheet x = 0 then true else if M_isSheet z = 0 then true else false : Bool) = true) → ∃ a σ' μ', O_copy x y z w n σ = some (a, σ') ∧ M_copy x y z w n μ = some (a, μ') ∧ Rel σ' μ' := fun q1 q2 => by
    refine ⟨-2, σ, μ, ?_, ?_, h⟩
    · unfold O_copy; exact lti q1 (ifp rfl rfl)
    · unfold M_copy; exact lti q2 (ifp rfl rfl)
  rcases sh_cases x with ⟨s, hs, rfl, s1, s2⟩ | ⟨s1, s2⟩
  rotate_left
  · exact hbad (by rw [s1]; rfl) (by rw [s2]; rfl)
  rcases sh_cases z with ⟨t, ht, rfl, t1, t2⟩ | ⟨t1, t2⟩
  rotate_left
  · exact hbad (by rw [s1, t1, if_neg zz]; rfl) (by rw [s2, t2, if_neg zz]; rfl)
  have b1 : (if O_isSheet (nI s) = 0 then true else if O_isSheet (nI t) = 0 then true else false : Bool) = false := by rw [s1, t1, if_neg zz, if_neg zz]
  have b2 : (if M_isSheet (nI s) = 0 then true else if M_isSheet (nI t) = 0 then true else false : Bool) = false := by rw [s2, t2, if_neg zz, if_neg zz]
  have r7 : ∀ s, s < 4 → rd σ 7 (nI s) = some (σ 7 s) := fun s hs => rdT (N := 4) rfl hs (by omega)
  have r61 : ∀ s, s < 4 → rd μ 61 (nI s) = some (μ 61 s) := fun s hs => rdT (N := 4) rfl hs (by omega)
  have lost1 : ∀ s, s < 4 → σ 7 s = -1 → S_isLost (nI s) σ = some 1 := fun s hs e => ob (r7 s hs) (lti (by rw [e]; rfl) rfl)
  have lost0 : ∀ s f, s < 4 → f ≤ 2 → σ 7 s = nI f → S_isLost (nI s) σ = some 0 := fun s f hs hf e => ob (r7 s hs) (lti (by rw [e]; exact if_neg (nI_nm1 (by omega))) rfl)
  rcases h.2.2.2 s hs with ⟨u1, u2⟩ | ⟨f, sz, c1, c2, c3, c4, c5, c6, c7, c8⟩
  · refine ⟨(-10) - 1, _, _, ?_, ?_, h.found 1⟩
    · unfold O_copy
      refine lti b1 ?_
      refine ifn (by decide) ?_
      refine ob (lost1 s hs u1) ?_
      refine ob (a := true) (ifn (by decide) rfl) ?_
      refine ifp rfl ?_
      exact lti rfl (lti rfl (lti rfl rfl))
    · unfold M_copy
      refine lti b2 ?_
      refine ifn (by decide) ?_
      refine ob (r61 s hs) ?_
      refine ob (a := true) (ifp u2 rfl) ?_
      refine ifp rfl ?_
      exact lti rfl (lti rfl (lti rfl rfl))
  rcases h.2.2.2 t ht with ⟨u1, u2⟩ | ⟨f', tz, d1, d2, d3, d4, d5, d6, d7, d8⟩
  · refine ⟨(-10) - 1, _, _, ?_, ?_, h.found 1⟩
    · unfold O_copy
      refine lti b1 ?_
      refine ifn (by decide) ?_
      refine ob (lost0 s f hs c1 c3) ?_
      refine ob (a := true) (ifp rfl (ob (lost1 t ht u1) (ifn (by decide) rfl))) ?_
      refine ifp rfl ?_
      exact lti rfl (lti rfl (lti rfl rfl))
    · unfold M_copy
      refine lti b2 ?_
      refine ifn (by decide) ?_
      refine ob (r61 s hs) ?_
      refine ob (a := true) (ifn (by rw [c4]; decide) (ob (r61 t ht) (ifp u2 rfl))) ?_
      refine ifp rfl ?_
      exact lti rfl (lti rfl (lti rfl rfl))
  have preO : ∀ {res : Option (Int32 × Mem)}, (if nI f = nI f' then (S_hasItems (nI s) y n σ).bind (fun vq44 => ((if vq44 = 0 then some true else (S_hasItems (nI t) w n σ).bind (fun vq53 => if vq53 = 0 then some true else some false) : Option (Bool))).bind (fun bq48 => if bq48 = true then lt (O_found 2 σ) (fun q => lt q.1 (fun vq61 => lt q.2 (fun σ62 => some (vq61, σ62)))) else (S_move (nI s) y (nI t) w n σ).bind (fun σ66 => some (1, σ66)))) else lt (O_found 4 σ) (fun q => lt q.1 (fun vq71 => lt q.2 (fun σ72 => some (vq71, σ72))))) = res → O_copy (nI s) y (nI t) w n σ = res := fun {res} hh => by
    unfold O_copy
    refine lti b1 ?_
    refine ifn (by decide) ?_
    refine ob (lost0 s f hs c1 c3) ?_
    refine ob (a := false) (ifp rfl (ob (lost0 t f' ht d1 d3) (ifp rfl rfl))) ?_
    refine ifn (by decide) ?_
    refine ob (a := nI f) (ob (r7 s hs) (by rw [c3])) ?_
    refine ob (a := nI f') (ob (r7 t ht) (by rw [d3])) ?_
    exact hh
  have r63s : rd μ 63 (nI s) = some (nI sz) := by rw [rdT (N := 4) rfl hs (by omega), c7]
  have r63t : rd μ 63 (nI t) = some (nI tz) := by rw [rdT (N := 4) rfl ht (by omega), d7]
  have preM : ∀ {res : Option (Int32 × Mem)}, (if nI f = nI f' then ((if y < 0 then some true else if w < 0 then some true else if n < 0 then some true else (rd μ 63 (nI s)).bind (fun vq45 => if 0 < (lg_cmp ((y.toInt64) + (n.toInt64)) (vq45.toInt64)) then some true else (rd μ 63 (nI t)).bind (fun vq49 => if (lg_cmp ((w.toInt64) + (n.toInt64)) (vq49.toInt64)) ≤ 0 then some false else some true)) : Option (Bool))).bind (fun bq36 => if bq36 = true then lt (M_meets 2 μ) (fun q => lt q.1 (fun vq55 => lt q.2 (fun σ56 => some (vq55, σ56)))) else (lp (fun s' => M_copy_b1 (nI s) y n s'.1 s'.2) fuel (0, μ)).bind (fun σ62 => (lp (fun s' => M_copy_b2 (nI t) w n s'.1 s'.2) fuel (0, σ62)).bind (fun σ79 => some (1, σ79)))) else lt (M_meets 4 μ) (fun q => lt q.1 (fun vq95 => lt q.2 (fun σ96 => some (vq95, σ96))))) = res → M_copy (nI s) y (nI t) w n μ = res := fun {res} hh => by
    unfold M_copy
    refine lti b2 ?_
    refine ifn (by decide) ?_
    refine ob (r61 s hs) ?_
    refine ob (a := false) (ifn (by rw [c4]; decide) (ob (r61 t ht) (ifn (by rw [d4]; decide) rfl))) ?_
    refine ifn (by decide) ?_
    refine ob (a := nI f) (by rw [rdT (N := 4) rfl hs (by omega), c5]) ?_
    refine ob (a := nI f') (by rw [rdT (N := 4) rfl ht (by omega), d5]) ?_
    exact hh
  by_cases cf : f = f'
  rotate_left
  · refine ⟨(-10) - 4, _, _, preO ?_, preM ?_, h.found 4⟩
    · exact ifn (nI_ne (by omega) (by omega) cf) (lti rfl (lti rfl (lti rfl rfl)))
    · exact ifn (nI_ne (by omega) (by omega) cf) (lti rfl (lti rfl (lti rfl rfl)))
  subst cf
  have finding2 : (S_hasItems (nI s) y n σ = some 0 ∨ (S_hasItems (nI s) y n σ = some 1 ∧ S_hasItems (nI t) w n σ = some 0)) → ((if y < 0 then some true else if w < 0 then some true else if n < 0 then some true else (rd μ 63 (nI s)).bind (fun vq45 => if 0 < (lg_cmp ((y.toInt64) + (n.toInt64)) (vq45.toInt64)) then some true else (rd μ 63 (nI t)).bind (fun vq49 => if (lg_cmp ((w.toInt64) + (n.toInt64)) (vq49.toInt64)) ≤ 0 then some false else some true)) : Option (Bool)) = some true) → ∃ a σ' μ', O_copy (nI s) y (nI t) w n σ = some (a, σ') ∧ M_copy (nI s) y (nI t) w n μ = some (a, μ') ∧ Rel σ' μ' := fun hO hM => by
    refine ⟨(-10) - 2, _, _, preO ?_, preM ?_, h.found 2⟩
    · refine ifp rfl ?_
      rcases hO with q | ⟨q1, q2⟩
      · refine ob q ?_
        exact ob (a := true) (ifp rfl rfl) (ifp rfl (lti rfl (lti rfl (lti rfl rfl))))
      · refine ob q1 ?_
        exact ob (a := true) (ifn (by decide) (ob q2 (ifp rfl rfl))) (ifp rfl (lti rfl (lti rfl (lti rfl rfl))))
    · refine ifp rfl ?_
      exact ob hM (ifp rfl (lti rfl (lti rfl (lti rfl rfl))))
  -- a negative number among them
  have hS01 : ∀ s x y, S_hasItems s x y σ = some 0 ∨ ¬ (x < 0 ∨ y < 0) := fun s x y => by
    by_cases q : x < 0 ∨ y < 0
    · left
      unfold S_hasItems
      refine ob (a := false) ?_ (lti rfl rfl)
      by_cases q2 : x < 0
      · exact ifp q2 rfl
      · exact ifn q2 (ifp (q.resolve_left q2) rfl)
    · exact Or.inr q
  by_cases qn : n < 0
  · refine finding2 (Or.inl ?_) ?_
    · exact (hS01 _ _ _).resolve_right (fun q => q (Or.inr qn))
    · by_cases q1 : y < 0
      · exact if_pos q1
      · rw [if_neg q1]
        by_cases q2 : w < 0
        · exact if_pos q2
        · rw [if_neg q2]; exact if_pos qn
  obtain ⟨k, hk, rfl⟩ := nI_of qn
  by_cases qy : y < 0
  · exact finding2 (Or.inl ((hS01 _ _ _).resolve_right (fun q => q (Or.inl qy)))) (if_pos qy)
  obtain ⟨a, ha, rfl⟩ := nI_of qy
  have hOs := has_eq hs c2 c6 ha hk
  have lsum : ∀ a k : Nat, a < 2 ^ 31 → k < 2 ^ 31 → (nI a).toInt64 + (nI k).toInt64 = lN (a + k) := fun a k ha hk => by rw [nI_l ha, nI_l hk, lN_add]
  by_cases qw : w < 0
  · refine finding2 ?_ (by rw [if_neg qy]; exact if_pos qw)
    by_cases q : a + k ≤ sz
    · rw [if_pos q] at hOs
      exact Or.inr ⟨hOs, (hS01 _ _ _).resolve_right (fun q => q (Or.inl qw))⟩
    · rw [if_neg q] at hOs; exact Or.inl hOs
  obtain ⟨b, hb, rfl⟩ := nI_of qw
  have hOt := has_eq ht d2 d6 hb hk
  by_cases q1 : a + k ≤ sz
  rotate_left
  · rw [if_neg q1] at hOs
    refine finding2 (Or.inl hOs) ?_
    rw [if_neg qy, if_neg qw, if_neg qn]
    refine ob r63s ?_
    refine ifp ?_ rfl
    rw [lsum a k ha hk, nI_l (by omega), lg_cmp_gt, lN_ltB (by omega) (by omega)]; omega
  have g1 : ¬ 0 < lg_cmp ((nI a).toInt64 + (nI k).toInt64) ((nI sz).toInt64) := by
    rw [lsum a k ha hk, nI_l (by omega), lg_cmp_gt, lN_ltB (by omega) (by omega)]; omega
  rw [if_pos q1] at hOs
  by_cases q2 : b + k ≤ tz
  rotate_left
  · rw [if_neg q2] at hOt
    refine finding2 (Or.inr ⟨hOs, hOt⟩) ?_
    rw [if_neg qy, if_neg qw, if_neg qn]
    refine ob r63s ?_
    refine ifn g1 ?_
    refine ob r63t ?_
    refine ifn ?_ rfl
    rw [lsum b k hb hk, nI_l (by omega), lg_cmp_le, lN_leB (by omega) (by omega)]; omega
  rw [if_pos q2] at hOt
  obtain ⟨f1, m1, m2⟩ := mcopy1 (μ := μ) (s := s) (a := a) (k := k) hs (by omega)
  obtain ⟨g, m3, m4, m5⟩ := mcopy2 (τ := mset μ 65 f1) (s := t) (b := b) (k := k) ht (by omega)
  have hmv : S_move (nI s) (nI a) (nI t) (nI b) (nI k) σ = some (mset σ 9 (va_cpy (σ 9) (σ 9) (s * 60 + a) (t * 60 + b) k)) := by
    unfold S_move
    refine ob (a := mset σ 9 (va_cpy (σ 9) (σ 9) (s * 60 + a) (t * 60 + b) k)) ?_ rfl
    unfold cpy
    have hl : lenOf 9 = 240 := rfl
    rw [L_60, xI_mul, xI_mul, nI_add, nI_add, nI_clamp (by omega), nI_clamp (by omega), nI_clamp (by omega), hl, if_neg]
    rintro (e | e | e | e | e)
    · exact nI_pos (by omega) e
    · exact nI_pos (by omega) e
    · exact nI_pos (by omega) e
    · omega
    · omega
  refine ⟨1, mset σ 9 (va_cpy (σ 9) (σ 9) (s * 60 + a) (t * 60 + b) k), mset (mset μ 65 f1) 64 g, preO ?_, preM ?_, h.sheets (fun j _ _ q => mset_ne q) (fun j _ _ _ q q' => by rw [mset_ne q, mset_ne q']) (fun s' hs' => ?_)⟩
  · refine ifp rfl ?_
    refine ob hOs ?_
    refine ob (a := false) (ifn (by decide) (ob hOt (ifn (by decide) rfl))) ?_
    refine ifn (by decide) ?_
    exact ob hmv rfl
  · refine ifp rfl ?_
    refine ob (a := false) ?_ ?_
    · rw [if_neg qy, if_neg qw, if_neg qn]
      refine ob r63s ?_
      refine ifn g1 ?_
      refine ob r63t ?_
      refine ifp ?_ rfl
      rw [lsum b k hb hk, nI_l (by omega), lg_cmp_le, lN_leB (by omega) (by omega)]; omega
    · refine ifn (by decide) ?_
      refine ob m1 ?_
      exact ob m3 rfl
  · unfold Sh1
    rw [mset_ne (j := 7) (by omega), mset_ne (j := 8) (by omega), mset_eq, mset_ne (j := 61) (by omega), mset_ne (j := 61) (by omega), mset_ne (j := 62) (by omega), mset_ne (j := 62) (by omega), mset_ne (j := 63) (by omega), mset_ne (j := 63) (by omega), mset_eq]
    rcases h.2.2.2 s' hs' with e | ⟨f3, sz3, e1, e2, e3, e4, e5, e6, e7, e8⟩
    · exact Or.inl e
    · right
      refine ⟨f3, sz3, e1, e2, e3, e4, e5, e6, e7, fun i hi => ?_⟩
      by_cases q : s' = t ∧ b ≤ i ∧ i < b + k
      · obtain ⟨q0, q3, q4⟩ := q
        subst q0
        rw [pk_cpy_in (by omega) (by omega)]
        have h1 := m4 (i - b) (by omega)
        rw [mset_eq, m2 (i - b) (by omega)] at h1
        rw [show 60 * s' + i = 60 * s' + b + (i - b) by omega, h1]
        rw [show s * 60 + a + (s' * 60 + i - (s' * 60 + b)) = s * 60 + (a + (i - b)) by omega, c8 (a + (i - b)) (by omega)]
        congr 1; omega
      · rw [pk_cpy_out (by omega), m5 _ (by omega), mset_ne (by omega)]
        exact e8 i hi

def zf (f : Nat → Int32) (b j : Nat) : Nat → Int32 := fun q => if b ≤ q ∧ q < b + j then 0 else f q
theorem zf_0 {f : Nat → Int32} {b : Nat} : zf f b 0 = f := by funext q; unfold zf; rw [if_neg (by omega)]
theorem zf_s {f : Nat → Int32} {b j : Nat} : upd (zf f b j) (b + j) 0 = zf f b (j + 1) := by
  funext q
  rw [upd_at]
  unfold zf
  by_cases c : q = b + j
  · rw [if_pos c, if_pos (by omega)]
  · rw [if_neg c]
    by_cases c2 : b ≤ q ∧ q < b + j
    · rw [if_pos c2, if_pos (by omega)]
    · rw [if_neg c2, if_neg (by omega)]
theorem lay_loop {τ : Mem} {s k : Nat} (hs : s < 4) (hk : k ≤ 60) : lp (fun s' => S_lay_b1 (nI s) (nI k) s'.1 s'.2) fuel (0, τ) = some (mset τ 9 (zf (τ 9) (s * 60) k)) := by
  have key : ∃ r, lp (fun s' => S_lay_b1 (nI s) (nI k) s'.1 s'.2) fuel (0, τ) = some r ∧ r = mset τ 9 (zf (τ 9) (s * 60) k) := by
    refine lp_for k (fun j z => z = (nI j, mset τ 9 (zf (τ 9) (s * 60) j))) _ _ 0 (by omega) (by rw [zf_0, mset_self]; rfl) (by omega) ?_ ?_
    · intro j z hj hz
      subst hz
      left
      refine ⟨_, ?_, rfl⟩
      unfold S_lay_b1
      refine ifn (nI_ge hj (by omega)) ?_
      refine ob (a := mset τ 9 (zf (τ 9) (s * 60) (j + 1))) ?_ (lti (nI_1 _) rfl)
      show wr (mset τ 9 _) 9 (nI s * 60 + nI j) 0 = _
      rw [L_60, xI_mul, nI_add, wrT (N := 240) rfl (by omega) (by omega), mput_mset, zf_s]
    · intro z hz
      subst hz
      refine ⟨_, ?_, rfl⟩
      unfold S_lay_b1
      exact ifp (nI_le (Nat.le_refl _) (by omega)) rfl
  obtain ⟨r, k1, k2⟩ := key
  rw [k1, k2]
theorem msheet_loop {τ : Mem} {s : Nat} (hs : s < 4) : lp (fun s' => M_sheet_b1 (nI s) s'.1 s'.2) fuel (0, τ) = some (mset τ 64 (zf (τ 64) (60 * s) 60)) := by
  have key : ∃ r, lp (fun s' => M_sheet_b1 (nI s) s'.1 s'.2) fuel (0, τ) = some r ∧ r = mset τ 64 (zf (τ 64) (60 * s) 60) := by
    refine lp_for 60 (fun j z => z = (nI j, mset τ 64 (zf (τ 64) (60 * s) j))) _ _ 0 (by omega) (by rw [zf_0, mset_self]; rfl) (by omega) ?_ ?_
    · intro j z hj hz
      subst hz
      left
      refine ⟨_, ?_, rfl⟩
      unfold M_sheet_b1
      refine ifn (nI_ge (b := 60) hj (by omega)) ?_
      refine ob (a := mset τ 64 (zf (τ 64) (60 * s) (j + 1))) ?_ (lti (nI_1 _) rfl)
      show wr (mset τ 64 _) 64 (60 * nI s + nI j) 0 = _
      rw [L_60, xI_mul, nI_add, wrT (N := 240) rfl (by omega) (by omega), mput_mset, zf_s]
    · intro z hz
      subst hz
      refine ⟨_, ?_, rfl⟩
      unfold M_sheet_b1
      exact ifp (nI_le (a := 60) (Nat.le_refl _) (by omega)) rfl
  obtain ⟨r, k1, k2⟩ := key
  rw [k1, k2]
theorem s_sheet {σ μ : Mem} (h : Rel σ μ) (x y z : Int32) : ∃ a σ' μ', O_sheet x y z σ = some (a, σ') ∧ M_sheet x y z μ = some (a, μ') ∧ Rel σ' μ' := by
  have zz : ¬ (1 : Int32) = 0 := by decide
  have hbad : ((if O_isSheet x = 0 then true else if O_isForm y = 0 then true else if z ≤ 60 then false else true : Bool) = true) → ((if M_isSheet x = 0 then true else if M_in y 0 2 = 0 then true else if z ≤ 60 then false else true : Bool) = true) → ∃ a σ' μ', O_sheet x y z σ = some (a, σ') ∧ M_sheet x y z μ = some (a, μ') ∧ Rel σ' μ' := fun q1 q2 => by
    refine ⟨-2, σ, μ, ?_, ?_, h⟩
    · unfold O_sheet; exact lti q1 (ifp rfl rfl)
    · unfold M_sheet; exact lti q2 (ifp rfl rfl)
  rcases sh_cases x with ⟨s, hs, rfl, s1, s2⟩ | ⟨s1, s2⟩
  · rcases form_cases y with ⟨f, hf, rfl, f1, f2⟩ | ⟨f1, f2⟩
    · by_cases cz : z ≤ 60
      · have b1 : (if O_isSheet (nI s) = 0 then true else if O_isForm (nI f) = 0 then true else if z ≤ 60 then false else true : Bool) = false := by rw [s1, f1, if_neg zz, if_neg zz]; exact if_pos cz
        have b2 : (if M_isSheet (nI s) = 0 then true else if M_in (nI f) 0 2 = 0 then true else if z ≤ 60 then false else true : Bool) = false := by rw [s2, f2, if_neg zz, if_neg zz]; exact if_pos cz
        by_cases c0 : 0 ≤ z
        · have hz0 : ¬ z < 0 := Int32.not_lt.mpr c0
          obtain ⟨k, k1, k2⟩ := nI_of hz0
          subst k2
          have hk : k ≤ 60 := (nI_leI (b := 60) k1 (by omega)).mp cz
          let σ3 := mput (mput σ 7 s (nI f)) 8 s (nI k)
          let μ3 := mput (mput (mput μ 61 s 1) 62 s (nI f)) 63 s (nI k)
          have e7 : mset σ3 9 (zf (σ3 9) (s * 60) k) 7 = upd (σ 7) s (nI f) := by rw [mset_ne (by omega)]; show mput _ _ _ _ _ = _; rw [mput_ne 7 (by omega), mput_2]
          have e8 : mset σ3 9 (zf (σ3 9) (s * 60) k) 8 = upd (σ 8) s (nI k) := by rw [mset_ne (by omega)]; show mput _ _ _ _ _ = _; rw [mput_2, mput_ne 8 (by omega)]
          have e39 : σ3 9 = σ 9 := by show mput _ _ _ _ _ = _; rw [mput_ne 9 (by omega), mput_ne 9 (by omega)]
          have e61 : mset μ3 64 (zf (μ3 64) (60 * s) 60) 61 = upd (μ 61) s 1 := by rw [mset_ne (by omega)]; show mput _ _ _ _ _ = _; rw [mput_ne 61 (by omega), mput_ne 61 (by omega), mput_2]
          have e62 : mset μ3 64 (zf (μ3 64) (60 * s) 60) 62 = upd (μ 62) s (nI f) := by rw [mset_ne (by omega)]; show mput _ _ _ _ _ = _; rw [mput_ne 62 (by omega), mput_2, mput_ne 62 (by omega)]
          have e63 : mset μ3 64 (zf (μ3 64) (60 * s) 60) 63 = upd (μ 63) s (nI k) := by rw [mset_ne (by omega)]; show mput _ _ _ _ _ = _; rw [mput_2, mput_ne 63 (by omega), mput_ne 63 (by omega)]
          have e364 : μ3 64 = μ 64 := by show mput _ _ _ _ _ = _; rw [mput_ne 64 (by omega), mput_ne 64 (by omega), mput_ne 64 (by omega)]
          refine ⟨nI k, mset σ3 9 (zf (σ3 9) (s * 60) k), mset μ3 64 (zf (μ3 64) (60 * s) 60), ?_, ?_, h.sheets (fun j q7 q8 q9 => ?_) (fun j q1 q2 q3 q4 _ => ?_) (fun s' hs' => ?_)⟩
          · unfold O_sheet
            refine lti b1 ?_
            refine ifn (by decide) ?_
            refine ifp c0 ?_
            refine ob (a := mset σ3 9 (zf (σ3 9) (s * 60) k)) ?_ rfl
            unfold S_lay
            refine ob (wrT (N := 4) rfl hs (by omega)) ?_
            refine ob (wrT (N := 4) rfl hs (by omega)) ?_
            exact ob (lay_loop hs hk) rfl
          · unfold M_sheet
            refine lti b2 ?_
            refine ifn (by decide) ?_
            refine ifp c0 ?_
            refine ob (wrT (N := 4) rfl hs (by omega)) ?_
            refine ob (wrT (N := 4) rfl hs (by omega)) ?_
            refine ob (wrT (N := 4) rfl hs (by omega)) ?_
            exact ob (msheet_loop hs) rfl
          · rw [mset_ne q9]; show mput _ _ _ _ _ = _; rw [mput_ne _ q8, mput_ne _ q7]
          · rw [mset_ne q4]; show mput _ _ _ _ _ = _; rw [mput_ne _ q3, mput_ne _ q2, mput_ne _ q1]
          · unfold Sh1
            rw [e7, e8, mset_eq, e61, e62, e63, mset_eq, e39, e364]
            by_cases q : s' = s
            · subst q
              right
              refine ⟨f, k, hf, hk, pk_us, pk_us, pk_us, pk_us, pk_us, fun i hi => ?_⟩
              unfold zf
              rw [if_pos (by omega), if_pos (by omega)]
            · rw [pk_un q, pk_un q, pk_un q, pk_un q, pk_un q]
              rcases h.2.2.2 s' hs' with w | ⟨f', sz, w1, w2, w3, w4, w5, w6, w7, w8⟩
              · exact Or.inl w
              · right
                refine ⟨f', sz, w1, w2, w3, w4, w5, w6, w7, fun i hi => ?_⟩
                unfold zf
                rw [if_neg (by omega), if_neg (by omega)]; exact w8 i hi
        · refine ⟨(-10) - 5, _, _, ?_, ?_, h.found 5⟩
          · unfold O_sheet
            refine lti b1 ?_
            refine ifn (by decide) ?_
            refine ifn c0 ?_
            exact lti rfl (lti rfl (lti rfl rfl))
          · unfold M_sheet
            refine lti b2 ?_
            refine ifn (by decide) ?_
            refine ifn c0 ?_
            exact lti rfl (lti rfl (lti rfl rfl))
      · refine hbad ?_ ?_
        · rw [s1, f1, if_neg zz, if_neg zz]; exact if_neg cz
        · rw [s2, f2, if_neg zz, if_neg zz]; exact if_neg cz
    · refine hbad ?_ ?_
      · rw [s1, f1, if_neg zz]; rfl
      · rw [s2, f2, if_neg zz]; rfl
  · refine hbad ?_ ?_
    · rw [s1]; rfl
    · rw [s2]; rfl
theorem lp_step {S R : Type} {f : S → Option (S ⊕ R)} {k : Nat} {s s2 : S} (h : f s = some (.inl s2)) : lp f (k + 1) s = lp f k s2 := by
  show (f s).bind _ = _
  rw [h]; rfl
theorem lp_stop {S R : Type} {f : S → Option (S ⊕ R)} {k : Nat} {s : S} {r : R} (h : f s = some (.inr r)) : lp f (k + 1) s = some r := by
  show (f s).bind _ = _
  rw [h]; rfl
theorem s_read {σ μ : Mem} (h : Rel σ μ) (x : Int32) : ∃ a σ' μ', O_read x σ = some (a, σ') ∧ M_read x μ = some (a, μ') ∧ Rel σ' μ' := by
  rcases sh_cases x with ⟨s, hs, rfl, s1, s2⟩ | ⟨s1, s2⟩
  · have r7 : rd σ 7 (nI s) = some (σ 7 s) := rdT (N := 4) rfl hs (by omega)
    have r61 : rd μ 61 (nI s) = some (μ 61 s) := rdT (N := 4) rfl hs (by omega)
    rcases h.2.2.2 s hs with ⟨a1, a2⟩ | ⟨f, sz, b1, b2, b3, b4, b5, b6, b7, b8⟩
    · rw [a1] at r7
      rw [a2] at r61
      refine ⟨(-10) - 1, _, _, ?_, ?_, h.found 1⟩
      · unfold O_read
        refine ifn (by rw [s1]; decide) ?_
        refine ob (a := 1) (ob r7 (lti rfl rfl)) ?_
        refine ifn (by decide) ?_
        exact lti rfl (lti rfl (lti rfl rfl))
      · unfold M_read
        refine ifn (by rw [s2]; decide) ?_
        refine ob r61 ?_
        refine ifp rfl ?_
        exact lti rfl (lti rfl (lti rfl rfl))
    · rw [b3] at r7
      rw [b4] at r61
      have r8 : rd σ 8 (nI s) = some (nI sz) := by rw [rdT (N := 4) rfl hs (by omega), b6]
      -- both loops together
      have key : ∀ d j σ1 μ1, j + d = sz → Rel σ1 μ1 → KC σ σ1 → KM μ μ1 → ∃ v σ2 μ2, Rel σ2 μ2 ∧ lp (fun s' => O_read_b1 (nI s) (nI sz) s'.1 s'.2) (d + 1) (nI j, σ1) = some (v, σ2) ∧ lp (fun s' => M_read_b1 (nI s) s'.1 s'.2) (d + 1) (nI j, μ1) = some (v, μ2) := by
        intro d
        induction d with
        | zero =>
          intro j σ1 μ1 hj hr hc hm
          have r63 : rd μ1 63 (nI s) = some (nI sz) := by rw [rdT (N := 4) rfl hs (by omega), hm.1 63 (by omega), b7]
          refine ⟨nI j, σ1, μ1, hr, lp_stop ?_, lp_stop ?_⟩
          · unfold O_read_b1
            refine ob (a := (false, σ1)) (ifp (nI_le (by omega) (by omega)) rfl) ?_
            refine lti rfl ?_
            refine lti rfl ?_
            exact ifn (show ¬ false = true by decide) rfl
          · unfold M_read_b1
            refine ob r63 ?_
            refine ob (a := (false, μ1)) (ifp (nI_le (by omega) (by omega)) rfl) ?_
            refine lti rfl ?_
            refine lti rfl ?_
            exact ifn (show ¬ false = true by decide) rfl
        | succ d ih =>
          intro j σ1 μ1 hj hr hc hm
          have r63 : rd μ1 63 (nI s) = some (nI sz) := by rw [rdT (N := 4) rfl hs (by omega), hm.1 63 (by omega), b7]
          have hi : S_item (nI s) (nI j) σ1 = some (σ 9 (s * 60 + j)) := by
            unfold S_item
            refine ob (a := σ 9 (s * 60 + j)) ?_ rfl
            rw [L_60, xI_mul, nI_add, rdT (N := 240) rfl (by omega) (by omega), hc.1 9 (by omega)]
          have hi2 : rd μ1 64 (60 * nI s + nI j) = some (σ 9 (s * 60 + j)) := by
            rw [L_60, xI_mul, nI_add, rdT (N := 240) rfl (by omega) (by omega), hm.1 64 (by omega), b8 j (by omega)]
          obtain ⟨a, σ2, μ2, g1, g2, g3, g4, g5⟩ := s_adds hr.1 (σ 9 (s * 60 + j))
          have hr2 : Rel σ2 μ2 := hr.k1 g3 g4 g5
          by_cases ca : a < 0
          · refine ⟨nI j, σ2, μ2, hr2, lp_stop ?_, lp_stop ?_⟩
            · unfold O_read_b1
              refine ob (a := (false, σ2)) ?_ ?_
              · refine ifn (nI_ge (by omega) (by omega)) ?_
                refine ob hi ?_
                refine ob g1 ?_
                refine lti rfl ?_
                refine lti rfl ?_
                exact ifp ca rfl
              · refine lti rfl ?_
                refine lti rfl ?_
                exact ifn (show ¬ false = true by decide) rfl
            · unfold M_read_b1
              refine ob r63 ?_
              refine ob (a := (false, μ2)) ?_ ?_
              · refine ifn (nI_ge (by omega) (by omega)) ?_
                refine ob hi2 ?_
                refine ob g2 ?_
                refine lti rfl ?_
                refine lti rfl ?_
                exact ifp ca rfl
              · refine lti rfl ?_
                refine lti rfl ?_
                exact ifn (show ¬ false = true by decide) rfl
          · obtain ⟨v, σ3, μ3, q1, q2, q3⟩ := ih (j + 1) σ2 μ2 (by omega) hr2 (hc.tr g4) (hm.tr g5)
            refine ⟨v, σ3, μ3, q1, ?_, ?_⟩
            · rw [lp_step (s2 := (nI (j + 1), σ2))]
              · exact q2
              · unfold O_read_b1
                refine ob (a := (true, σ2)) ?_ ?_
                · refine ifn (nI_ge (by omega) (by omega)) ?_
                  refine ob hi ?_
                  refine ob g1 ?_
                  refine lti rfl ?_
                  refine lti rfl ?_
                  exact ifn ca rfl
                · refine lti rfl ?_
                  refine lti rfl ?_
                  refine ifp rfl ?_
                  exact lti (nI_1 _) rfl
            · rw [lp_step (s2 := (nI (j + 1), μ2))]
              · exact q3
              · unfold M_read_b1
                refine ob r63 ?_
                refine ob (a := (true, μ2)) ?_ ?_
                · refine ifn (nI_ge (by omega) (by omega)) ?_
                  refine ob hi2 ?_
                  refine ob g2 ?_
                  refine lti rfl ?_
                  refine lti rfl ?_
                  exact ifn ca rfl
                · refine lti rfl ?_
                  refine lti rfl ?_
                  refine ifp rfl ?_
                  exact lti (nI_1 _) rfl
      obtain ⟨v, σ2, μ2, q1, q2, q3⟩ := key sz 0 σ μ (by omega) h KC.rf KM.rf
      refine ⟨v, σ2, μ2, ?_, ?_, q1⟩
      · unfold O_read
        refine ifn (by rw [s1]; decide) ?_
        refine ob (a := 0) (ob r7 (lti (if_neg (nI_nm1 (by omega))) rfl)) ?_
        refine ifp rfl ?_
        refine ob (a := nI sz) (ob r8 rfl) ?_
        refine ob (lp_fu q2 (by omega)) ?_
        exact lti rfl (lti rfl rfl)
      · unfold M_read
        refine ifn (by rw [s2]; decide) ?_
        refine ob r61 ?_
        refine ifn (by decide) ?_
        refine ob (lp_fu q3 (by omega)) ?_
        exact lti rfl (lti rfl rfl)
  · refine ⟨-2, σ, μ, ?_, ?_, h⟩
    · unfold O_read; exact ifp s1 rfl
    · unfold M_read; exact ifp s2 rfl

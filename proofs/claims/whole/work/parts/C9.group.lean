theorem O_isSet_eq {x : Int32} : O_isSet x = if x < 0 then 0 else if 256 ≤ x then 0 else 1 := by
  unfold O_isSet lt
  by_cases a : x < 0
  · simp [a]
  · by_cases b : 256 ≤ x
    · simp [a, b]
    · simp [a, b]
theorem set_cases (x : Int32) : (∃ k, k < 256 ∧ x = nI k ∧ O_isSet x = 1 ∧ M_in x 0 255 = 1) ∨ (O_isSet x = 0 ∧ M_in x 0 255 = 0) := by
  rw [O_isSet_eq, M_in_eq]
  rcases in_lo (x := x) (lo := 0) (hi := 255) (by omega) (by omega) with ⟨k, k1, k2, rfl⟩ | q | q
  · left
    refine ⟨k, by omega, rfl, ?_, ?_⟩
    · rw [if_neg (nI_pos (by omega)), if_neg (show ¬ (256 : Int32) ≤ nI k from nI_ge (b := 256) (by omega) (by omega))]
    · rw [if_neg (nI_pos (by omega)), if_neg (show ¬ (255 : Int32) < nI k from nI_nlt (a := 255) k2 (by omega))]
  · right
    have q : x < 0 := q
    rw [if_pos q, if_pos q]; exact ⟨rfl, rfl⟩
  · right
    by_cases q0 : x < 0
    · rw [if_pos q0, if_pos q0]; exact ⟨rfl, rfl⟩
    · have q2 : (255 : Int32) < x := q
      rw [if_neg q0, if_neg q0, if_pos q2, if_pos]
      · exact ⟨rfl, rfl⟩
      · obtain ⟨k, k1, k2⟩ := nI_of q0
        subst k2
        have : 255 < k := (nI_ltI (a := 255) (by omega) k1).mp q
        exact nI_le (a := 256) (by omega) k1
theorem s_adds {σ μ : Mem} (h : CMx σ μ) (x : Int32) : ∃ a σ' μ', O_group x σ = some (a, σ') ∧ M_adds x μ = some (a, μ') ∧ CMx σ' μ' ∧ KC σ σ' ∧ KM μ μ' := by
  have h0 := h
  obtain ⟨n, G, c, ⟨kd, ch, st, root, hC, hX⟩, hM⟩ := h
  obtain ⟨a1, a2, a3, a4, a5, a6, a7, a8, a9, a10, a11, a12⟩ := hC
  have hMM := hM
  obtain ⟨m1, m2, m3, m4, m5, m6⟩ := hM
  rcases set_cases x with ⟨k, hk, rfl, s1, s2⟩ | ⟨s1, s2⟩
  · have hb := bc8 k hk
    have hm := M_many_eq hk
    have hpc := pc_le k hk
    by_cases c2 : 2 ≤ pc8 k
    · have hO : (if O_isSet (nI k) = 0 then true else if 2 ≤ J_bitCount (nI k) then false else true : Bool) = false := by
        rw [s1, if_neg (by decide), hb]; exact if_pos (nI_le (a := 2) c2 (by omega))
      have hMm : ((if M_in (nI k) 0 255 = 0 then some true else (M_many (nI k)).bind (fun vq7 => if 2 ≤ vq7 then some false else some true) : Option Bool)) = some false := by
        rw [s2, if_neg (by decide)]
        refine ob hm ?_
        exact ifp (nI_le (a := 2) c2 (by omega)) rfl
      by_cases hc : c = 10
      · subst hc
        refine ⟨-4, σ, μ, ?_, ?_, h0, KC.rf, KM.rf⟩
        · unfold O_group
          refine lti hO ?_
          refine ifn (by decide) ?_
          exact ifn (by rw [a4]; decide) rfl
        · unfold M_adds
          refine ob hMm ?_
          refine ifn (by decide) ?_
          exact ifp (by rw [m4]; rfl) rfl
      · have hGe : ∀ g, g < c → G g = uf G c k g := fun g hg => (uf_n (by omega)).symm
        have htk : tkB n G c = tkB n (uf G c k) c := tkB_congr hGe
        let σ16 := mput (mput σ 1 c (nI k)) 0 2 (nI (c + 1))
        have e16 : ∀ j, j ≠ 0 → j ≠ 1 → σ16 j = σ j := fun j q0 q1 => by show mput _ _ _ _ _ = _; rw [mput_ne _ q0, mput_ne _ q1]
        have e16f : ∀ f, f ≠ 2 → σ16 0 f = σ 0 f := fun f hf => by show mput _ _ _ _ _ _ = _; rw [mput_at, if_neg (fun q => hf q.2), mput_ne _ (by omega)]
        have hP : CP σ16 n (uf G c k) (c + 1) c kd ch st root := by
          refine ⟨by rw [e16f 0 (by omega)]; exact a1, a2, a3, by show mput _ _ _ _ _ _ = _; rw [mput_at, if_pos ⟨rfl, rfl⟩], by omega, fun g hg => ?_, by rw [e16f 3 (by omega), a7, htk], a8.same (fun a _ => e16 _ (by omega) (by omega)), a9, fun r => ?_, a11.same (fun a _ => e16 _ (by omega) (by omega)), a12.same (fun a _ => e16 _ (by omega) (by omega))⟩
          · have e1 : σ16 1 = upd (σ 1) c (nI k) := by show mput _ _ _ _ _ = _; rw [mput_ne _ (by omega), mput_2]
            rw [e1]
            by_cases q : g = c
            · subst q; rw [pk_us, uf_s]; exact ⟨rfl, hk⟩
            · rw [pk_un q, uf_n q]; exact a6 g (by omega)
          · rw [a10, htk]
            exact RG_congr (fun g _ hb => hGe g (tkB_bit hb)) r
        obtain ⟨τ, kd', ch', st', root', t1, t2, t3⟩ := takeGroup_ok hP (by omega)
        obtain ⟨υ, r1, r2, r3⟩ := reshow t2
        have hans := O_taken_eq r2.1 (show c < c + 1 by omega)
        let μ19 := mput (mput μ 44 c (nI k)) 43 1 (nI (c + 1))
        have hM19 : MI μ19 n (uf G c k) (c + 1) := by
          refine ⟨?_, m2, m3, ?_, by omega, fun g hg => ?_⟩
          · show mput _ _ _ _ _ _ = _; rw [mput_at, if_neg (by omega), mput_ne _ (by omega)]; exact m1
          · show mput _ _ _ _ _ _ = _; rw [mput_at, if_pos ⟨rfl, rfl⟩]
          · have e1 : μ19 44 = upd (μ 44) c (nI k) := by show mput _ _ _ _ _ = _; rw [mput_ne _ (by omega), mput_2]
            rw [e1]
            by_cases q : g = c
            · subst q; rw [pk_us, uf_s]; exact ⟨rfl, hk⟩
            · rw [pk_un q, uf_n q]; exact m6 g (by omega)
        obtain ⟨w, w1⟩ := M_takenNow_eq hM19
        have htl := tkB_lt (n := n) (G := uf G c k) (c := c + 1) (by omega)
        refine ⟨(if (tkB n (uf G c k) (c + 1)).testBit c = true then 1 else 0), mput υ 0 10 (nI (txD kd' ch' 8 root').length), mset μ19 45 w, ?_, ?_, ⟨n, uf G c k, c + 1, ⟨kd', ch', st', root', r2⟩, hM19.m45⟩, ?_, ?_⟩
        · unfold O_group
          refine lti hO ?_
          refine ifn (by decide) ?_
          refine ifp (by rw [a4]; exact nI_lt (b := 10) (by omega) (by omega)) ?_
          refine ob (a := mput σ 1 c (nI k)) (by rw [a4]; exact wrT (N := 10) rfl (by omega) (by omega)) ?_
          refine lti (b := σ16) (by rw [mput_ne _ (by omega), a4, nI_1]) ?_
          refine ob (a := τ) ?_ ?_
          · rw [hP.2.2.2.1, nI_pred]; exact t1
          refine ob r1 ?_
          refine lti rfl ?_
          refine lti rfl ?_
          refine lti rfl ?_
          rw [r2.1.2.2.2.1, nI_pred, hans]
        · unfold M_adds
          refine ob hMm ?_
          refine ifn (by decide) ?_
          refine ifn (by rw [m4]; exact nI_ne (b := 10) (by omega) (by omega) hc) ?_
          refine ob (a := mput μ 44 c (nI k)) (by rw [m4]; exact wrT (N := 10) rfl (by omega) (by omega)) ?_
          refine lti (b := μ19) (by rw [mput_ne _ (by omega), m4, nI_1]) ?_
          refine ob w1 ?_
          refine lti rfl ?_
          refine lti rfl ?_
          have e1 : (mset μ19 45 w) 43 1 - 1 = nI c := by rw [mset_ne (by omega), hM19.2.2.2.1, nI_pred]
          refine lti (b := if (tkB n (uf G c k) (c + 1)).testBit c = true then 1 else 0) ?_ rfl
          show (if M_isIn (nI (tkB n (uf G c k) (c + 1))) ((mset μ19 45 w) 43 1 - 1) = 0 then 0 else 1) = _
          rw [e1, M_isIn_eq (by omega) (by omega)]
          by_cases q : (tkB n (uf G c k) (c + 1)).testBit c = true
          · rw [if_pos q]; rfl
          · rw [if_neg q]; rfl
        · have k1 := (t3.fd.tr r3).kc
          exact ⟨fun j hj => by rw [k1.1 j hj, e16 j (by omega) (by omega)], by rw [k1.2.1, e16f 5 (by omega)], by rw [k1.2.2, e16f 6 (by omega)]⟩
        · refine ⟨fun j hj => ?_, ?_, ?_⟩
          · rw [mset_ne (by omega)]; show mput _ _ _ _ _ = _; rw [mput_ne _ (by omega), mput_ne _ (by omega)]
          · rw [mset_ne (by omega)]; show mput _ _ _ _ _ _ = _; rw [mput_at, if_neg (by omega), mput_ne _ (by omega)]
          · rw [mset_ne (by omega)]; show mput _ _ _ _ _ _ = _; rw [mput_at, if_neg (by omega), mput_ne _ (by omega)]
    · refine ⟨-2, σ, μ, ?_, ?_, h0, KC.rf, KM.rf⟩
      · unfold O_group
        refine lti (b := true) ?_ (ifp rfl rfl)
        rw [s1, if_neg (by decide), hb]
        exact if_neg (nI_ge (b := 2) (by omega) (by omega))
      · unfold M_adds
        refine ob (a := true) ?_ (ifp rfl rfl)
        rw [s2, if_neg (by decide)]
        refine ob hm ?_
        exact ifn (nI_ge (b := 2) (by omega) (by omega)) rfl
  · refine ⟨-2, σ, μ, ?_, ?_, h0, KC.rf, KM.rf⟩
    · unfold O_group
      refine lti (b := true) ?_ (ifp rfl rfl)
      rw [s1]; rfl
    · unfold M_adds
      refine ob (a := true) ?_ (ifp rfl rfl)
      rw [s2]; rfl
theorem s_group {σ μ : Mem} (h : CMx σ μ) (x : Int32) : ∃ a σ' μ', O_group x σ = some (a, σ') ∧ M_group x μ = some (a, μ') ∧ CMx σ' μ' ∧ KC σ σ' ∧ KM μ μ' := by
  obtain ⟨a, σ', μ', h1, h2, h3⟩ := s_adds h x
  refine ⟨a, σ', μ', h1, ?_, h3⟩
  unfold M_group
  refine ob h2 ?_
  refine lti rfl ?_
  exact lti rfl rfl

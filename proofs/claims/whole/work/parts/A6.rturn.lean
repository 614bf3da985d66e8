theorem turnA_cons {spl : Nat → Option (List (List Nat))} {st : Nat → Nat} {S c sg : Nat} {L : List Nat} : turnA spl st S (c :: L) sg = (if stt st S c = 0 then (turnA spl st S L (if sg = 0 then 0 else 2)).map (fun m => [c] :: m)
    else if sg = 2 then none
    else if stt st S c = 2 then (turnA spl st S L 1).map (fun m => [c] :: m)
    else (spl c).bind (fun x => if sg = 0 then (turnA spl st S L 1).map (fun m => x ++ m) else (turnA spl st S L 2).map (fun m => x.reverse ++ m))) := rfl
section
variable {σ0 σ τ : Mem} {t : Nat} {kd0 kd : Nat → Bool} {ch0 ch : Nat → List Nat} {st0 st : Nat → Nat} {S d : Nat} {L X hd sp nw : List Nat} {items : List (List Nat)}
theorem xi_start : XI kd0 ch0 st0 kd0 ch0 st0 [] [] := ⟨fun i _ => ⟨rfl, rfl, fun _ => rfl⟩, by simp, by simp, by simp, fun i h => Or.inl h⟩
theorem LnS.start (h : RS σ t kd0 ch0 st0 [] hd []) : LnS t kd0 ch0 st0 S d σ [] σ [] [] kd0 ch0 st0 hd [] [] :=
  ⟨h, RF.rf, xi_start, trivial, by simp, by simp, by simp, by simp, by simp, by simp, by simp⟩
theorem LnS.elt (h : LnS t kd0 ch0 st0 S d σ L τ X items kd ch st hd sp nw) (hE : ElB kd0 ch0 st0 S d L items) {N : Nat} (hw : WfD kd0 ch0 st0 (d + 1) N) (h8 : 8 ≤ N) (hne : ch0 N ≠ []) (hL : ∀ p ∈ L, p ∈ ch0 N) : ∀ a ∈ X, a < 24 ∧ a ≠ N ∧ Us ch a ∧ st a < 256 := by
  intro a ha
  have hN := h.notin hw h8 hL
  obtain ⟨h1, h2, h3, h4, -⟩ := h
  have key : a < 24 ∧ a ≠ N ∧ Us ch a := by
    rcases itl_mem h4 a ha with g | g
    · obtain ⟨a1, a2, a3, a4⟩ := h3.2.2.1 a g
      exact ⟨by omega, fun e => hne (by rw [← e]; exact a3), Or.inr a4⟩
    · obtain ⟨b1, b2, b3, b4, b5, p, hp, b6, b7⟩ := hE.2.1 a (List.mem_flatten.mpr ⟨[a], g, by simp⟩)
      refine ⟨b1, fun e => ?_, h3.us b2⟩
      subst e
      exact nd_notin hw h8 (hL p hp) (b7 _ (nd_self b3 h8))
  exact ⟨key.1, key.2.1, key.2.2, ((h1.1 a key.1).2.2.2.1 key.2.2).1⟩
theorem rturn_loop (hA0 : AT σ0 t kd0 ch0 st0) (ht : isT t) {U0 : List Nat} (hU : ∀ i, 8 ≤ i → i < 24 → ch0 i ≠ [] → i ∈ U0) (hU7 : U0.length ≤ 7) {N : Nat} (hw : WfD kd0 ch0 st0 (d + 1) N) (h8 : 8 ≤ N) (hn : N < 24) (hR : RS σ t kd0 ch0 st0 [] hd []) : ∃ r, lp (fun s => T_reduceTurning_b1 t (nI N) (nI S) s.1 s.2.1 s.2.2) fuel (0, 0, σ) = some r ∧ ((turnA (splitA kd0 ch0 st0 S d) st0 S (ch0 N) 0 = none ∧ ∃ τ, r = .inr (0, τ) ∧ WK t ch0 st0 τ ∧ RF t σ τ) ∨ ∃ items X τ kd ch st hd sp nw, turnA (splitA kd0 ch0 st0 S d) st0 S (ch0 N) 0 = some items ∧ r = .inl τ ∧ LnS t kd0 ch0 st0 S d σ (ch0 N) τ X items kd ch st hd sp nw) := by
  obtain ⟨hne, hl2, hl8, hs256, hD, hor, d', hd', hch⟩ := node_ok hA0 hw h8 hn
  have hdd : d' = d := by omega
  subst hdd
  have hpc8 := pc_le _ hs256
  rw [hor, pcs_or hD] at hpc8
  refine lp_for (ch0 N).length (fun j s => ∃ sg X P kd ch st hd sp nw, s.1 = nI sg ∧ sg ≤ 2 ∧ s.2.1 = nI j ∧ LnS t kd0 ch0 st0 S d' σ ((ch0 N).take j) s.2.2 X P kd ch st hd sp nw ∧ turnA (splitA kd0 ch0 st0 S d') st0 S (ch0 N) 0 = (turnA (splitA kd0 ch0 st0 S d') st0 S ((ch0 N).drop j) sg).map (fun m => P ++ m)) _ _ 0 (by omega) ⟨0, [], [], kd0, ch0, st0, hd, [], [], rfl, by omega, rfl, by simpa using LnS.start hR, ?_⟩ (by omega) ?_ ?_
  · rw [List.drop_zero]
    cases turnA (splitA kd0 ch0 st0 S d') st0 S (ch0 N) 0 <;> simp
  · intro j s hj ⟨sg, X, P, kd, ch, st, hd, sp, nw, e1, hsg, e2, hI, hT⟩
    obtain ⟨s1, s2, τ⟩ := s
    simp only at e1 e2 hI
    subst e1 e2
    have hNs := hI.notin hw h8 (fun p hp => List.mem_of_mem_take hp)
    have hX := hI.2.2.1
    have hR1 := hI.1
    have hcn : ch N = ch0 N := (hX.1 N (Or.inr hne)).2.2 hNs
    have hm := getD_mem hj
    obtain ⟨c1, c2, c3, c4, c5⟩ := hch _ hm
    have hChd : Chd kd0 ch0 st0 d' ((ch0 N).getD j 0) := ⟨c1, c2, c3, c4, c5⟩
    have r1 : rd τ (t + 3) (nI N) = some (nI (ch0 N).length) := by have := hR1.1.size ht hn; rwa [hcn] at this
    have r2 : T_part t (nI N) (nI j) τ = some (nI ((ch0 N).getD j 0)) := by have := hR1.1.part (i := j) ht hn (by rw [hcn]; exact hj); rwa [hcn] at this
    have r3 : T_stateOf t (nI ((ch0 N).getD j 0)) (nI S) τ = some (nI (stt st0 S ((ch0 N).getD j 0))) := by
      have := hR1.1.state (S := S) ht c2 (hX.us c3)
      have e : st ((ch0 N).getD j 0) = st0 ((ch0 N).getD j 0) := (hX.1 _ c3).2.1
      unfold stt at this ⊢
      rwa [e] at this
    have hg : ¬ nI (ch0 N).length ≤ nI j := nI_ge hj (by omega)
    have edrop : (ch0 N).drop j = (ch0 N).getD j 0 :: (ch0 N).drop (j + 1) := by
      rw [List.drop_eq_getElem_cons hj, List.getD_eq_getElem?_getD, List.getElem?_eq_getElem hj]; rfl
    have hbud : pcs st0 ((ch0 N).take j) + pc8 (st0 ((ch0 N).getD j 0)) ≤ 8 := by
      have e : ch0 N = (ch0 N).take j ++ (ch0 N).drop j := (List.take_append_drop j _).symm
      have h2 : pcs st0 (ch0 N) = pcs st0 ((ch0 N).take j) + pcs st0 ((ch0 N).drop j) := by conv => lhs; rw [e, pcs_app]
      rw [edrop] at h2
      have h3 : pcs st0 ((ch0 N).getD j 0 :: (ch0 N).drop (j + 1)) = pc8 (st0 ((ch0 N).getD j 0)) + pcs st0 ((ch0 N).drop (j + 1)) := rfl
      omega
    have hdisj : ∀ p ∈ (ch0 N).take j, WfD kd0 ch0 st0 d' p ∧ st0 p &&& st0 ((ch0 N).getD j 0) = 0 := fun p hp => by
      refine ⟨(hch p (List.mem_of_mem_take hp)).1, ?_⟩
      have hD2 := hD
      unfold Dj at hD2
      rw [← List.take_append_drop j (ch0 N), edrop, List.pairwise_append] at hD2
      exact hD2.2.2 p hp _ (by simp)
    rw [edrop, turnA_cons] at hT
    by_cases c0 : stt st0 S ((ch0 N).getD j 0) = 0
    · left
      rw [if_pos c0] at hT
      obtain ⟨τ2, k1, k2⟩ := hI.append ht hChd (by omega) hbud
      rw [← take_succ' hj] at k2
      refine ⟨(nI (if sg = 0 then 0 else 2), nI (j + 1), τ2), ?_, (if sg = 0 then 0 else 2), _, _, kd, ch, st, hd, sp, nw, rfl, ?_, rfl, k2, ?_⟩
      · unfold T_reduceTurning_b1
        refine ob r1 ?_
        refine ifn hg ?_
        refine ob r2 ?_
        refine ob r3 ?_
        refine ob (a := .inl (nI (if sg = 0 then 0 else 2), τ2)) ?_ ?_
        · refine ifp (by rw [c0]; rfl) ?_
          refine lti (b := nI (if sg = 0 then 0 else 2)) ?_ (ob k1 rfl)
          by_cases q : sg = 0
          · rw [if_pos q, q]; exact if_pos rfl
          · rw [if_neg q]; exact if_neg (nI_ne0 (by omega) (by omega))
        · show lt _ (fun a => lt _ (fun b => lt (nI j + 1) (fun c => some (Sum.inl (a, c, b))))) = _
          refine lti rfl ?_
          refine lti rfl ?_
          exact lti (nI_1 _) rfl
      · by_cases q : sg = 0
        · rw [if_pos q]; omega
        · rw [if_neg q]; omega
      · rw [hT, Option.map_map]
        congr 1
        funext m
        simp [Function.comp]
    · rw [if_neg c0] at hT
      by_cases cs : sg = 2
      · right
        rw [if_pos cs] at hT
        refine ⟨_, ?_, Or.inl ⟨hT, τ, rfl, hI.wk, hI.2.1⟩⟩
        unfold T_reduceTurning_b1
        refine ob r1 ?_
        refine ifn hg ?_
        refine ob r2 ?_
        refine ob r3 ?_
        refine ob (a := .inr (.inr (.inr (0, τ)))) ?_ rfl
        have hst : stt st0 S ((ch0 N).getD j 0) ≤ 2 := by rcases stt_3 st0 S ((ch0 N).getD j 0) with e | e | e <;> omega
        refine ifn (nI_ne0 (by omega) (by omega)) ?_
        exact ifp (by rw [cs]; rfl) rfl
      · rw [if_neg cs] at hT
        have hs2 : ¬ nI sg = 2 := nI_ne (b := 2) (by omega) (by omega) cs
        by_cases c2' : stt st0 S ((ch0 N).getD j 0) = 2
        · left
          rw [if_pos c2'] at hT
          obtain ⟨τ2, k1, k2⟩ := hI.append ht hChd (by omega) hbud
          rw [← take_succ' hj] at k2
          refine ⟨(nI 1, nI (j + 1), τ2), ?_, 1, _, _, kd, ch, st, hd, sp, nw, rfl, by omega, rfl, k2, ?_⟩
          · unfold T_reduceTurning_b1
            refine ob r1 ?_
            refine ifn hg ?_
            refine ob r2 ?_
            refine ob r3 ?_
            refine ob (a := .inl (nI 1, τ2)) ?_ ?_
            · refine ifn (by rw [c2']; decide) ?_
              refine ifn hs2 ?_
              refine ifp (by rw [c2']; rfl) ?_
              exact ob k1 rfl
            · show lt _ (fun a => lt _ (fun b => lt (nI j + 1) (fun c => some (Sum.inl (a, c, b))))) = _
              refine lti rfl ?_
              refine lti rfl ?_
              exact lti (nI_1 _) rfl
          · rw [hT, Option.map_map]
            congr 1
            funext m
            simp [Function.comp]
        · rw [if_neg c2'] at hT
          have c1' : stt st0 S ((ch0 N).getD j 0) = 1 := by rcases stt_3 st0 S ((ch0 N).getD j 0) with e | e | e <;> omega
          have h8c := part1_ok hA0 hw h8 hn hm c1'
          have ewl : (if nI sg = 0 then (1 : Int32) else 0) = if decide (sg = 0) = true then 1 else 0 := by
            by_cases q : sg = 0
            · rw [q]; rfl
            · rw [if_neg (nI_ne0 (by omega) (by omega)), if_neg (by simpa using q)]
          rcases hI.split hA0 ht hU hU7 hChd h8c c1' hbud hdisj (decide (sg = 0)) _ ewl with ⟨g0, τ2, g1, g2, g3⟩ | ⟨x, X2, τ2, kd2, ch2, st2, hd2, sp2, nw2, g0, g1, g2⟩
          · right
            rw [g0] at hT
            refine ⟨_, ?_, Or.inl ⟨hT, τ2, rfl, g2, g3⟩⟩
            unfold T_reduceTurning_b1
            refine ob r1 ?_
            refine ifn hg ?_
            refine ob r2 ?_
            refine ob r3 ?_
            refine ob (a := .inr (.inr (.inr (0, τ2)))) ?_ rfl
            refine ifn (by rw [c1']; decide) ?_
            refine ifn hs2 ?_
            refine ifn (by rw [c1']; decide) ?_
            refine lti rfl ?_
            refine ob g1 ?_
            refine lti rfl ?_
            refine lti rfl ?_
            exact ifp rfl rfl
          · left
            rw [g0] at hT
            have hT : turnA (splitA kd0 ch0 st0 S d') st0 S (ch0 N) 0 = Option.map (fun m => P ++ m) (if sg = 0 then (turnA (splitA kd0 ch0 st0 S d') st0 S ((ch0 N).drop (j + 1)) 1).map (fun m => x ++ m) else (turnA (splitA kd0 ch0 st0 S d') st0 S ((ch0 N).drop (j + 1)) 2).map (fun m => x.reverse ++ m)) := hT
            rw [← take_succ' hj] at g2
            refine ⟨(nI (if sg = 0 then 1 else 2), nI (j + 1), τ2), ?_, (if sg = 0 then 1 else 2), _, _, kd2, ch2, st2, hd2, sp2, nw2, rfl, ?_, rfl, g2, ?_⟩
            · unfold T_reduceTurning_b1
              refine ob r1 ?_
              refine ifn hg ?_
              refine ob r2 ?_
              refine ob r3 ?_
              refine ob (a := .inl (nI (if sg = 0 then 1 else 2), τ2)) ?_ ?_
              · refine ifn (by rw [c1']; decide) ?_
                refine ifn hs2 ?_
                refine ifn (by rw [c1']; decide) ?_
                refine lti rfl ?_
                refine ob g1 ?_
                refine lti rfl ?_
                refine lti rfl ?_
                refine ifn (show ¬ (1 : Int32) = 0 by decide) ?_
                refine lti (b := nI (if sg = 0 then 1 else 2)) ?_ rfl
                by_cases q : sg = 0
                · rw [q]; rfl
                · have q2 : ¬ nI sg = 0 := nI_ne0 (by omega) (by omega)
                  rw [if_neg q, if_neg q2]; rfl
              · show lt _ (fun a => lt _ (fun b => lt (nI j + 1) (fun c => some (Sum.inl (a, c, b))))) = _
                refine lti rfl ?_
                refine lti rfl ?_
                exact lti (nI_1 _) rfl
            · by_cases q : sg = 0
              · rw [if_pos q]; omega
              · rw [if_neg q]; omega
            · by_cases q : sg = 0
              · rw [if_pos q] at hT
                rw [if_pos q, if_pos (by simpa using q), hT, Option.map_map]
                congr 1
                funext m
                simp [Function.comp]
              · rw [if_neg q] at hT
                rw [if_neg q, if_neg (by simpa using q), hT, Option.map_map]
                congr 1
                funext m
                simp [Function.comp]
  · intro s ⟨sg, X, P, kd, ch, st, hd, sp, nw, e1, hsg, e2, hI, hT⟩
    obtain ⟨s1, s2, τ⟩ := s
    simp only at e1 e2 hI
    subst e1 e2
    rw [List.take_length] at hI
    rw [List.drop_length] at hT
    have hNs := hI.notin hw h8 (fun p hp => hp)
    have hcn : ch N = ch0 N := (hI.2.2.1.1 N (Or.inr hne)).2.2 hNs
    have hT : turnA (splitA kd0 ch0 st0 S d') st0 S (ch0 N) 0 = some (P ++ []) := hT
    rw [List.append_nil] at hT
    refine ⟨_, ?_, Or.inr ⟨P, X, τ, kd, ch, st, hd, sp, nw, hT, rfl, hI⟩⟩
    have r1 : rd τ (t + 3) (nI N) = some (nI (ch0 N).length) := by have := hI.1.1.size ht hn; rwa [hcn] at this
    unfold T_reduceTurning_b1
    refine ob r1 ?_
    exact ifp (nI_le (Nat.le_refl _) (by omega)) rfl
end

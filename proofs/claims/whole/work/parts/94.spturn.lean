theorem nI0m : nI 0 + (-1) = -1 := by decide +kernel
theorem srt_pw {st : Nat → Nat} {S : Nat} {C : List Nat} : srt st S C ↔ C.Pairwise (fun a b => stt st S a ≤ stt st S b) := by
  constructor
  · intro h
    have : (fE st S C 0 ++ fE st S C 1 ++ fE st S C 2).Pairwise (fun a b => stt st S a ≤ stt st S b) := by
      have hp : ∀ q, (fE st S C q).Pairwise (fun a b => stt st S a ≤ stt st S b) := fun q => by
        refine List.Pairwise.imp_of_mem (R := fun _ _ => True) ?_ (List.pairwise_of_forall (fun _ _ => trivial))
        intro a b ha hb _
        rw [(fE_mem.mp ha).2, (fE_mem.mp hb).2]; exact Nat.le_refl _
      rw [List.pairwise_append, List.pairwise_append]
      refine ⟨⟨hp 0, hp 1, ?_⟩, hp 2, ?_⟩
      · intro a ha b hb; rw [(fE_mem.mp ha).2]; omega
      · intro a ha b hb
        rw [(fE_mem.mp hb).2]
        rcases stt_3 st S a with e | e | e <;> omega
    exact h ▸ this
  · intro h
    unfold srt
    induction C with
    | nil => rfl
    | cons c L ih =>
      rw [List.pairwise_cons] at h
      have ih := ih h.2
      have h1 := h.1
      have e0 : ∀ q, fE st S (c :: L) q = (if stt st S c = q then [c] else []) ++ fE st S L q := fun q => by
        rw [show c :: L = [c] ++ L from rfl, fE_app, fE_single]
      rw [e0, e0, e0]
      rcases stt_3 st S c with e | e | e
      · simp only [e, if_pos rfl]
        simp
        rw [List.append_assoc] at ih; exact ih
      · have z0 : fE st S L 0 = [] := List.eq_nil_iff_forall_not_mem.mpr (fun x hx => by have := h1 x (fE_mem.mp hx).1; have := (fE_mem.mp hx).2; omega)
        rw [z0] at ih ⊢
        simp [e]
        exact ih
      · have z0 : fE st S L 0 = [] := List.eq_nil_iff_forall_not_mem.mpr (fun x hx => by have := h1 x (fE_mem.mp hx).1; have := (fE_mem.mp hx).2; omega)
        have z1 : fE st S L 1 = [] := List.eq_nil_iff_forall_not_mem.mpr (fun x hx => by have := h1 x (fE_mem.mp hx).1; have := (fE_mem.mp hx).2; omega)
        rw [z0, z1] at ih ⊢
        simp [e]
        exact ih
def RS (σ : Mem) (t : Nat) (kd : Nat → Bool) (ch : Nat → List Nat) (st : Nat → Nat) (ln hd sp : List Nat) : Prop := AT σ t kd ch st ∧ LA σ t 7 5 ln ∧ LA σ t 9 6 hd ∧ LA σ t 11 7 sp ∧ sp.length ≤ 7
def RF (t : Nat) (σ τ : Mem) : Prop := (∀ k, k < t ∨ t + 7 < k → τ k = σ k) ∧ τ t 4 = σ t 4 ∧ τ t 5 = σ t 5
theorem RF.rf {t : Nat} {σ : Mem} : RF t σ σ := ⟨fun _ _ => rfl, rfl, rfl⟩
theorem RF.tr {t : Nat} {a b c : Mem} (h1 : RF t a b) (h2 : RF t b c) : RF t a c := ⟨fun k hk => (h2.1 k hk).trans (h1.1 k hk), h2.2.1.trans h1.2.1, h2.2.2.trans h1.2.2⟩
theorem LF.rf {t k f : Nat} {σ τ : Mem} (h : LF t k f σ τ) (hk : k ≤ 7) (h4 : f ≠ 4) (h5 : f ≠ 5) : RF t σ τ := ⟨fun j hj => h.1 j (by omega) (by omega), h.2 4 (Ne.symm h4), h.2 5 (Ne.symm h5)⟩
theorem F14.rf {t : Nat} {σ τ : Mem} (h : F14 t σ τ) : RF t σ τ := ⟨fun j hj => h j (by omega) (by omega) (by omega) (by omega), by rw [h t (by omega) (by omega) (by omega) (by omega)], by rw [h t (by omega) (by omega) (by omega) (by omega)]⟩
section
variable {σ : Mem} {t : Nat} {kd : Nat → Bool} {ch : Nat → List Nat} {st : Nat → Nat} {ln hd sp : List Nat}
theorem RS.append (h : RS σ t kd ch st ln hd sp) (ht : isT t) {c : Nat} (hc : c < 24) (hl : ln.length < 8) : ∃ τ, T_append t (nI c) σ = some τ ∧ RS τ t kd ch st (ln ++ [c]) hd sp ∧ RF t σ τ := by
  obtain ⟨τ, a, b, c⟩ := T_append_some ht hc h.2.1 hl
  exact ⟨τ, a, ⟨c.at_ (by omega) h.1, b, c.la (by omega) (by omega) (by omega) h.2.2.1, c.la (by omega) (by omega) (by omega) h.2.2.2.1, h.2.2.2.2⟩, c.rf (by omega) (by omega) (by omega)⟩
theorem RS.hold (h : RS σ t kd ch st ln hd sp) (ht : isT t) {c : Nat} (hc : c < 24) (hl : hd.length < 8) : ∃ τ, T_hold t (nI c) σ = some τ ∧ RS τ t kd ch st ln (hd ++ [c]) sp ∧ RF t σ τ := by
  obtain ⟨τ, a, b, c⟩ := T_hold_some ht hc h.2.2.1 hl
  exact ⟨τ, a, ⟨c.at_ (by omega) h.1, c.la (by omega) (by omega) (by omega) h.2.1, b, c.la (by omega) (by omega) (by omega) h.2.2.2.1, h.2.2.2.2⟩, c.rf (by omega) (by omega) (by omega)⟩
theorem RS.mark (h : RS σ t kd ch st ln hd sp) (ht : isT t) {c : Nat} (hl : sp.length < 7) : ∃ τ, T_markSplit t (nI c) σ = some τ ∧ RS τ t kd ch st ln hd (sp ++ [c]) ∧ RF t σ τ := by
  obtain ⟨τ, a, b, c⟩ := T_mark_some (c := c) ht h.2.2.2.1 hl
  exact ⟨τ, a, ⟨c.at_ (by omega) h.1, c.la (by omega) (by omega) (by omega) h.2.1, c.la (by omega) (by omega) (by omega) h.2.2.1, b, by simp; omega⟩, c.rf (by omega) (by omega) (by omega)⟩
theorem RS.f14 {τ : Mem} {kd2 : Nat → Bool} {ch2 : Nat → List Nat} {st2 : Nat → Nat} (h : RS σ t kd ch st ln hd sp) (hF : F14 t σ τ) (hA : AT τ t kd2 ch2 st2) : RS τ t kd2 ch2 st2 ln hd sp := ⟨hA, hF.la (by omega) h.2.1, hF.la (by omega) h.2.2.1, hF.la (by omega) h.2.2.2.1, h.2.2.2.2⟩
theorem sturn_l1 (h : RS σ t kd ch st ln hd sp) (ht : isT t) {node S : Nat} (hn : node < 24) (hC : ∀ c ∈ ch node, Us ch c) (h1 : 1 ≤ (ch node).length) (hcap : ln.length + (ch node).length ≤ 8) : ∃ r, lp (fun s => T_splitTurning_b1 t (nI node) (nI S) (nI ((ch node).length - 1)) s.1 s.2.1 s.2.2) fuel (0, 0, σ) = some r ∧ ((srt st S (ch node) ∧ ∃ τ, r = .inl τ ∧ RS τ t kd ch st (ln ++ fE st S (ch node) 0) hd sp ∧ RF t σ τ) ∨ (¬ srt st S (ch node) ∧ ∃ τ ln', r = .inr (0, τ) ∧ RS τ t kd ch st ln' hd sp ∧ RF t σ τ)) := by
  have hlen := (h.1 node hn).1
  refine lp_for (ch node).length (fun j s => ∃ b, s.1 = nI b ∧ b ≤ 2 ∧ s.2.1 = nI j ∧ RS s.2.2 t kd ch st (ln ++ fE st S ((ch node).take j) 0) hd sp ∧ RF t σ s.2.2 ∧ ((ch node).take j).Pairwise (fun a b => stt st S a ≤ stt st S b) ∧ (∀ c ∈ (ch node).take j, stt st S c ≤ b) ∧ (b = 0 ∨ ∃ c ∈ (ch node).take j, stt st S c = b)) _ (0, 0, σ) 0 (by omega) ⟨0, rfl, by omega, rfl, by simpa [fE] using h, RF.rf, by simp, by simp, Or.inl rfl⟩ (by omega) ?_ ?_
  · intro j s hj ⟨b, e1, hb, e2, hR, hF, hP, hle, hex⟩
    obtain ⟨s1, s2, τ⟩ := s
    simp only at e1 e2 hR hF
    subst e1 e2
    have hm := getD_mem hj
    have hm24 := h.1.lt24 hn hm
    have r2 := hR.1.part ht hn hj
    have r3 := hR.1.state (S := S) ht hm24 (hC _ hm)
    have hst : stt st S ((ch node).getD j 0) ≤ 2 := by rcases stt_3 st S ((ch node).getD j 0) with e | e | e <;> omega
    have hnl : ¬ nI ((ch node).length - 1) < nI j := nI_nlt (by omega) (by omega)
    by_cases c : b ≤ stt st S ((ch node).getD j 0)
    · left
      have hP' : ((ch node).take (j + 1)).Pairwise (fun a b => stt st S a ≤ stt st S b) := by
        rw [take_succ' hj, List.pairwise_append]
        refine ⟨hP, by simp, ?_⟩
        intro a ha b' hb'
        rw [List.mem_singleton] at hb'
        subst hb'
        have := hle a ha; omega
      have hle' : ∀ c ∈ (ch node).take (j + 1), stt st S c ≤ stt st S ((ch node).getD j 0) := by
        rw [take_succ' hj]
        intro a ha
        rw [List.mem_append, List.mem_singleton] at ha
        rcases ha with ha | ha
        · have := hle a ha; omega
        · subst ha; exact Nat.le_refl _
      have hex' : stt st S ((ch node).getD j 0) = 0 ∨ ∃ c ∈ (ch node).take (j + 1), stt st S c = stt st S ((ch node).getD j 0) := Or.inr ⟨_, by rw [take_succ' hj]; simp, rfl⟩
      by_cases d : stt st S ((ch node).getD j 0) = 0
      · have hcap2 : (ln ++ fE st S ((ch node).take j) 0).length < 8 := by
          have := fE_len_le (st := st) (S := S) (q := 0) (C := (ch node).take j)
          rw [List.length_take] at this
          rw [List.length_append]; omega
        obtain ⟨τ2, k1, k2, k3⟩ := hR.append ht hm24 hcap2
        refine ⟨(nI (stt st S ((ch node).getD j 0)), nI (j + 1), τ2), ?_, stt st S ((ch node).getD j 0), rfl, hst, rfl, ?_, hF.tr k3, hP', hle', hex'⟩
        · unfold T_splitTurning_b1
          refine ifn hnl ?_
          refine ob r2 ?_
          refine ob r3 ?_
          refine ifp (nI_le c (by omega)) ?_
          refine ob (a := τ2) ?_ (lti (nI_1 _) rfl)
          refine ifp (by rw [d]; rfl) ?_
          refine ob r2 ?_
          exact ob k1 rfl
        · show RS τ2 t kd ch st _ hd sp
          rw [fE_take hj, if_pos d, ← List.append_assoc]; exact k2
      · refine ⟨(nI (stt st S ((ch node).getD j 0)), nI (j + 1), τ), ?_, stt st S ((ch node).getD j 0), rfl, hst, rfl, ?_, hF, hP', hle', hex'⟩
        · unfold T_splitTurning_b1
          refine ifn hnl ?_
          refine ob r2 ?_
          refine ob r3 ?_
          refine ifp (nI_le c (by omega)) ?_
          refine ob (a := τ) ?_ (lti (nI_1 _) rfl)
          exact ifn (nI_ne0 (by omega) (by omega)) rfl
        · show RS τ t kd ch st _ hd sp
          rw [fE_take hj, if_neg d, List.append_nil]; exact hR
    · right
      refine ⟨_, ?_, Or.inr ⟨?_, τ, _, rfl, hR, hF⟩⟩
      · unfold T_splitTurning_b1
        refine ifn hnl ?_
        refine ob r2 ?_
        refine ob r3 ?_
        exact ifn (nI_ge (by omega) (by omega)) rfl
      · intro hs
        rw [srt_pw] at hs
        rcases hex with hex | ⟨x, hx, ex⟩
        · omega
        · have e : ch node = (ch node).take j ++ (ch node).drop j := (List.take_append_drop j _).symm
          rw [e, List.pairwise_append] at hs
          have eg : (ch node).getD j 0 = (ch node)[j] := by rw [List.getD_eq_getElem?_getD, List.getElem?_eq_getElem hj]; rfl
          have := hs.2.2 x hx ((ch node).getD j 0) (by
            rw [eg, List.drop_eq_getElem_cons hj]; exact List.mem_cons_self)
          omega
  · intro s ⟨b, e1, hb, e2, hR, hF, hP, hle, hex⟩
    obtain ⟨s1, s2, τ⟩ := s
    simp only at e1 e2 hR hF
    subst e1 e2
    rw [List.take_length] at hR hP
    refine ⟨_, ?_, Or.inl ⟨srt_pw.mpr hP, τ, rfl, hR, hF⟩⟩
    unfold T_splitTurning_b1
    exact ifp (nI_lt (by omega) (by omega)) rfl
theorem sturn_l2 (h : RS σ t kd ch st ln hd sp) (ht : isT t) {node S : Nat} (hn : node < 24) (hC : ∀ c ∈ ch node, Us ch c) (h1 : 1 ≤ (ch node).length) (hs : srt st S (ch node)) (hcap : hd.length + (ch node).length ≤ 8) : ∃ τ, lp (fun s => T_splitTurning_b2 t (nI node) (nI S) s.1 s.2) fuel (nI ((ch node).length - 1), σ) = some τ ∧ RS τ t kd ch st ln (hd ++ (fE st S (ch node) 2).reverse) sp ∧ RF t σ τ := by
  have hlen := (h.1 node hn).1
  have hfl : (fE st S (ch node) 2).length ≤ (ch node).length := fE_len_le
  have hA : ch node = (fE st S (ch node) 0 ++ fE st S (ch node) 1) ++ fE st S (ch node) 2 := hs
  generalize hF2 : fE st S (ch node) 2 = F at *
  generalize hF1 : fE st S (ch node) 0 ++ fE st S (ch node) 1 = A at *
  have hFm : ∀ c ∈ F, stt st S c = 2 := fun c hc => (fE_mem.mp (by rw [hF2]; exact hc)).2
  have hAm : ∀ c ∈ A, stt st S c ≠ 2 := fun c hc => by
    rw [← hF1, List.mem_append] at hc
    rcases hc with hc | hc
    · rw [(fE_mem.mp hc).2]; omega
    · rw [(fE_mem.mp hc).2]; omega
  have hl : (ch node).length = A.length + F.length := by rw [hA, List.length_append]
  have key : ∃ r, lp (fun s => T_splitTurning_b2 t (nI node) (nI S) s.1 s.2) fuel (nI ((ch node).length - 1), σ) = some r ∧ (RS r t kd ch st ln (hd ++ F.reverse) sp ∧ RF t σ r) := by
    refine lp_for F.length (fun j s => s.1 = (if j < (ch node).length then nI ((ch node).length - 1 - j) else -1) ∧ RS s.2 t kd ch st ln (hd ++ F.reverse.take j) sp ∧ RF t σ s.2) _ _ 0 (by omega) ⟨by rw [if_pos (by omega)]; rfl, by simpa using h, RF.rf⟩ (by omega) ?_ ?_
    · intro j s hj ⟨e1, hR, hF⟩
      obtain ⟨s1, τ⟩ := s
      simp only at e1 hR hF
      rw [if_pos (by omega)] at e1
      subst e1
      left
      have hi : (ch node).length - 1 - j < (ch node).length := by omega
      have hm := getD_mem hi
      have hm24 := h.1.lt24 hn hm
      have r2 := hR.1.part ht hn hi
      have r3 := hR.1.state (S := S) ht hm24 (hC _ hm)
      have hlj : j < F.reverse.length := by rw [List.length_reverse]; exact hj
      have eF : (ch node).getD ((ch node).length - 1 - j) 0 = F.reverse.getD j 0 := by
        rw [rev_getD hj]
        conv => lhs; arg 1; rw [hA]
        rw [List.getD_eq_getElem?_getD, List.getElem?_append_right (by omega), List.getD_eq_getElem?_getD]
        congr 2; omega
      have hst : stt st S ((ch node).getD ((ch node).length - 1 - j) 0) = 2 := by
        rw [eF]; exact hFm _ (List.mem_reverse.mp (getD_mem hlj))
      have hcap2 : (hd ++ F.reverse.take j).length < 8 := by
        rw [List.length_append, List.length_take]; omega
      obtain ⟨τ2, k1, k2, k3⟩ := hR.hold ht hm24 hcap2
      refine ⟨(if j + 1 < (ch node).length then nI ((ch node).length - 1 - (j + 1)) else -1, τ2), ?_, rfl, ?_, hF.tr k3⟩
      · unfold T_splitTurning_b2
        refine ob (a := true) ?_ ?_
        · refine ifn (nI_pos (by omega)) ?_
          refine ob r2 ?_
          refine ob r3 ?_
          exact ifp (by rw [hst]; rfl) rfl
        · refine ifp rfl ?_
          refine ob r2 ?_
          refine ob k1 ?_
          refine lti (b := if j + 1 < (ch node).length then nI ((ch node).length - 1 - (j + 1)) else -1) ?_ rfl
          by_cases q : j + 1 < (ch node).length
          · rw [if_pos q, curr_dec (by omega)]; congr 1
          · rw [if_neg q, show (ch node).length - 1 - j = 0 by omega]; exact nI0m
      · show RS τ2 t kd ch st ln _ sp
        rw [take_succ' hlj, ← eF, ← List.append_assoc]; exact k2
    · intro s ⟨e1, hR, hF⟩
      obtain ⟨s1, τ⟩ := s
      simp only at e1 hR hF
      have e2 : F.reverse.take F.length = F.reverse := by rw [← List.length_reverse, List.take_length]
      rw [e2] at hR
      refine ⟨τ, ?_, hR, hF⟩
      unfold T_splitTurning_b2
      refine ob (a := false) ?_ rfl
      by_cases q : F.length < (ch node).length
      · rw [if_pos q] at e1
        subst e1
        have hi : (ch node).length - 1 - F.length < (ch node).length := by omega
        have hm := getD_mem hi
        have hm24 := h.1.lt24 hn hm
        have r2 := hR.1.part ht hn hi
        have r3 := hR.1.state (S := S) ht hm24 (hC _ hm)
        refine ifn (nI_pos (by omega)) ?_
        refine ob r2 ?_
        refine ob r3 ?_
        have eA : (ch node).getD ((ch node).length - 1 - F.length) 0 = A.getD (A.length - 1) 0 := by
          conv => lhs; arg 1; rw [hA]
          rw [getD_app_lt (by omega)]; congr 1; omega
        have hst := hAm _ (getD_mem (C := A) (i := A.length - 1) (by omega))
        rw [eA]
        have hst2 : stt st S (A.getD (A.length - 1) 0) ≤ 2 := by rcases stt_3 st S (A.getD (A.length - 1) 0) with e | e | e <;> omega
        exact ifn (nI_ne (b := 2) (by omega) (by omega) hst) rfl
      · rw [if_neg q] at e1
        subst e1
        exact ifp (show (-1 : Int32) < 0 by decide) rfl
  obtain ⟨r, a, b⟩ := key
  exact ⟨r, a, b⟩
end

theorem headD_g {C : List Nat} : C.headD 0 = C.getD 0 0 := by cases C <;> rfl
theorem lastD_g {C : List Nat} (h : 1 ≤ C.length) : C.getLastD 0 = C.getD (C.length - 1) 0 := by
  rw [List.getLastD_eq_getLast?, List.getLast?_eq_getElem?, List.getD_eq_getElem?_getD]
theorem ori_len {st : Nat → Nat} {S : Nat} {C : List Nat} : (ori st S C).length = C.length := ori_perm.length_eq
theorem uf_self {α : Type} {f : Nat → α} {a : Nat} : uf f a (f a) = f := by
  funext i; unfold uf; by_cases e : i = a
  · rw [if_pos e, e]
  · rw [if_neg e]
section
variable {σ : Mem} {t : Nat} {kd : Nat → Bool} {ch : Nat → List Nat} {st : Nat → Nat} {ln hd sp : List Nat}
theorem sturn_tail (h : RS σ t kd ch st ln hd sp) (ht : isT t) {node S : Nat} (hn : node < 24) (hC : ∀ c ∈ ch node, Us ch c) (h1 : 1 ≤ (ch node).length) (hcap : ln.length + (ch node).length ≤ 8) (hcap2 : hd.length + (ch node).length ≤ 8) : ∃ r τ ln' hd', (lp (fun s => T_splitTurning_b1 t (nI node) (nI S) (nI ((ch node).length - 1)) s.1 s.2.1 s.2.2) fuel (0, 0, σ)).bind (fun x => Sum.elim (fun σ48 => (lp (fun s => T_splitTurning_b2 t (nI node) (nI S) s.1 s.2) fuel (nI ((ch node).length - 1), σ48)).bind (fun σ85 => some ((1 : Int32), σ85))) (fun z => some z) x) = some (r, τ) ∧ RS τ t kd ch st ln' hd' sp ∧ RF t σ τ ∧ ((srt st S (ch node) ∧ r = 1 ∧ ln' = ln ++ fE st S (ch node) 0 ∧ hd' = hd ++ (fE st S (ch node) 2).reverse) ∨ (¬ srt st S (ch node) ∧ r = 0)) := by
  obtain ⟨r, a, b⟩ := sturn_l1 (S := S) h ht hn hC h1 hcap
  rcases b with ⟨b1, τ, e, b2, b3⟩ | ⟨b1, τ, ln', e, b2, b3⟩
  · obtain ⟨τ2, c1, c2, c3⟩ := sturn_l2 (S := S) b2 ht hn hC h1 b1 hcap2
    refine ⟨1, τ2, _, _, ?_, c2, b3.tr c3, Or.inl ⟨b1, rfl, rfl, rfl⟩⟩
    refine ob a ?_
    rw [e]
    exact ob c1 rfl
  · refine ⟨0, τ, ln', hd, ?_, b2, b3, Or.inr ⟨b1, rfl⟩⟩
    refine ob a ?_
    rw [e]; rfl
theorem RS.splitTurning (h : RS σ t kd ch st ln hd sp) (ht : isT t) {node S : Nat} (hn : node < 24) (hC : ∀ c ∈ ch node, Us ch c) (h1 : 1 ≤ (ch node).length) (hcap : ln.length + (ch node).length ≤ 8) (hcap2 : hd.length + (ch node).length ≤ 8) : ∃ r τ ln' hd', T_splitTurning t (nI node) (nI S) σ = some (r, τ) ∧ RS τ t kd (uf ch node (ori st S (ch node))) st ln' hd' sp ∧ RF t σ τ ∧ ((srt st S (ori st S (ch node)) ∧ r = 1 ∧ ln' = ln ++ fE st S (ori st S (ch node)) 0 ∧ hd' = hd ++ (fE st S (ori st S (ch node)) 2).reverse) ∨ (¬ srt st S (ori st S (ch node)) ∧ r = 0)) := by
  have hlen := (h.1 node hn).1
  have r1 := h.1.size ht hn
  have q0 := h.1.part (i := 0) ht hn (by omega)
  have m0 := getD_mem (C := ch node) (i := 0) (by omega)
  have s0 := h.1.state (S := S) ht (h.1.lt24 hn m0) (hC _ m0)
  have qL := h.1.part (i := (ch node).length - 1) ht hn (by omega)
  have mL := getD_mem (C := ch node) (i := (ch node).length - 1) (by omega)
  have sL := h.1.state (S := S) ht (h.1.lt24 hn mL) (hC _ mL)
  have hst0 : stt st S ((ch node).getD 0 0) ≤ 2 := by rcases stt_3 st S ((ch node).getD 0 0) with e | e | e <;> omega
  have hstL : stt st S ((ch node).getD ((ch node).length - 1) 0) ≤ 2 := by rcases stt_3 st S ((ch node).getD ((ch node).length - 1) 0) with e | e | e <;> omega
  by_cases c : stt st S ((ch node).headD 0) = 0 ∨ stt st S ((ch node).getLastD 0) = 2
  · have eo : ori st S (ch node) = ch node := if_pos c
    rw [eo, uf_self]
    obtain ⟨r, τ, ln', hd', g1, g2⟩ := sturn_tail (S := S) h ht hn hC h1 hcap hcap2
    refine ⟨r, τ, ln', hd', ?_, g2⟩
    unfold T_splitTurning
    refine ob r1 ?_
    refine lti (zz_dec h1) ?_
    refine ob q0 ?_
    refine ob s0 ?_
    refine ob (a := true) ?_ ?_
    · by_cases d : stt st S ((ch node).getD 0 0) = 0
      · exact ifp (by rw [d]; rfl) rfl
      · refine ifn (nI_ne0 (by omega) (by omega)) ?_
        refine ob qL ?_
        refine ob sL ?_
        rw [headD_g, lastD_g h1] at c
        rcases c with c | c
        · exact absurd c d
        · exact ifp (by rw [c]; rfl) rfl
    · refine lti (b := 1) (if_pos rfl) ?_
      refine ob (a := σ) (ifn (by decide) rfl) ?_
      exact g1
  · have eo : ori st S (ch node) = (ch node).reverse := if_neg c
    rw [eo]
    obtain ⟨w1, w2⟩ := h.1.turnP ht hn h1
    have hR2 : RS (mset σ (t + 4) (rvA (σ (t + 4)) (node * 8) (node * 8 + ((ch node).length - 1)))) t kd (uf ch node (ch node).reverse) st ln hd sp := h.f14 (fun k _ _ _ b4 => mset_ne b4) w2
    have hF2 : RF t σ (mset σ (t + 4) (rvA (σ (t + 4)) (node * 8) (node * 8 + ((ch node).length - 1)))) := F14.rf (fun k _ _ _ b4 => mset_ne b4)
    have hne : ch node ≠ [] := fun e => by rw [e] at h1; simp at h1
    have hC2 : ∀ c ∈ uf ch node (ch node).reverse node, Us (uf ch node (ch node).reverse) c := by
      rw [uf_s]
      intro x hx
      have hx := hC x (List.mem_reverse.mp hx)
      by_cases e : x = node
      · right; rw [e, uf_s]; simpa using hne
      · exact hx.uf e
    obtain ⟨r, τ, ln', hd', g1, g2, g3, g4⟩ := sturn_tail (S := S) hR2 ht hn hC2 (by rw [uf_s]; simpa using h1) (by rw [uf_s]; simpa using hcap) (by rw [uf_s]; simpa using hcap2)
    rw [uf_s] at g1 g4
    rw [List.length_reverse] at g1
    refine ⟨r, τ, ln', hd', ?_, g2, hF2.tr g3, g4⟩
    rw [headD_g, lastD_g h1] at c
    unfold T_splitTurning
    refine ob r1 ?_
    refine lti (zz_dec h1) ?_
    refine ob q0 ?_
    refine ob s0 ?_
    refine ob (a := false) ?_ ?_
    · refine ifn (nI_ne0 (by omega) (by omega)) ?_
      refine ob qL ?_
      refine ob sL ?_
      exact ifn (nI_ne (b := 2) (by omega) (by omega) (by omega)) rfl
    · refine lti (b := 0) (if_neg (by decide)) ?_
      refine ob (a := mset σ (t + 4) (rvA (σ (t + 4)) (node * 8) (node * 8 + ((ch node).length - 1)))) ?_ ?_
      · refine ifp rfl ?_
        rw [zz_dec h1] at w1
        exact ob w1 rfl
      · exact g1
end

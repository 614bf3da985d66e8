theorem getD_app_lt {A B : List Nat} {i : Nat} (h : i < A.length) : (A ++ B).getD i 0 = A.getD i 0 := by
  rw [List.getD_eq_getElem?_getD, List.getD_eq_getElem?_getD, List.getElem?_append_left h]
theorem take_succ' {C : List Nat} {j : Nat} (h : j < C.length) : C.take (j + 1) = C.take j ++ [C.getD j 0] := by
  rw [List.take_succ, List.getElem?_eq_getElem h, List.getD_eq_getElem?_getD, List.getElem?_eq_getElem h]; rfl
theorem fE_single {st : Nat → Nat} {S q c : Nat} : fE st S [c] q = if stt st S c = q then [c] else [] := by
  unfold fE; by_cases h : stt st S c = q <;> simp [h]
theorem fE_len_le {st : Nat → Nat} {S q : Nat} {C : List Nat} : (fE st S C q).length ≤ C.length := List.length_filter_le _ _
theorem fE_take {st : Nat → Nat} {S q j : Nat} {C : List Nat} (h : j < C.length) : fE st S (C.take (j + 1)) q = fE st S (C.take j) q ++ if stt st S (C.getD j 0) = q then [C.getD j 0] else [] := by
  rw [take_succ' h, fE_app, fE_single]
section
variable {σ : Mem} {t : Nat} {kd : Nat → Bool} {ch : Nat → List Nat} {st : Nat → Nat}
theorem AT.add (h : AT σ t kd ch st) {a c : Nat} (hc : c < 24) (hl : (ch a).length < 8) (h1 : σ (t + 1) a = if kd a = true then 1 else 0) (hs : st a < 256) (hsc : st c < 256) : AT (addM σ t a (ch a).length c (st a ||| st c)) t kd (uf ch a (ch a ++ [c])) (uf st a (st a ||| st c)) := by
  intro id hid
  rw [addM_2, addM_3, addM_4, addM_ne (by omega) (by omega) (by omega)]
  obtain ⟨a1, a2, a3, a4, a5⟩ := h id hid
  by_cases e : id = a
  · subst e
    rw [uf_s, uf_s, pk_us, pk_us]
    refine ⟨by simp; omega, by simp, ?_, ?_, fun _ => h1⟩
    · intro i hi
      rw [List.length_append] at hi
      by_cases q : i = (ch id).length
      · subst q
        rw [pk_us, getD_app_r]; exact ⟨hc, rfl⟩
      · have hi2 : i < (ch id).length := by simp at hi; omega
        rw [pk_un (by omega), getD_app_lt hi2]
        exact a3 i hi2
    · intro _
      refine ⟨Nat.or_lt_two_pow (n := 8) hs hsc, rfl⟩
  · rw [uf_n e, uf_n e, pk_un e, pk_un e]
    refine ⟨a1, a2, ?_, ?_, a5⟩
    · intro i hi
      rw [pk_un (by omega)]
      exact a3 i hi
    · intro hu
      refine a4 ?_
      rcases hu with hu | hu
      · exact Or.inl hu
      · rw [uf_n e] at hu; exact Or.inr hu
theorem AT.unused (h : AT σ t kd ch st) (ht : isT t) (hu : ∃ m, 8 ≤ m ∧ m < 23 ∧ ch m = []) : ∃ m, T_unusedNode t σ = some (nI m) ∧ 8 ≤ m ∧ m < 23 ∧ ch m = [] := by
  obtain ⟨m0, g1, g2, g3⟩ := hu
  have key : ∃ r, lp (fun s => T_unusedNode_b1 t σ s) fuel 8 = some r ∧ ∃ m, r = nI m ∧ 8 ≤ m ∧ m < 23 ∧ ch m = [] := by
    refine lp_for (m0 - 8) (fun j s => s = nI (8 + j)) _ 8 0 (by omega) rfl (by omega) ?_ ?_
    · intro j s hj hs
      subst hs
      by_cases c : ch (8 + j) = []
      · right
        refine ⟨_, ?_, 8 + j, rfl, by omega, by omega, c⟩
        unfold T_unusedNode_b1
        refine ob (a := false) ?_ rfl
        refine ifn (nI_ge (b := 23) (by omega) (by omega)) ?_
        refine ob (h.size ht (by omega)) ?_
        rw [c]
        exact ifp (by decide) rfl
      · left
        refine ⟨nI (8 + (j + 1)), ?_, rfl⟩
        unfold T_unusedNode_b1
        refine ob (a := true) ?_ ?_
        · refine ifn (nI_ge (b := 23) (by omega) (by omega)) ?_
          refine ob (h.size ht (by omega)) ?_
          have := (h (8 + j) (by omega)).1
          have h0 : 0 < (ch (8 + j)).length := List.length_pos_iff.mpr c
          exact ifn (nI_nle h0 (by omega)) rfl
        · refine ifp rfl ?_
          exact lti (nI_1 _) rfl
    · intro s hs
      subst hs
      have e : 8 + (m0 - 8) = m0 := by omega
      rw [e]
      refine ⟨_, ?_, m0, rfl, g1, g2, g3⟩
      unfold T_unusedNode_b1
      refine ob (a := false) ?_ rfl
      refine ifn (nI_ge (b := 23) (by omega) (by omega)) ?_
      refine ob (h.size ht (by omega)) ?_
      rw [g3]
      exact ifp (by decide) rfl
  obtain ⟨r, k1, m, k2, k3⟩ := key
  refine ⟨m, ?_, k3⟩
  unfold T_unusedNode
  refine ob k1 ?_
  rw [k2]
def optI : Option Nat → Int32
  | some c => nI c
  | none => -1
theorem fE_split {S q j : Nat} {C : List Nat} (h : j < C.length) (hq : stt st S (C.getD j 0) = q) : (fE st S C q)[(fE st S (C.take j) q).length]? = some (C.getD j 0) := by
  have e : C = C.take j ++ C.getD j 0 :: C.drop (j + 1) := by
    conv => lhs; rw [← List.take_append_drop j C]
    rw [List.drop_eq_getElem_cons h, List.getD_eq_getElem?_getD, List.getElem?_eq_getElem h]; rfl
  conv => lhs; arg 1; rw [e]
  rw [fE_app, List.getElem?_append_right (Nat.le_refl _), Nat.sub_self]
  unfold fE
  rw [List.filter_cons_of_pos (by rw [hq]; exact beq_self_eq_true q)]
  rfl
theorem AT.partIn (h : AT σ t kd ch st) (ht : isT t) {node S q nth : Nat} (hn : node < 24) (hC : ∀ c ∈ ch node, Us ch c) (hq : q ≤ 2) (hnth : nth < 8) : T_partIn t (nI node) (nI S) (nI q) (nI nth) σ = some (optI (fE st S (ch node) q)[nth]?) := by
  have hlen := (h node hn).1
  have key : ∃ r, lp (fun s => T_partIn_b1 t (nI node) (nI S) (nI q) (nI nth) σ s.1 s.2) fuel (0, 0) = some r ∧ Sum.elim (fun _u => some (-1)) (fun z => some z) r = some (optI (fE st S (ch node) q)[nth]?) := by
    refine lp_for (ch node).length (fun j s => s = (nI (fE st S ((ch node).take j) q).length, nI j) ∧ (fE st S ((ch node).take j) q).length ≤ nth) _ (0, 0) 0 (by omega) ⟨rfl, by simp [fE]⟩ (by omega) ?_ ?_
    · intro j s hj ⟨hs, hle⟩
      subst hs
      have r1 := h.size ht hn
      have r2 := h.part ht hn hj
      have hm := getD_mem hj
      have r3 := h.state (S := S) ht (h.lt24 hn hm) (hC _ hm)
      have hst : stt st S ((ch node).getD j 0) ≤ 2 := by rcases stt_3 st S ((ch node).getD j 0) with e | e | e <;> omega
      by_cases c : stt st S ((ch node).getD j 0) = q
      · by_cases d : (fE st S ((ch node).take j) q).length = nth
        · right
          refine ⟨(Sum.inr (nI ((ch node).getD j 0)) : Unit ⊕ Int32), ?_, ?_⟩
          · unfold T_partIn_b1
            refine ob r1 ?_
            refine ifn (nI_ge hj (by omega)) ?_
            refine ob r2 ?_
            refine ob r3 ?_
            refine ob (a := .inr (.inr (.inr (nI ((ch node).getD j 0))))) ?_ rfl
            refine ifp (by rw [c]) ?_
            refine ifp (by rw [d]) ?_
            exact ob r2 rfl
          · show some _ = _
            rw [← d, fE_split hj c]; rfl
        · left
          refine ⟨_, ?_, rfl, ?_⟩
          · unfold T_partIn_b1
            refine ob r1 ?_
            refine ifn (nI_ge hj (by omega)) ?_
            refine ob r2 ?_
            refine ob r3 ?_
            refine ob (a := .inl (nI ((fE st S ((ch node).take j) q).length + 1))) ?_ ?_
            · refine ifp (by rw [c]) ?_
              refine ifn (nI_ne (by omega) (by omega) d) ?_
              exact lti (nI_1 _) rfl
            · show lt (nI j + 1) (fun v => some (Sum.inl (nI ((fE st S ((ch node).take j) q).length + 1), v))) = _
              refine lti (nI_1 _) ?_
              rw [fE_take hj, if_pos c, List.length_append]; rfl
          · rw [fE_take hj, if_pos c, List.length_append]; simp; omega
      · left
        refine ⟨_, ?_, rfl, ?_⟩
        · unfold T_partIn_b1
          refine ob r1 ?_
          refine ifn (nI_ge hj (by omega)) ?_
          refine ob r2 ?_
          refine ob r3 ?_
          refine ob (a := .inl (nI (fE st S ((ch node).take j) q).length)) ?_ ?_
          · exact ifn (nI_ne (by omega) (by omega) c) rfl
          · show lt (nI j + 1) (fun v => some (Sum.inl (nI (fE st S ((ch node).take j) q).length, v))) = _
            refine lti (nI_1 _) ?_
            rw [fE_take hj, if_neg c, List.append_nil]
        · rw [fE_take hj, if_neg c, List.append_nil]; exact hle
    · intro s ⟨hs, hle⟩
      subst hs
      rw [List.take_length] at hle ⊢
      refine ⟨(Sum.inl () : Unit ⊕ Int32), ?_, ?_⟩
      · unfold T_partIn_b1
        refine ob (h.size ht hn) ?_
        exact ifp (nI_le (Nat.le_refl _) (by omega)) rfl
      · show some _ = _
        rw [List.getElem?_eq_none (by omega)]; rfl
  obtain ⟨r, k1, k2⟩ := key
  unfold T_partIn
  exact ob k1 k2
end

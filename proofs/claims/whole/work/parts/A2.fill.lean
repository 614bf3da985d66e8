section
variable {σ : Mem} {t : Nat} {kd : Nat → Bool} {ch : Nat → List Nat} {st : Nat → Nat} {ln hd sp : List Nat}
theorem us_ufn {c m : Nat} {v : List Nat} (h : Us (uf ch m v) c) (hc : c ≠ m) : Us ch c := by
  rcases h with h | h
  · exact Or.inl h
  · right; rw [uf_n hc] at h; exact h
theorem uf_uf {α : Type} {f : Nat → α} {a : Nat} {v w : α} : uf (uf f a v) a w = uf f a w := by
  funext i; unfold uf; by_cases e : i = a <;> simp [e]
/- one more part: the three cells of a node taken together -/
theorem AT.add2 (ht : isT t) {τ : Mem} {a c : Nat} {L : List Nat} {k : Bool} {kd : Nat → Bool} (h : AT τ t (uf kd a k) (uf ch a L) (uf st a (orL st L))) (ha : a < 24) (hc : c < 24) (hca : c ≠ a) (hu : Us ch c) (hsc : st c < 256) (hl : L.length < 8) (h1 : τ (t + 1) a = if k = true then 1 else 0) (h2 : τ (t + 2) a = nI (orL st L)) (ho : orL st L < 256) : ∃ τ2, T_add t (nI a) (nI c) τ = some τ2 ∧ AT τ2 t (uf kd a k) (uf ch a (L ++ [c])) (uf st a (orL st (L ++ [c]))) ∧ τ2 (t + 1) a = (if k = true then 1 else 0) ∧ τ2 (t + 2) a = nI (orL st (L ++ [c])) ∧ τ2 (t + 4) = upd (τ (t + 4)) (a * 8 + L.length) (nI c) ∧ F14 t τ τ2 := by
  have hsz : τ (t + 3) a = nI L.length := by have := (h a ha).2.1; rwa [uf_s] at this
  have hsc2 : τ (t + 2) c = nI (st c) := by have := ((h c hc).2.2.2.1 (hu.uf hca)).2; rwa [uf_n hca] at this
  have r4 := T_add_raw (σ := τ) (t := t) (a := a) (c := c) ht ha hc hl hsz h2 hsc2
  have hA2 := h.add (a := a) (c := c) hc (by rw [uf_s]; exact hl) (by rw [uf_s]; exact h1) (by rw [uf_s]; exact ho) (by rw [uf_n hca]; exact hsc)
  rw [uf_s, uf_s, uf_n hca, uf_uf, uf_uf, ← orL_snoc] at hA2
  rw [← orL_snoc] at r4
  refine ⟨_, r4, hA2, ?_, ?_, addM_4, ?_⟩
  · rw [addM_ne (by omega) (by omega) (by omega)]; exact h1
  · rw [addM_2, pk_us]
  · intro k b1 b2 b3 b4; exact addM_ne b2 b3 b4
theorem AT.reset (h : AT σ t kd ch st) {a : Nat} (k : Bool) {v1 : Int32} (hv : v1 = if k = true then 1 else 0) (τ : Mem) (e1 : τ (t + 1) = upd (σ (t + 1)) a v1) (e2 : τ (t + 2) = upd (σ (t + 2)) a 0) (e3 : τ (t + 3) = upd (σ (t + 3)) a 0) (e4 : τ (t + 4) = σ (t + 4)) : AT τ t (uf kd a k) (uf ch a []) (uf st a (orL st [])) := by
  intro id hid
  obtain ⟨a1, a2, a3, a4, a5⟩ := h id hid
  rw [e1, e2, e3, e4]
  by_cases e : id = a
  · subst e
    rw [uf_s, uf_s, uf_s, pk_us, pk_us, pk_us]
    exact ⟨by simp, rfl, fun i hi => by simp at hi, fun _ => ⟨show 0 < 256 by omega, rfl⟩, fun e => absurd rfl e⟩
  · rw [uf_n e, uf_n e, uf_n e, pk_un e, pk_un e, pk_un e]
    exact ⟨a1, a2, a3, fun hu => a4 (us_ufn hu e), a5⟩
theorem RS.fill (h : RS σ t kd ch st ln hd sp) (ht : isT t) {node : Nat} (hn : node < 24) (hl : ln.length ≤ 8) (hln : ∀ c ∈ ln, c < 24 ∧ c ≠ node ∧ Us ch c ∧ st c < 256) : ∃ τ, T_fillFromLine t (nI node) σ = some τ ∧ RS τ t (uf kd node true) (uf ch node ln) (uf st node (orL st ln)) ln hd sp ∧ F14 t σ τ := by
  let σ5 := mput (mput (mput σ (t + 1) node 1) (t + 3) node 0) (t + 2) node 0
  have f1 : σ5 (t + 1) = upd (σ (t + 1)) node 1 := by show mput _ _ _ _ _ = _; rw [mput_ne _ (by omega), mput_ne _ (by omega), mput_2]
  have f2 : σ5 (t + 2) = upd (σ (t + 2)) node 0 := by show mput _ _ _ _ _ = _; rw [mput_2, mput_ne _ (by omega), mput_ne _ (by omega)]
  have f3 : σ5 (t + 3) = upd (σ (t + 3)) node 0 := by show mput _ _ _ _ _ = _; rw [mput_ne _ (by omega), mput_2, mput_ne _ (by omega)]
  have f4 : σ5 (t + 4) = σ (t + 4) := by show mput _ _ _ _ _ = _; rw [mput_ne _ (by omega), mput_ne _ (by omega), mput_ne _ (by omega)]
  have hF5 : F14 t σ σ5 := fun k b1 b2 b3 b4 => by show mput _ _ _ _ _ = _; rw [mput_ne _ b2, mput_ne _ b3, mput_ne _ b1]
  have hA5 := h.1.reset (a := node) true (v1 := 1) rfl σ5 f1 f2 f3 f4
  have hln5 : LA σ5 t 7 5 ln := hF5.la (by omega) h.2.1
  have key : ∃ r, lp (fun s => T_fillFromLine_b1 t (nI node) s.1 s.2) fuel (0, σ5) = some r ∧ (AT r t (uf kd node true) (uf ch node ln) (uf st node (orL st ln)) ∧ F14 t σ r) := by
    refine lp_for ln.length (fun j s => s.1 = nI j ∧ AT s.2 t (uf kd node true) (uf ch node (ln.take j)) (uf st node (orL st (ln.take j))) ∧ s.2 (t + 1) node = 1 ∧ s.2 (t + 2) node = nI (orL st (ln.take j)) ∧ F14 t σ s.2) _ _ 0 (by omega) ⟨rfl, hA5, by show σ5 (t + 1) node = 1; rw [f1, pk_us], by show σ5 (t + 2) node = _; rw [f2, pk_us]; rfl, hF5⟩ (by omega) ?_ ?_
    · intro j s hj ⟨hs, hA, k1, k2, hF⟩
      obtain ⟨s1, τ⟩ := s
      simp only at hs hA k1 k2 hF
      subst hs
      left
      have hm := getD_mem hj
      obtain ⟨c1, c2, c3, c4⟩ := hln _ hm
      have hla : LA τ t 7 5 ln := hF.la (by omega) h.2.1
      obtain ⟨τ2, g1, g2, g3, g4, g5, g6⟩ := hA.add2 ht hn c1 c2 c3 c4 (by rw [List.length_take]; omega) k1 k2 (orL_lt (fun c hc => (hln c (List.mem_of_mem_take hc)).2.2.2))
      rw [← take_succ' hj] at g2 g4
      refine ⟨(nI (j + 1), τ2), ?_, rfl, g2, g3, g4, hF.tr g6⟩
      unfold T_fillFromLine_b1
      refine ifn (by show ¬ τ t 7 ≤ nI j; rw [hla.1]; exact nI_ge hj (by omega)) ?_
      refine ob (a := nI (ln.getD j 0)) ?_ ?_
      · show rd τ _ _ = _; rw [rdT (lnT5 ht) (by omega) (by omega), hla.2 j hj]
      · refine ob g1 ?_
        exact lti (nI_1 _) rfl
    · intro s ⟨hs, hA, k1, k2, hF⟩
      obtain ⟨s1, τ⟩ := s
      simp only at hs hA k1 k2 hF
      subst hs
      rw [List.take_length] at hA
      have hla : LA τ t 7 5 ln := hF.la (by omega) h.2.1
      refine ⟨τ, ?_, hA, hF⟩
      unfold T_fillFromLine_b1
      exact ifp (by show τ t 7 ≤ _; rw [hla.1]; exact nI_le (Nat.le_refl _) (by omega)) rfl
  obtain ⟨r, k1, k2, k3⟩ := key
  refine ⟨r, ?_, h.f14 k3 k2, k3⟩
  unfold T_fillFromLine
  refine ob (wrT (lnT1 ht) hn (by omega)) ?_
  refine ob (wrT (lnT3 ht) hn (by omega)) ?_
  refine ob (wrT (lnT2 ht) hn (by omega)) ?_
  exact ob k1 rfl
theorem RS.keep (h : RS σ t kd ch st ln hd sp) (ht : isT t) {node S : Nat} (hn : node < 24) (hne : ch node ≠ []) (hC : ∀ c ∈ ch node, c ≠ node ∧ Us ch c ∧ st c < 256) : ∃ τ, T_keepEmpty t (nI node) (nI S) σ = some τ ∧ RS τ t kd (uf ch node (fE st S (ch node) 0)) (uf st node (orL st (fE st S (ch node) 0))) ln hd sp ∧ F14 t σ τ ∧ τ (t + 1) node = (if kd node = true then 1 else 0) ∧ τ (t + 2) node = nI (orL st (fE st S (ch node) 0)) := by
  have hlen := (h.1 node hn).1
  let σ5 := mput (mput σ (t + 3) node 0) (t + 2) node 0
  have f1 : σ5 (t + 1) = σ (t + 1) := by show mput _ _ _ _ _ = _; rw [mput_ne _ (by omega), mput_ne _ (by omega)]
  have f2 : σ5 (t + 2) = upd (σ (t + 2)) node 0 := by show mput _ _ _ _ _ = _; rw [mput_2, mput_ne _ (by omega)]
  have f3 : σ5 (t + 3) = upd (σ (t + 3)) node 0 := by show mput _ _ _ _ _ = _; rw [mput_ne _ (by omega), mput_2]
  have f4 : σ5 (t + 4) = σ (t + 4) := by show mput _ _ _ _ _ = _; rw [mput_ne _ (by omega), mput_ne _ (by omega)]
  have hF5 : F14 t σ σ5 := fun k b1 b2 b3 b4 => by show mput _ _ _ _ _ = _; rw [mput_ne _ b2, mput_ne _ b3]
  have hk0 := (h.1 node hn).2.2.2.2 hne
  have hA5 := h.1.reset (a := node) (kd node) (v1 := σ (t + 1) node) hk0 σ5 (by rw [f1]; funext i; rw [upd_at]; by_cases e : i = node; rw [if_pos e, e]; rw [if_neg e]) f2 f3 f4
  have key : ∃ r, lp (fun s => T_keepEmpty_b1 t (nI node) (nI S) (nI (ch node).length) s.1 s.2) fuel (0, σ5) = some r ∧ (AT r t (uf kd node (kd node)) (uf ch node (fE st S (ch node) 0)) (uf st node (orL st (fE st S (ch node) 0))) ∧ F14 t σ r ∧ r (t + 1) node = (if kd node = true then 1 else 0) ∧ r (t + 2) node = nI (orL st (fE st S (ch node) 0))) := by
    refine lp_for (ch node).length (fun j s => s.1 = nI j ∧ AT s.2 t (uf kd node (kd node)) (uf ch node (fE st S ((ch node).take j) 0)) (uf st node (orL st (fE st S ((ch node).take j) 0))) ∧ s.2 (t + 1) node = (if kd node = true then 1 else 0) ∧ s.2 (t + 2) node = nI (orL st (fE st S ((ch node).take j) 0)) ∧ (∀ i, j ≤ i → i < (ch node).length → s.2 (t + 4) (node * 8 + i) = nI ((ch node).getD i 0)) ∧ F14 t σ s.2) _ _ 0 (by omega) ⟨rfl, hA5, by show σ5 (t + 1) node = _; rw [f1]; exact hk0, by show σ5 (t + 2) node = _; rw [f2, pk_us]; rfl, fun i _ hi => by show σ5 (t + 4) _ = _; rw [f4]; exact ((h.1 node hn).2.2.1 i hi).2, hF5⟩ (by omega) ?_ ?_
    · intro j s hj ⟨hs, hA, k1, k2, hraw, hF⟩
      obtain ⟨s1, τ⟩ := s
      simp only at hs hA k1 k2 hraw hF
      subst hs
      left
      have hm := getD_mem hj
      obtain ⟨c2, c3, c4⟩ := hC _ hm
      have c1 := h.1.lt24 hn hm
      have r2 : T_part t (nI node) (nI j) τ = some (nI ((ch node).getD j 0)) := by rw [T_part_raw ht hn (by omega), hraw j (Nat.le_refl _) hj]
      have r3 : T_stateOf t (nI ((ch node).getD j 0)) (nI S) τ = some (nI (stt st S ((ch node).getD j 0))) := by have := hA.state (S := S) ht c1 (c3.uf c2); rwa [stt_uf c2] at this
      have hst : stt st S ((ch node).getD j 0) ≤ 2 := by rcases stt_3 st S ((ch node).getD j 0) with e | e | e <;> omega
      have hfl : (fE st S ((ch node).take j) 0).length ≤ j := by
        have := fE_len_le (st := st) (S := S) (q := 0) (C := (ch node).take j)
        rw [List.length_take] at this; omega
      by_cases c : stt st S ((ch node).getD j 0) = 0
      · obtain ⟨τ2, g1, g2, g3, g4, g5, g6⟩ := hA.add2 ht hn c1 c2 c3 c4 (by omega) k1 k2 (orL_lt (fun c hc => (hC c (List.mem_of_mem_take (fE_mem.mp hc).1)).2.2))
        have e0 : fE st S ((ch node).take j) 0 ++ [(ch node).getD j 0] = fE st S ((ch node).take (j + 1)) 0 := by rw [fE_take hj, if_pos c]
        rw [e0] at g2 g4
        refine ⟨(nI (j + 1), τ2), ?_, rfl, g2, g3, g4, ?_, hF.tr g6⟩
        · unfold T_keepEmpty_b1
          refine ifn (nI_ge hj (by omega)) ?_
          refine ob r2 ?_
          refine ob r3 ?_
          refine ob (a := τ2) ?_ (lti (nI_1 _) rfl)
          refine ifp (by rw [c]; rfl) ?_
          refine ob r2 ?_
          exact ob g1 rfl
        · intro i h1 h2
          show τ2 (t + 4) _ = _
          rw [g5, pk_un (by omega)]; exact hraw i (by omega) h2
      · have e0 : fE st S ((ch node).take (j + 1)) 0 = fE st S ((ch node).take j) 0 := by rw [fE_take hj, if_neg c, List.append_nil]
        refine ⟨(nI (j + 1), τ), ?_, rfl, by rw [e0]; exact hA, k1, by rw [e0]; exact k2, fun i h1 h2 => hraw i (by omega) h2, hF⟩
        unfold T_keepEmpty_b1
        refine ifn (nI_ge hj (by omega)) ?_
        refine ob r2 ?_
        refine ob r3 ?_
        refine ob (a := τ) ?_ (lti (nI_1 _) rfl)
        exact ifn (nI_ne0 (by omega) (by omega)) rfl
    · intro s ⟨hs, hA, k1, k2, hraw, hF⟩
      obtain ⟨s1, τ⟩ := s
      simp only at hs hA k1 k2 hF
      subst hs
      rw [List.take_length] at hA k2
      refine ⟨τ, ?_, hA, hF, k1, k2⟩
      unfold T_keepEmpty_b1
      exact ifp (nI_le (Nat.le_refl _) (by omega)) rfl
  obtain ⟨r, k1, k2, k3, k4, k5⟩ := key
  rw [uf_self] at k2
  refine ⟨r, ?_, h.f14 k3 k2, k3, k4, k5⟩
  unfold T_keepEmpty
  refine ob (h.1.size ht hn) ?_
  refine ob (wrT (lnT3 ht) hn (by omega)) ?_
  refine ob (wrT (lnT2 ht) hn (by omega)) ?_
  exact ob k1 rfl
def clr (ch : Nat → List Nat) (L : List Nat) : Nat → List Nat := fun i => if i ∈ L then [] else ch i
theorem RS.give (h : RS σ t kd ch st ln hd sp) (ht : isT t) (hsp : ∀ i ∈ sp, i < 24) : ∃ τ, T_giveBackSplit t σ = some τ ∧ AT τ t kd (clr ch sp) st ∧ F14 t σ τ := by
  have h7 := h.2.2.2.2
  have key : ∃ r, lp (fun s => T_giveBackSplit_b1 t s.1 s.2) fuel (0, σ) = some r ∧ (AT r t kd (clr ch sp) st ∧ F14 t σ r) := by
    refine lp_for sp.length (fun j s => s.1 = nI j ∧ AT s.2 t kd (clr ch (sp.take j)) st ∧ F14 t σ s.2) _ _ 0 (by omega) ⟨rfl, ?_, fun _ _ _ _ _ => rfl⟩ (by omega) ?_ ?_
    · have : clr ch (sp.take 0) = ch := by funext i; simp [clr]
      rw [this]; exact h.1
    · intro j s hj ⟨hs, hA, hF⟩
      obtain ⟨s1, τ⟩ := s
      simp only at hs hA hF
      subst hs
      left
      have hla : LA τ t 11 7 sp := hF.la (by omega) h.2.2.2.1
      have h24 := hsp _ (getD_mem hj)
      refine ⟨(nI (j + 1), mput τ (t + 3) (sp.getD j 0) 0), ?_, rfl, ?_, ?_⟩
      · unfold T_giveBackSplit_b1
        refine ifn (by show ¬ τ t 11 ≤ nI j; rw [hla.1]; exact nI_ge hj (by omega)) ?_
        refine ob (a := nI (sp.getD j 0)) (by show rd τ _ _ = _; rw [rdT (lnT7 ht) (by omega) (by omega), hla.2 j hj]) ?_
        refine ob (wrT (lnT3 ht) h24 (by omega)) ?_
        exact lti (nI_1 _) rfl
      · intro id hid
        obtain ⟨a1, a2, a3, a4, a5⟩ := hA id hid
        show _ ∧ mput _ _ _ _ (t + 3) id = _ ∧ (∀ i, _ → _ ∧ mput _ _ _ _ (t + 4) _ = _) ∧ (_ → _ ∧ mput _ _ _ _ (t + 2) id = _) ∧ (_ → mput _ _ _ _ (t + 1) id = _)
        rw [mput_2, mput_ne (t + 4) (by omega), mput_ne (t + 2) (by omega), mput_ne (t + 1) (by omega)]
        by_cases e : id = sp.getD j 0
        · have ec : clr ch (sp.take (j + 1)) id = [] := if_pos (by rw [take_succ' hj, e]; simp)
          rw [ec, e, pk_us]
          refine ⟨by simp, rfl, fun i hi => by simp at hi, fun hu => ?_, fun q => absurd rfl q⟩
          rw [← e]
          rcases hu with hu | hu
          · exact a4 (Or.inl (by rw [e]; exact hu))
          · rw [← e, ec] at hu; exact absurd rfl hu
        · have ec : clr ch (sp.take (j + 1)) id = clr ch (sp.take j) id := by
            unfold clr
            rw [take_succ' hj]
            by_cases q : id ∈ sp.take j
            · rw [if_pos q, if_pos (by simp [q])]
            · rw [if_neg q, if_neg (by rw [List.mem_append, List.mem_singleton]; exact fun g => g.elim q e)]
          rw [ec, pk_un e]
          refine ⟨a1, a2, a3, fun hu => a4 ?_, a5⟩
          rcases hu with hu | hu
          · exact Or.inl hu
          · right; rw [ec] at hu; exact hu
      · intro k b1 b2 b3 b4
        show mput _ _ _ _ k = _
        rw [mput_ne _ b3]; exact hF k b1 b2 b3 b4
    · intro s ⟨hs, hA, hF⟩
      obtain ⟨s1, τ⟩ := s
      simp only at hs hA hF
      subst hs
      rw [List.take_length] at hA
      have hla : LA τ t 11 7 sp := hF.la (by omega) h.2.2.2.1
      refine ⟨τ, ?_, hA, hF⟩
      unfold T_giveBackSplit_b1
      exact ifp (by show τ t 11 ≤ _; rw [hla.1]; exact nI_le (Nat.le_refl _) (by omega)) rfl
  obtain ⟨r, k1, k2⟩ := key
  refine ⟨r, ?_, k2⟩
  unfold T_giveBackSplit
  exact ob k1 rfl
end

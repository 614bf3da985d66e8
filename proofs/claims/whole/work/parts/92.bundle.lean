def LA (σ : Mem) (t f k : Nat) (L : List Nat) : Prop := σ t f = nI L.length ∧ SgAt (σ (t + k)) L
def LF (t k f : Nat) (σ τ : Mem) : Prop := (∀ j, j ≠ t → j ≠ t + k → τ j = σ j) ∧ ∀ i, i ≠ f → τ t i = σ t i
theorem LA.pushM {σ : Mem} {t f k c : Nat} {L : List Nat} (hk : 0 < k) (h : LA σ t f k L) : LA (mput (mput σ (t + k) L.length (nI c)) t f (nI (L.length + 1))) t f k (L ++ [c]) ∧ LF t k f σ (mput (mput σ (t + k) L.length (nI c)) t f (nI (L.length + 1))) := by
  refine ⟨⟨?_, ?_⟩, ?_, ?_⟩
  · rw [mput_at, if_pos ⟨rfl, rfl⟩]; simp
  · rw [mput_ne _ (by omega)]
    have : mput σ (t + k) L.length (nI c) (t + k) = upd (σ (t + k)) L.length (nI c) := by simp [mput, mset]
    rw [this]
    exact h.2.push
  · intro j h1 h2
    rw [mput_ne _ h1, mput_ne _ h2]
  · intro i hi
    rw [mput_at, if_neg (fun e => hi e.2), mput_ne _ (by omega)]
theorem T_append_some {σ : Mem} {t c : Nat} {L : List Nat} (ht : isT t) (hc : c < 24) (h : LA σ t 7 5 L) (hl : L.length < 8) : ∃ τ, T_append t (nI c) σ = some τ ∧ LA τ t 7 5 (L ++ [c]) ∧ LF t 5 7 σ τ := by
  obtain ⟨a, b⟩ := LA.pushM (c := c) (by omega) h
  refine ⟨_, ?_, a, b⟩
  unfold T_append
  refine lti (b := true) ?_ ?_
  · rw [if_neg (nI_nm1 (by omega)), h.1]; exact if_neg (nI_ge (b := 8) hl (by omega))
  · refine ob (a := mput (mput σ (t + 5) L.length (nI c)) t 7 (nI (L.length + 1))) ?_ rfl
    refine ifp rfl ?_
    refine ob (a := mput σ (t + 5) L.length (nI c)) (by rw [h.1]; exact wrT (lnT5 ht) hl (by omega)) ?_
    refine lti (b := mput (mput σ (t + 5) L.length (nI c)) t 7 (nI (L.length + 1))) ?_ rfl
    rw [mput_ne t (by omega), h.1, nI_1]
theorem T_append_none {σ : Mem} {t : Nat} : T_append t (-1) σ = some σ := by
  unfold T_append
  refine lti (b := false) (if_pos rfl) ?_
  refine ob (a := σ) ?_ rfl
  exact ifn (by decide) rfl
theorem T_hold_some {σ : Mem} {t c : Nat} {L : List Nat} (ht : isT t) (hc : c < 24) (h : LA σ t 9 6 L) (hl : L.length < 8) : ∃ τ, T_hold t (nI c) σ = some τ ∧ LA τ t 9 6 (L ++ [c]) ∧ LF t 6 9 σ τ := by
  obtain ⟨a, b⟩ := LA.pushM (c := c) (by omega) h
  refine ⟨_, ?_, a, b⟩
  unfold T_hold
  refine lti (b := true) ?_ ?_
  · rw [if_neg (nI_nm1 (by omega)), h.1]; exact if_neg (nI_ge (b := 8) hl (by omega))
  · refine ob (a := mput (mput σ (t + 6) L.length (nI c)) t 9 (nI (L.length + 1))) ?_ rfl
    refine ifp rfl ?_
    refine ob (a := mput σ (t + 6) L.length (nI c)) (by rw [h.1]; exact wrT (lnT6 ht) hl (by omega)) ?_
    refine lti (b := mput (mput σ (t + 6) L.length (nI c)) t 9 (nI (L.length + 1))) ?_ rfl
    rw [mput_ne t (by omega), h.1, nI_1]
theorem T_hold_none {σ : Mem} {t : Nat} : T_hold t (-1) σ = some σ := by
  unfold T_hold
  refine lti (b := false) (if_pos rfl) ?_
  refine ob (a := σ) ?_ rfl
  exact ifn (by decide) rfl
theorem T_mark_some {σ : Mem} {t c : Nat} {L : List Nat} (ht : isT t) (h : LA σ t 11 7 L) (hl : L.length < 7) : ∃ τ, T_markSplit t (nI c) σ = some τ ∧ LA τ t 11 7 (L ++ [c]) ∧ LF t 7 11 σ τ := by
  obtain ⟨a, b⟩ := LA.pushM (c := c) (by omega) h
  refine ⟨_, ?_, a, b⟩
  unfold T_markSplit
  refine ob (a := mput (mput σ (t + 7) L.length (nI c)) t 11 (nI (L.length + 1))) ?_ rfl
  refine ifn (by rw [h.1]; exact nI_ge (b := 7) hl (by omega)) ?_
  refine ob (a := mput σ (t + 7) L.length (nI c)) (by rw [h.1]; exact wrT (lnT7 ht) hl (by omega)) ?_
  refine lti (b := mput (mput σ (t + 7) L.length (nI c)) t 11 (nI (L.length + 1))) ?_ rfl
  rw [mput_ne t (by omega), h.1, nI_1]
theorem LF.at_ {t k f : Nat} {σ τ : Mem} (h : LF t k f σ τ) {kd : Nat → Bool} {ch : Nat → List Nat} {st : Nat → Nat} (hk : 5 ≤ k) (ha : AT σ t kd ch st) : AT τ t kd ch st :=
  ha.same (h.1 _ (by omega) (by omega)) (h.1 _ (by omega) (by omega)) (h.1 _ (by omega) (by omega)) (h.1 _ (by omega) (by omega))
theorem LF.la {t k f k2 f2 : Nat} {σ τ : Mem} {L : List Nat} (h : LF t k f σ τ) (hk : k2 ≠ k) (hf : f2 ≠ f) (h0 : 0 < k2) (ha : LA σ t f2 k2 L) : LA τ t f2 k2 L := by
  refine ⟨?_, ?_⟩
  · rw [h.2 _ hf]; exact ha.1
  · rw [h.1 _ (by omega) (by omega)]; exact ha.2
def F14 (t : Nat) (σ τ : Mem) : Prop := ∀ k, k ≠ t + 1 → k ≠ t + 2 → k ≠ t + 3 → k ≠ t + 4 → τ k = σ k
theorem F14.la {t k2 f2 : Nat} {σ τ : Mem} {L : List Nat} (h : F14 t σ τ) (hk : 5 ≤ k2) (ha : LA σ t f2 k2 L) : LA τ t f2 k2 L := by
  refine ⟨?_, ?_⟩
  · rw [h t (by omega) (by omega) (by omega) (by omega)]; exact ha.1
  · rw [h _ (by omega) (by omega) (by omega) (by omega)]; exact ha.2
theorem F14.tr {t : Nat} {a b c : Mem} (h1 : F14 t a b) (h2 : F14 t b c) : F14 t a c := fun k a1 a2 a3 a4 => (h2 k a1 a2 a3 a4).trans (h1 k a1 a2 a3 a4)
theorem stt_uf {st : Nat → Nat} {S m v c : Nat} (h : c ≠ m) : stt (uf st m v) S c = stt st S c := by unfold stt; rw [uf_n h]
theorem Us.uf {ch : Nat → List Nat} {m c : Nat} {v : List Nat} (h : Us ch c) (hc : c ≠ m) : Us (uf ch m v) c := by
  rcases h with h | h
  · exact Or.inl h
  · right; rw [uf_n hc]; exact h
theorem orL_snoc {st : Nat → Nat} {L : List Nat} {c : Nat} : orL st (L ++ [c]) = orL st L ||| st c := by
  rw [orL_app]; show _ ||| (st c ||| 0) = _; rw [Nat.or_zero]
theorem orL_lt {st : Nat → Nat} : ∀ {L : List Nat}, (∀ c ∈ L, st c < 256) → orL st L < 256
  | [], _ => by show 0 < 256; omega
  | c :: L, h => Nat.or_lt_two_pow (n := 8) (h c (by simp)) (orL_lt fun d hd => h d (by simp [hd]))
section
variable {σ : Mem} {t : Nat} {kd : Nat → Bool} {ch : Nat → List Nat} {st : Nat → Nat}
theorem bundle_loop (h : AT σ t kd ch st) (ht : isT t) {node S q m : Nat} (hn : node < 24) (hC : ∀ c ∈ ch node, Us ch c) (hq : q ≤ 2) (hm : 8 ≤ m ∧ m < 23) (hm0 : ch m = []) (hne : ch node ≠ []) (h1 : σ (t + 1) m = 0) (h2 : σ (t + 2) m = 0) : ∃ τ, lp (fun s => T_bundle_b1 t (nI node) (nI S) (nI q) (nI m) s.1 s.2) fuel (0, σ) = some τ ∧ AT τ t (uf kd m false) (uf ch m (fE st S (ch node) q)) (uf st m (orL st (fE st S (ch node) q))) ∧ F14 t σ τ := by
  have hlen := (h node hn).1
  have hnm : node ≠ m := fun e => hne (by rw [e]; exact hm0)
  have hcm : ∀ c ∈ ch node, c ≠ m ∧ c < 24 := fun c hc => ⟨fun e => by rcases hC c hc with u | u; omega; exact u (by rw [e]; exact hm0), h.lt24 hn hc⟩
  have h0 : AT σ t (uf kd m false) (uf ch m []) (uf st m 0) := by
    intro id hid
    obtain ⟨a1, a2, a3, a4, a5⟩ := h id hid
    by_cases e : id = m
    · subst e
      rw [uf_s, uf_s]
      rw [hm0] at a2
      refine ⟨by simp, a2, fun i hi => by simp at hi, fun _ => ⟨by omega, h2⟩, fun e => absurd rfl e⟩
    · rw [uf_n e, uf_n e, uf_n e]
      refine ⟨a1, a2, a3, fun hu => a4 ?_, a5⟩
      rcases hu with hu | hu
      · exact Or.inl hu
      · rw [uf_n e] at hu; exact Or.inr hu
  let C := ch node
  have key : ∃ r, lp (fun s => T_bundle_b1 t (nI node) (nI S) (nI q) (nI m) s.1 s.2) fuel (0, σ) = some r ∧ (AT r t (uf kd m false) (uf ch m (fE st S (ch node) q)) (uf st m (orL st (fE st S (ch node) q))) ∧ F14 t σ r) := by
    refine lp_for (ch node).length (fun j s => s.1 = nI j ∧ AT s.2 t (uf kd m false) (uf ch m (fE st S ((ch node).take j) q)) (uf st m (orL st (fE st S ((ch node).take j) q))) ∧ s.2 (t + 1) m = 0 ∧ s.2 (t + 2) m = nI (orL st (fE st S ((ch node).take j) q)) ∧ F14 t σ s.2) _ (0, σ) 0 (by omega) ⟨rfl, h0, h1, h2, fun _ _ _ _ _ => rfl⟩ (by omega) ?_ ?_
    · intro j s hj ⟨hs, hA, k1, k2, hF⟩
      obtain ⟨s1, τ⟩ := s
      simp only at hs hA k1 k2 hF
      subst hs
      left
      have hm' := getD_mem hj
      obtain ⟨hcm1, hcm2⟩ := hcm _ hm'
      have r1 : rd τ (t + 3) (nI node) = some (nI (ch node).length) := by have := hA.size ht hn; rwa [uf_n hnm] at this
      have r2 : T_part t (nI node) (nI j) τ = some (nI ((ch node).getD j 0)) := by have := hA.part (i := j) ht hn (by rw [uf_n hnm]; exact hj); rwa [uf_n hnm] at this
      have r3 : T_stateOf t (nI ((ch node).getD j 0)) (nI S) τ = some (nI (stt st S ((ch node).getD j 0))) := by have := hA.state (S := S) ht hcm2 ((hC _ hm').uf hcm1); rwa [stt_uf hcm1] at this
      have hst : stt st S ((ch node).getD j 0) ≤ 2 := by rcases stt_3 st S ((ch node).getD j 0) with e | e | e <;> omega
      by_cases c : stt st S ((ch node).getD j 0) = q
      · have hcl : (fE st S ((ch node).take j) q).length < 8 := by
          have := fE_len_le (st := st) (S := S) (q := q) (C := (ch node).take j)
          rw [List.length_take] at this; omega
        have hsc := ((h _ hcm2).2.2.2.1 (hC _ hm'))
        have hor : orL st (fE st S ((ch node).take j) q) < 256 := by
          refine orL_lt (fun c hc => ?_)
          have hc2 : c ∈ ch node := List.mem_of_mem_take (fE_mem.mp hc).1
          exact ((h c (h.lt24 hn hc2)).2.2.2.1 (hC c hc2)).1
        have hsz : τ (t + 3) m = nI (fE st S ((ch node).take j) q).length := by have := (hA m (by omega)).2.1; rwa [uf_s] at this
        have hsc2 : τ (t + 2) ((ch node).getD j 0) = nI (st ((ch node).getD j 0)) := by have := ((hA _ hcm2).2.2.2.1 ((hC _ hm').uf hcm1)).2; rwa [uf_n hcm1] at this
        have r4 := T_add_raw (σ := τ) (t := t) (a := m) (c := (ch node).getD j 0) ht (by omega) hcm2 hcl hsz k2 hsc2
        have hA2 := hA.add (a := m) (c := (ch node).getD j 0) hcm2 (by rw [uf_s]; exact hcl) (by rw [uf_s]; exact k1) (by rw [uf_s]; exact hor) (by rw [uf_n hcm1]; exact hsc.1)
        rw [uf_s, uf_s, uf_n hcm1] at hA2
        have e1 : uf (uf ch m (fE st S ((ch node).take j) q)) m (fE st S ((ch node).take j) q ++ [(ch node).getD j 0]) = uf ch m (fE st S ((ch node).take (j + 1)) q) := by
          funext i; rw [fE_take hj, if_pos c]; unfold uf; by_cases e : i = m <;> simp [e]
        have e3 : orL st (fE st S ((ch node).take j) q) ||| st ((ch node).getD j 0) = orL st (fE st S ((ch node).take (j + 1)) q) := by rw [fE_take hj, if_pos c, orL_snoc]
        have e2 : uf (uf st m (orL st (fE st S ((ch node).take j) q))) m (orL st (fE st S ((ch node).take j) q) ||| st ((ch node).getD j 0)) = uf st m (orL st (fE st S ((ch node).take (j + 1)) q)) := by
          funext i; rw [e3]; unfold uf; by_cases e : i = m <;> simp [e]
        rw [e1, e2] at hA2
        refine ⟨(nI (j + 1), _), ?_, rfl, hA2, ?_, ?_, ?_⟩
        · unfold T_bundle_b1
          refine ob r1 ?_
          refine ifn (nI_ge hj (by omega)) ?_
          refine ob r2 ?_
          refine ob r3 ?_
          refine ob (a := addM τ t m (fE st S ((ch node).take j) q).length ((ch node).getD j 0) (orL st (fE st S ((ch node).take j) q) ||| st ((ch node).getD j 0))) ?_ ?_
          · refine ifp (by rw [c]) ?_
            refine ob r2 ?_
            exact ob r4 rfl
          · exact lti (nI_1 _) rfl
        · show addM _ _ _ _ _ _ (t + 1) m = 0
          rw [addM_ne (by omega) (by omega) (by omega)]; exact k1
        · show addM _ _ _ _ _ _ (t + 2) m = _
          rw [addM_2, pk_us, e3]
        · intro k b1 b2 b3 b4
          show addM _ _ _ _ _ _ k = _
          rw [addM_ne b2 b3 b4]; exact hF k b1 b2 b3 b4
      · have e0 : fE st S ((ch node).take (j + 1)) q = fE st S ((ch node).take j) q := by rw [fE_take hj, if_neg c, List.append_nil]
        refine ⟨(nI (j + 1), τ), ?_, rfl, by rw [e0]; exact hA, k1, by rw [e0]; exact k2, hF⟩
        unfold T_bundle_b1
        refine ob r1 ?_
        refine ifn (nI_ge hj (by omega)) ?_
        refine ob r2 ?_
        refine ob r3 ?_
        refine ob (a := τ) ?_ ?_
        · exact ifn (nI_ne (by omega) (by omega) c) rfl
        · exact lti (nI_1 _) rfl
    · intro s ⟨hs, hA, k1, k2, hF⟩
      obtain ⟨s1, τ⟩ := s
      simp only at hs hA k1 k2 hF
      subst hs
      rw [List.take_length] at hA
      refine ⟨τ, ?_, hA, hF⟩
      have r1 : rd τ (t + 3) (nI node) = some (nI (ch node).length) := by have := hA.size ht hn; rwa [uf_n hnm] at this
      unfold T_bundle_b1
      refine ob r1 ?_
      exact ifp (nI_le (Nat.le_refl _) (by omega)) rfl
  obtain ⟨r, a, b⟩ := key
  exact ⟨r, a, b⟩
end

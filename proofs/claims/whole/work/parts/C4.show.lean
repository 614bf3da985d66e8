theorem T_setAt_eq {σ : Mem} {a p N : Nat} {v : Int32} (hN : lenOf a = N) (hp : p < N) (hN2 : N < 2 ^ 31) : T_setAt a (nI p) v σ = some (mput σ a p v) := by
  unfold T_setAt
  refine lti (b := true) ?_ ?_
  · rw [if_neg (nI_pos (by omega)), hN]; exact if_neg (nI_ge hp hN2)
  · refine ob (a := mput σ a p v) ?_ rfl
    refine ifp rfl ?_
    exact ob (wrT hN hp hN2) rfl
def lnT (kd : Nat → Bool) (ch : Nat → List Nat) (i : Nat) : Nat := (txD kd ch 8 i).length
def ofs (f : Nat → Nat) (C : List Nat) (k : Nat) : Nat := ((C.take k).map f).sum
theorem ofs_s {f : Nat → Nat} {C : List Nat} {k : Nat} (h : k < C.length) : ofs f C (k + 1) = ofs f C k + f (C.getD k 0) := by
  unfold ofs; rw [take_succ' h]; simp
theorem ofs_all {f : Nat → Nat} {C : List Nat} : ofs f C C.length = (C.map f).sum := by unfold ofs; rw [List.take_length]
theorem ofs_le {f : Nat → Nat} {C : List Nat} {k : Nat} (h : k < C.length) : ofs f C k + f (C.getD k 0) ≤ (C.map f).sum := by
  have e : C = C.take (k + 1) ++ C.drop (k + 1) := (List.take_append_drop _ _).symm
  have h2 : (C.map f).sum = ofs f C (k + 1) + ((C.drop (k + 1)).map f).sum := by
    unfold ofs
    rw [← List.sum_append, ← List.map_append, List.take_append_drop]
  rw [h2, ofs_s h]; omega
theorem ofs_find {f : Nat → Nat} {C : List Nat} : ∀ (n x : Nat), n ≤ C.length → x < ofs f C n → ∃ k, k < n ∧ ofs f C k ≤ x ∧ x < ofs f C k + f (C.getD k 0)
  | 0, x, _, h => by unfold ofs at h; simp at h
  | n + 1, x, hn, h => by
    rw [ofs_s (by omega)] at h
    by_cases q : x < ofs f C n
    · obtain ⟨k, h1, h2⟩ := ofs_find n x (by omega) q
      exact ⟨k, by omega, h2⟩
    · exact ⟨n, by omega, by omega, h⟩
def Loc (T : List Nat) (f : Nat → List Nat) (i s : Nat) : Prop := ∃ pre post, T = pre ++ (f i ++ post) ∧ pre.length = s
theorem flat_split {f : Nat → List Nat} {C : List Nat} {k : Nat} (h : k < C.length) : C.flatMap f = (C.take k).flatMap f ++ (f (C.getD k 0) ++ (C.drop (k + 1)).flatMap f) := by
  conv => lhs; rw [← List.take_append_drop k C]
  rw [List.flatMap_append, List.drop_eq_getElem_cons h, List.flatMap_cons, List.getD_eq_getElem?_getD, List.getElem?_eq_getElem h]; rfl
theorem flat_len {f : Nat → List Nat} {C : List Nat} {k : Nat} : ((C.take k).flatMap f).length = ofs (fun c => (f c).length) C k := by
  unfold ofs; exact len_flat
section
variable {σ : Mem} {t : Nat} {kd : Nat → Bool} {ch : Nat → List Nat} {st : Nat → Nat} {root : Nat} {T : List Nat}
theorem lnT_node {i : Nat} (hw : WfD kd ch st 8 i) (h8 : 8 ≤ i) : lnT kd ch i = 2 + ((ch i).map (lnT kd ch)).sum := by
  unfold lnT
  rw [(tx_node hw h8).1, List.length_cons, List.length_append, len_flat]
  simp [lnT]
  omega
theorem lnT_leaf {i : Nat} (h : i < 8) : lnT kd ch i = 1 ∧ txD kd ch 8 i = [97 + i] := by
  have : txD kd ch 8 i = [97 + i] := by unfold txD; rw [if_pos h]
  unfold lnT; rw [this]; exact ⟨rfl, rfl⟩
theorem loc_kid {i s k : Nat} (hw : WfD kd ch st 8 i) (h8 : 8 ≤ i) (hL : Loc T (txD kd ch 8) i s) (hk : k < (ch i).length) : Loc T (txD kd ch 8) ((ch i).getD k 0) (s + 1 + ofs (lnT kd ch) (ch i) k) := by
  obtain ⟨pre, post, e, hs⟩ := hL
  rw [(tx_node hw h8).1, flat_split hk] at e
  refine ⟨pre ++ opS (kd i) :: ((ch i).take k).flatMap (txD kd ch 8), ((ch i).drop (k + 1)).flatMap (txD kd ch 8) ++ [clS (kd i)] ++ post, ?_, ?_⟩
  · rw [e]; simp
  · rw [List.length_append, List.length_cons, flat_len, hs]
    show s + (ofs (lnT kd ch) (ch i) k + 1) = _
    omega
theorem loc_end {i s : Nat} (hw : WfD kd ch st 8 i) (h8 : 8 ≤ i) (hL : Loc T (txD kd ch 8) i s) : T.getD s 0 = opS (kd i) ∧ T.getD (s + 1 + ((ch i).map (lnT kd ch)).sum) 0 = clS (kd i) ∧ s + lnT kd ch i ≤ T.length := by
  have hl := lnT_node hw h8
  obtain ⟨pre, post, e, hs⟩ := hL
  have hlen : T.length = s + (lnT kd ch i + post.length) := by rw [e, List.length_append, List.length_append, hs]; rfl
  rw [(tx_node hw h8).1] at e
  refine ⟨?_, ?_, by omega⟩
  · rw [e, List.getD_eq_getElem?_getD, List.getElem?_append_right (by omega), hs, Nat.sub_self]; rfl
  · have e2 : T = (pre ++ opS (kd i) :: (ch i).flatMap (txD kd ch 8)) ++ clS (kd i) :: post := by rw [e]; simp
    have hl2 : (pre ++ opS (kd i) :: (ch i).flatMap (txD kd ch 8)).length = s + 1 + ((ch i).map (lnT kd ch)).sum := by
      rw [List.length_append, List.length_cons, len_flat, hs]
      show s + (((ch i).map (lnT kd ch)).sum + 1) = _
      omega
    rw [e2, List.getD_eq_getElem?_getD, List.getElem?_append_right (by omega), hl2, Nat.sub_self]; rfl
theorem loc_leaf {i s : Nat} (h8 : i < 8) (hL : Loc T (txD kd ch 8) i s) : T.getD s 0 = 97 + i ∧ s < T.length := by
  obtain ⟨pre, post, e, hs⟩ := hL
  rw [(lnT_leaf h8).2] at e
  constructor
  · rw [e, List.getD_eq_getElem?_getD, List.getElem?_append_right (by omega), hs, Nat.sub_self]; rfl
  · rw [e, List.length_append, hs]; simp
/- the lengths -/
theorem show_len (h : DR σ t kd ch st root) (ht : isT t) (h8 : 8 ≤ root) {c : Nat} (hc : c = (ndD ch 8 root).length) : ∃ f, lp (fun s => T_show_b2 t s.1 s.2) fuel (nI (8 + c - 1), σ) = some (mset σ (t + 9) f) ∧ (∀ i, i < 8 + c → f i = nI (lnT kd ch i)) ∧ ∀ i, i < 8 → f i = σ (t + 9) i := by
  obtain ⟨c', e1, f1, f2, f3, f4, f5, f6⟩ := h.facts
  have e1 : c' = c := by rw [e1, hc]
  subst e1
  have hA := h.1.1
  have hl8 : ∀ i, i < 8 → σ (t + 9) i = nI (lnT kd ch i) := fun i hi => by rw [(lnT_leaf hi).1]; exact (h.1.2.2.2.2.1 i hi).2.2
  have key : ∃ r, lp (fun s => T_show_b2 t s.1 s.2) fuel (nI (8 + c' - 1), σ) = some r ∧ ∃ f, r = mset σ (t + 9) f ∧ (∀ i, i < 8 + c' → f i = nI (lnT kd ch i)) ∧ ∀ i, i < 8 → f i = σ (t + 9) i := by
    refine lp_for c' (fun j s => ∃ f, s = (nI (8 + c' - 1 - j), mset σ (t + 9) f) ∧ (∀ i, i < 8 → f i = σ (t + 9) i) ∧ ∀ i, 8 + c' - 1 - j < i → i < 8 + c' → f i = nI (lnT kd ch i)) _ _ 0 (by omega) ⟨σ (t + 9), by rw [mset_self]; rfl, fun _ _ => rfl, fun i q1 q2 => by omega⟩ (by omega) ?_ ?_
    · intro j s hj ⟨f, e, g1, g2⟩
      subst e
      left
      have hid : 8 ≤ 8 + c' - 1 - j ∧ 8 + c' - 1 - j < 8 + c' := by omega
      obtain ⟨id, hide⟩ : ∃ id, id = 8 + c' - 1 - j := ⟨_, rfl⟩
      rw [← hide] at hid g2 ⊢
      obtain ⟨w1, w2, w3, w4, w5, w6⟩ := f6 id hid.1 hid.2
      have hAm : ∀ g, AT (mset σ (t + 9) g) t kd ch st := fun g => hA.same (mset_ne (by omega)) (mset_ne (by omega)) (mset_ne (by omega)) (mset_ne (by omega))
      have hfk : ∀ e ∈ ch id, f e = nI (lnT kd ch e) ∧ e ≠ id ∧ e < 24 := fun e he => by
        rcases (w6 e he).2.2.2.2 with q | q
        · exact ⟨by rw [g1 e q]; exact hl8 e q, by omega, by omega⟩
        · exact ⟨g2 e q.1 q.2, by omega, by omega⟩
      have inner : ∃ r, lp (fun s => T_show_b1 t (nI id) s.1 s.2) fuel (0, mset σ (t + 9) (upd f id 2)) = some r ∧ r = mset σ (t + 9) (upd f id (nI (lnT kd ch id))) := by
        refine lp_for (ch id).length (fun i s => s = (nI i, mset σ (t + 9) (upd f id (nI (2 + ofs (lnT kd ch) (ch id) i))))) _ _ 0 (by omega) rfl (by omega) ?_ ?_
        · intro i s hi hs
          subst hs
          left
          have hm := getD_mem hi
          obtain ⟨q1, q2, q3⟩ := hfk _ hm
          refine ⟨_, ?_, rfl⟩
          unfold T_show_b1
          refine ob ((hAm _).size ht (by omega)) ?_
          refine ifn (nI_ge hi (by omega)) ?_
          refine ob (a := nI (2 + ofs (lnT kd ch) (ch id) i)) ?_ ?_
          · show rd (mset σ (t + 9) _) _ _ = _
            rw [rdT (lnT9 ht) (by omega) (by omega), mset_eq, pk_us]
          refine ob ((hAm _).part ht (by omega) hi) ?_
          refine ob (a := nI (lnT kd ch ((ch id).getD i 0))) ?_ ?_
          · show rd (mset σ (t + 9) _) _ _ = _
            rw [rdT (lnT9 ht) q3 (by omega), mset_eq, pk_un q2, q1]
          refine ob (wrT (lnT9 ht) (by omega) (by omega)) ?_
          refine lti (nI_1 _) ?_
          show some (Sum.inl (nI (i + 1), mput (mset σ (t + 9) _) _ _ _)) = _
          rw [mput_mset, upd_upd, nI_add, ofs_s hi, Nat.add_assoc]
        · intro s hs
          subst hs
          refine ⟨_, ?_, rfl⟩
          unfold T_show_b1
          refine ob ((hAm _).size ht (by omega)) ?_
          refine (ifp (nI_le (Nat.le_refl _) (by omega)) ?_)
          rw [ofs_all, ← lnT_node w1 hid.1]
      obtain ⟨r, i1, i2⟩ := inner
      refine ⟨(nI (id - 1), mset σ (t + 9) (upd f id (nI (lnT kd ch id)))), ?_, upd f id (nI (lnT kd ch id)), ?_, ?_, ?_⟩
      · unfold T_show_b2
        refine ifn (nI_nlt (b := 8) (by omega) (by omega)) ?_
        refine ob (a := mset σ (t + 9) (upd f id 2)) ?_ ?_
        · show wr (mset σ (t + 9) f) _ _ _ = _
          rw [wrT (lnT9 ht) (by omega) (by omega), mput_mset]
        · refine ob i1 ?_
          refine lti (curr_dec (by omega)) ?_
          rw [i2]
      · rw [show 8 + c' - 1 - (j + 1) = id - 1 by omega]
      · intro i hi; rw [upd_at, if_neg (by omega)]; exact g1 i hi
      · intro i q1 q2
        rw [upd_at]
        by_cases q : i = id
        · rw [if_pos q, q]
        · rw [if_neg q]; exact g2 i (by omega) q2
    · intro s ⟨f, e, g1, g2⟩
      subst e
      refine ⟨_, ?_, f, rfl, ?_, g1⟩
      · unfold T_show_b2
        exact ifp (nI_lt (b := 8) (by omega) (by omega)) rfl
      · intro i hi
        by_cases q : i < 8
        · rw [g1 i q]; exact hl8 i q
        · exact g2 i (by omega) hi
  obtain ⟨r, k1, f, k2, k3⟩ := key
  exact ⟨f, by rw [k1, k2], k3⟩
end

theorem lp_dn {S R : Type} {f : S → Option (S ⊕ R)} (I : Nat → S → Prop) (Q : R → Prop) (h : ∀ m s, I m s → (∃ s2 m2, m2 < m ∧ f s = some (.inl s2) ∧ I m2 s2) ∨ (∃ r, f s = some (.inr r) ∧ Q r)) (m : Nat) (s : S) (hI : I m s) (hm : m < 900000) : ∃ r, lp f fuel s = some r ∧ Q r := by
  have key : ∀ (n : Nat) (m : Nat) (s : S), m < n → I m s → ∃ r, lp f n s = some r ∧ Q r := by
    intro n
    induction n with
    | zero => intro m s hm; omega
    | succ n ih =>
      intro m s hm hI
      rcases h m s hI with ⟨s2, m2, h1, h2, h3⟩ | ⟨r, h1, h2⟩
      · obtain ⟨r, r1, r2⟩ := ih m2 s2 (by omega) h3
        refine ⟨r, ?_, r2⟩
        unfold lp
        exact ob h2 r1
      · refine ⟨r, ?_, h2⟩
        unfold lp
        exact ob h1 rfl
  obtain ⟨r, r1, r2⟩ := key (m + 1) m s (by omega) hI
  exact ⟨r, lp_fu r1 (by omega), r2⟩
theorem nI_am1 {a : Nat} : nI a + (-1) = nI a - 1 := by rw [Int32.sub_eq_add_neg]
theorem nI0_m1 : nI 0 - 1 < 0 := by decide
def NF (kd : Nat → Bool) (ch : Nat → List Nat) (st : Nat → Nat) (root c : Nat) : Prop := WfD kd ch st 8 root ∧ st root < 256 ∧ c = (ndD ch 8 root).length ∧ c ≤ 7 ∧ (∀ j, j < c → (ndD ch 8 root).getD j 0 = 8 + j) ∧ (∀ i ∈ ndD ch 8 root, 8 ≤ i ∧ i < 8 + c ∧ 2 ≤ (ch i).length ∧ (ch i).length ≤ 8 ∧ st i < 256 ∧ ∀ e ∈ ch i, st e < 256 ∧ st e ≠ 0)
theorem NdA.same {σ τ : Mem} {kd : Nat → Bool} {ch : Nat → List Nat} {st : Nat → Nat} {L : List Nat} (h : NdA σ kd ch st L) (h49 : τ 49 = σ 49) (h50 : τ 50 = σ 50) (h51 : τ 51 = σ 51) (h52 : τ 52 = σ 52) : NdA τ kd ch st L := fun i hi => by
  rw [h49, h50, h51, h52]; exact h i hi
theorem DR.nf {σ : Mem} {t : Nat} {kd : Nat → Bool} {ch : Nat → List Nat} {st : Nat → Nat} {root : Nat} (h : DR σ t kd ch st root) : NF kd ch st root (ndD ch 8 root).length := by
  obtain ⟨c, e1, f1, f2, f3, f4, f5, f6⟩ := h.facts
  have h256r : st root < 256 := ((h.1.1 root h.1.2.2.1).2.2.2.1 (us_wf h.1.2.2.2.1)).1
  have hrg := h.2.2.2.2
  refine ⟨h.2.1, h256r, rfl, by omega, fun j hj => ?_, fun i hi => ?_⟩
  · rw [hrg, List.getD_eq_getElem?_getD, List.getElem?_range' (by rw [hrg, List.length_range'] at hj; exact hj)]
    simp
  · obtain ⟨u1, u2⟩ := (f3 i).mp hi
    obtain ⟨w1, w2, w3, w4, w5, w6⟩ := f6 i u1 u2
    exact ⟨u1, by omega, w3, w4, w5, fun e he => ⟨(w6 e he).2.2.1, (w6 e he).2.2.2.1⟩⟩
section
variable {τ : Mem} {kd : Nat → Bool} {ch : Nat → List Nat} {st : Nat → Nat} {root c : Nat}
theorem fr_digits (hN : NF kd ch st root c) (hA : NdA τ kd ch st (ndD ch 8 root)) {num : Nat} (hnum : num < 2 ^ 31) : ∃ f, lp (fun s => M_findsRow_b1 s.1 s.2.1 s.2.2) fuel (nI num, nI c - 1, τ) = some (mset τ 56 f) ∧ ∀ j, j < c → f j = nI (dgF (wyF kd ch) c num (8 + j)) := by
  obtain ⟨n1, n2, n3, n4, n5, n6⟩ := hN
  have key : ∃ r, lp (fun s => M_findsRow_b1 s.1 s.2.1 s.2.2) fuel (nI num, nI c - 1, τ) = some r ∧ ∃ f, r = mset τ 56 f ∧ ∀ j, j < c → f j = nI (dgF (wyF kd ch) c num (8 + j)) := by
    refine lp_for c (fun j s => ∃ f, s = (nI (rsW (wyF kd ch) c num j), nI (c - j) - 1, mset τ 56 f) ∧ ∀ i, c - j ≤ i → i < c → f i = nI (dgF (wyF kd ch) c num (8 + i))) _ _ 0 (by omega) ⟨τ 56, by rw [mset_self]; rfl, fun i q1 q2 => by omega⟩ (by omega) ?_ ?_
    · intro j s hj ⟨f, e, hf⟩
      subst e
      left
      obtain ⟨id, hide⟩ : ∃ id, id = c - j - 1 := ⟨_, rfl⟩
      have hid : id < c := by omega
      have hg := n5 id hid
      have hmem : 8 + id ∈ ndD ch 8 root := by rw [← hg]; exact getD_mem (by omega)
      obtain ⟨-, -, w3, w4, -, -⟩ := n6 _ hmem
      have hAm : ∀ f, NdA (mset τ 56 f) kd ch st (ndD ch 8 root) := fun f => hA.same (mset_ne (by omega)) (mset_ne (by omega)) (mset_ne (by omega)) (mset_ne (by omega))
      have hW : ∀ f, M_waysAt (nI id) (mset τ 56 f) = some (nI (wyF kd ch (8 + id))) := fun f => by
        have := M_waysAt_eq (hAm f) (j := id) (by omega) (by omega) (by rw [hg]; omega) (by rw [hg]; exact w4)
        rw [hg] at this
        exact this
      have hp := wyF_pos (kd := kd) (ch := ch) (i := 8 + id)
      have hl := wyF_lt (kd := kd) (ch := ch) (i := 8 + id) w4
      have hr : rsW (wyF kd ch) c num j < 2 ^ 31 := Nat.lt_of_le_of_lt (rsW_le j) hnum
      have hdg : rsW (wyF kd ch) c num j % wyF kd ch (8 + id) = dgF (wyF kd ch) c num (8 + id) := by
        unfold dgF; rw [show 8 + c - 1 - (8 + id) = j by omega]
      have hpos : nI (c - j) - 1 = nI id := by rw [zz_dec (by omega), hide]
      refine ⟨(nI (rsW (wyF kd ch) c num (j + 1)), nI (c - (j + 1)) - 1, mset τ 56 (upd f id (nI (dgF (wyF kd ch) c num (8 + id))))), ?_, _, rfl, fun i q1 q2 => ?_⟩
      · show M_findsRow_b1 (nI (rsW (wyF kd ch) c num j)) (nI (c - j) - 1) (mset τ 56 f) = _
        rw [hpos]
        unfold M_findsRow_b1
        refine ifn (nI_nlt (b := 0) (by omega) (by omega)) ?_
        refine ob (hW f) ?_
        refine ob (rm_eq hr hp hl) ?_
        refine ob (a := mset τ 56 (upd f id (nI (dgF (wyF kd ch) c num (8 + id))))) ?_ ?_
        · rw [wrT (N := 8) rfl (by omega) (by omega), mput_mset, hdg]
        refine ob (hW _) ?_
        refine ob (dv_eq hr hp hl) ?_
        refine lti (b := nI (c - (j + 1)) - 1) (by rw [nI_am1, show c - (j + 1) = id by omega]) ?_
        show some (Sum.inl (nI (rsW (wyF kd ch) c num j / wyF kd ch (8 + id)), _, _)) = some (Sum.inl (nI (rsW (wyF kd ch) c num j / wyF kd ch (8 + c - 1 - j)), _, _))
        rw [show 8 + c - 1 - j = 8 + id by omega]
      · rw [upd_at]
        by_cases q : i = id
        · rw [if_pos q, q]
        · rw [if_neg q]; exact hf i (by omega) q2
    · intro s ⟨f, e, hf⟩
      subst e
      refine ⟨mset τ 56 f, ?_, f, rfl, fun i q2 => hf i (by omega) q2⟩
      show M_findsRow_b1 _ (nI (c - c) - 1) _ = _
      rw [Nat.sub_self]
      unfold M_findsRow_b1
      exact ifp nI0_m1 rfl
  obtain ⟨r, k1, f, k2, k3⟩ := key
  exact ⟨f, by rw [k1, k2], k3⟩
theorem fr_push {at_ r m N : Nat} {O S : List Nat} (hl : O.length = m) (hO : ∀ x ∈ O, x < m) (h58 : ∀ i, i < m → τ 58 i = nI (O.getD i 0)) (hP : PtF (τ 52) st at_ m (fun x => (ch N).getD x 0)) (hm : m ≤ 8) (hat : at_ < 8) (hr : r + m ≤ 64) (hS : SgAt (τ 55) S) (hSl : S.length = r) : ∃ p, lp (fun s => M_findsRow_b2 (nI at_) s.1 s.2.1 s.2.2) fuel (nI r, nI m - 1, τ) = some (nI (r + m), mset τ 55 p) ∧ SgAt p (S ++ (chO ch N O).reverse.map st) := by
  have hcl : (chO ch N O).length = m := by unfold chO; rw [List.length_map, hl]
  have key : ∃ q, lp (fun s => M_findsRow_b2 (nI at_) s.1 s.2.1 s.2.2) fuel (nI r, nI m - 1, τ) = some q ∧ ∃ p, q = (nI (r + m), mset τ 55 p) ∧ SgAt p (S ++ (chO ch N O).reverse.map st) := by
    refine lp_for m (fun j s => ∃ p, s = (nI (r + j), nI (m - j) - 1, mset τ 55 p) ∧ SgAt p (S ++ ((chO ch N O).drop (m - j)).reverse.map st)) _ _ 0 (by omega) ⟨τ 55, by rw [mset_self]; rfl, ?_⟩ (by omega) ?_ ?_
    · rw [Nat.sub_zero, List.drop_of_length_le (by omega)]
      simpa using hS
    · intro j s hj ⟨p, e, hp⟩
      subst e
      left
      obtain ⟨i, hi⟩ : ∃ i, i = m - j - 1 := ⟨_, rfl⟩
      have him : i < m := by omega
      have hpos : nI (m - j) - 1 = nI i := by rw [zz_dec (by omega), hi]
      have hoi : O.getD i 0 < m := hO _ (getD_mem (by omega))
      have hx : (chO ch N O).drop i = (ch N).getD (O.getD i 0) 0 :: (chO ch N O).drop (i + 1) := by
        rw [List.drop_eq_getElem_cons (by omega)]
        congr 1
        unfold chO
        rw [List.getElem_map]
        congr 1
        rw [List.getD_eq_getElem?_getD, List.getElem?_eq_getElem (by omega)]; rfl
      obtain ⟨S2, hS2⟩ : ∃ S2, S2 = S ++ ((chO ch N O).drop (m - j)).reverse.map st := ⟨_, rfl⟩
      have hS2l : S2.length = r + j := by
        rw [hS2, List.length_append, List.length_map, List.length_reverse, List.length_drop, hcl, hSl]; omega
      rw [← hS2] at hp
      refine ⟨(nI (r + (j + 1)), nI (m - (j + 1)) - 1, mset τ 55 (upd p (r + j) (nI (st ((ch N).getD (O.getD i 0) 0))))), ?_, _, rfl, ?_⟩
      · show M_findsRow_b2 (nI at_) (nI (r + j)) (nI (m - j) - 1) (mset τ 55 p) = _
        rw [hpos]
        unfold M_findsRow_b2
        refine ifn (nI_nlt (b := 0) (by omega) (by omega)) ?_
        refine ob (a := nI (O.getD i 0)) (by rw [rdT (N := 8) rfl (by omega) (by omega), mset_ne (by omega), h58 i him]) ?_
        refine ob (a := nI (st ((ch N).getD (O.getD i 0) 0))) ?_ ?_
        · rw [L_8, xI_mul, nI_add, rdT (N := 64) rfl (by omega) (by omega), mset_ne (by omega)]
          rw [hP _ hoi]
        refine ob (a := mset τ 55 (upd p (r + j) (nI (st ((ch N).getD (O.getD i 0) 0))))) ?_ ?_
        · rw [wrT (N := 64) rfl (by omega) (by omega), mput_mset]
        refine lti (nI_1 _) ?_
        refine lti (b := nI (m - (j + 1)) - 1) (by rw [nI_am1, show m - (j + 1) = i by omega]) ?_
        rfl
      · have := hp.push (x := st ((ch N).getD (O.getD i 0) 0))
        rw [hS2l] at this
        rw [show m - (j + 1) = i by omega, hx, List.reverse_cons, List.map_append, ← List.append_assoc, show i + 1 = m - j by omega, ← hS2]
        exact this
    · intro s ⟨p, e, hp⟩
      subst e
      refine ⟨(nI (r + m), mset τ 55 p), ?_, p, rfl, ?_⟩
      · show M_findsRow_b2 (nI at_) _ (nI (m - m) - 1) _ = _
        rw [Nat.sub_self]
        unfold M_findsRow_b2
        exact ifp nI0_m1 rfl
      · rw [Nat.sub_self, List.drop_zero] at hp; exact hp
  obtain ⟨q, k1, p, k2, k3⟩ := key
  exact ⟨p, by rw [k1, k2], k3⟩
end

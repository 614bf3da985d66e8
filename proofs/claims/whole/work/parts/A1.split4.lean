section
variable {σ0 σ : Mem} {t : Nat} {kd0 kd : Nat → Bool} {ch0 ch : Nat → List Nat} {st0 st : Nat → Nat} {ln hd sp nw : List Nat}
theorem RS.field9 (h : RS σ t kd ch st ln hd sp) {A : List Nat} (hA : SgAt (σ (t + 6)) A) : RS (mput σ t 9 (nI A.length)) t kd ch st ln A sp := by
  have hF : ∀ k, k ≠ t → mput σ t 9 (nI A.length) k = σ k := fun k hk => mput_ne k hk
  refine ⟨h.1.same (hF _ (by omega)) (hF _ (by omega)) (hF _ (by omega)) (hF _ (by omega)), ⟨?_, ?_⟩, ⟨?_, ?_⟩, ⟨?_, ?_⟩, h.2.2.2.2⟩
  · rw [mput_at, if_neg (by omega)]; exact h.2.1.1
  · rw [hF _ (by omega)]; exact h.2.1.2
  · rw [mput_at, if_pos ⟨rfl, rfl⟩]
  · rw [hF _ (by omega)]; exact hA
  · rw [mput_at, if_neg (by omega)]; exact h.2.2.2.1.1
  · rw [hF _ (by omega)]; exact h.2.2.2.1.2
theorem rf9 {v : Int32} : RF t σ (mput σ t 9 v) := ⟨fun k hk => mput_ne k (by omega), by rw [mput_at, if_neg (by omega)], by rw [mput_at, if_neg (by omega)]⟩
theorem RS.unhold (ht : isT t) : ∀ (hd : List Nat) (ln : List Nat) (σ : Mem), RS σ t kd ch st ln hd sp → (∀ c ∈ hd, c < 24) → ln.length + hd.length ≤ 8 → ∃ τ, lp (fun s => T_splitToLine_b2 t s) fuel σ = some τ ∧ RS τ t kd ch st (ln ++ hd.reverse) [] sp ∧ RF t σ τ := by
  intro hd ln σ h h24 hcap
  have key : ∃ r, lp (fun s => T_splitToLine_b2 t s) fuel σ = some r ∧ (RS r t kd ch st (ln ++ hd.reverse) [] sp ∧ RF t σ r) := by
    refine lp_for hd.length (fun j s => RS s t kd ch st (ln ++ hd.reverse.take j) (hd.take (hd.length - j)) sp ∧ RF t σ s) _ _ 0 (by omega) ⟨by simpa using h, RF.rf⟩ (by omega) ?_ ?_
    · intro j τ hj ⟨hR, hF⟩
      left
      have hi : hd.length - (j + 1) < hd.length := by omega
      have e1 : hd.take (hd.length - j) = hd.take (hd.length - (j + 1)) ++ [hd.getD (hd.length - (j + 1)) 0] := by
        rw [show hd.length - j = hd.length - (j + 1) + 1 by omega]; exact take_succ' hi
      rw [e1] at hR
      have hl : (hd.take (hd.length - (j + 1))).length = hd.length - (j + 1) := by rw [List.length_take]; omega
      obtain ⟨g1, g2⟩ := hR.2.2.1.2.pop
      have hR2 := hR.field9 g1
      have e9 : τ t 9 = nI (hd.length - (j + 1) + 1) := by have := hR.2.2.1.1; rw [List.length_append, hl] at this; exact this
      rw [hl] at hR2 g2
      have hc24 : hd.getD (hd.length - (j + 1)) 0 < 24 := h24 _ (getD_mem hi)
      obtain ⟨τ2, k1, k2, k3⟩ := hR2.append ht hc24 (by rw [List.length_append, List.length_take, List.length_reverse]; omega)
      refine ⟨τ2, ?_, ?_, (hF.tr rf9).tr k3⟩
      · unfold T_splitToLine_b2
        refine ifn (by rw [e9]; exact nI_nle (by omega) (by omega)) ?_
        refine lti (b := mput τ t 9 (nI (hd.length - (j + 1)))) (by rw [e9, nI_pred]) ?_
        refine ob (a := nI (hd.getD (hd.length - (j + 1)) 0)) ?_ (ob k1 rfl)
        rw [mput_at, if_pos ⟨rfl, rfl⟩, rdT (lnT6 ht) (by omega) (by omega), mput_ne _ (by omega), g2]
      · have hlj : j < hd.reverse.length := by rw [List.length_reverse]; exact hj
        rw [take_succ' hlj, rev_getD hj, ← List.append_assoc, show hd.length - 1 - j = hd.length - (j + 1) by omega]
        exact k2
    · intro τ ⟨hR, hF⟩
      rw [Nat.sub_self, List.take_zero, ← List.length_reverse, List.take_length] at hR
      refine ⟨τ, ?_, hR, hF⟩
      unfold T_splitToLine_b2
      exact ifp (by rw [hR.2.2.1.1]; decide) rfl
  obtain ⟨r, a, b⟩ := key
  exact ⟨r, a, b⟩
theorem RS.turnL (h : RS σ t kd ch st (ln ++ hd) nw sp) (ht : isT t) (h1 : 1 ≤ hd.length) (h8 : ln.length + hd.length ≤ 8) : ∃ τ, T_turn (t + 5) (nI ln.length) ((σ t 7) - 1) σ = some τ ∧ RS τ t kd ch st (ln ++ hd.reverse) nw sp ∧ RF t σ τ := by
  have e7 : (σ t 7) - 1 = nI (ln.length + hd.length - 1) := by rw [h.2.1.1, List.length_append, zz_dec (by omega)]
  refine ⟨mset σ (t + 5) (rvA (σ (t + 5)) ln.length (ln.length + hd.length - 1)), ?_, ⟨?_, ⟨?_, ?_⟩, ⟨?_, ?_⟩, ⟨?_, ?_⟩, h.2.2.2.2⟩, ⟨?_, ?_, ?_⟩⟩
  · rw [e7]; exact T_turn_eq (lnT5 ht) (by omega) (by omega) (by omega)
  · exact h.1.same (mset_ne (by omega)) (mset_ne (by omega)) (mset_ne (by omega)) (mset_ne (by omega))
  · rw [mset_ne (by omega), h.2.1.1]; simp
  · rw [mset_eq]
    intro i hi
    rw [List.length_append, List.length_reverse] at hi
    have hs := h.2.1.2
    unfold rvA
    by_cases c : ln.length ≤ i
    · rw [if_pos (by omega)]
      rw [hs _ (by rw [List.length_append]; omega)]
      congr 1
      rw [List.getD_eq_getElem?_getD, List.getD_eq_getElem?_getD, List.getElem?_append_right (by omega), List.getElem?_append_right (by omega), List.getElem?_reverse (by omega)]
      congr 2; omega
    · rw [if_neg (by omega), hs i (by rw [List.length_append]; omega), getD_app_lt (by omega), getD_app_lt (by omega)]
  · rw [mset_ne (by omega)]; exact h.2.2.1.1
  · rw [mset_ne (by omega)]; exact h.2.2.1.2
  · rw [mset_ne (by omega)]; exact h.2.2.2.1.1
  · rw [mset_ne (by omega)]; exact h.2.2.2.1.2
  · intro k hk; exact mset_ne (by omega)
  · rw [mset_ne (by omega)]
  · rw [mset_ne (by omega)]
theorem itl_mem {kd : Nat → Bool} {ch : Nat → List Nat} {st st0 : Nat → Nat} {nw : List Nat} : ∀ {A : List Nat} {B : List (List Nat)}, ItL kd ch st st0 nw A B → ∀ a ∈ A, a ∈ nw ∨ [a] ∈ B
  | [], [], _, a, h => by simp at h
  | x :: A, L :: B, h, a, ha => by
    rw [List.mem_cons] at ha
    rcases ha with ha | ha
    · subst ha
      rcases h.1 with e | e
      · right; rw [e]; simp
      · exact Or.inl e.1
    · rcases itl_mem h.2 a ha with g | g
      · exact Or.inl g
      · right; simp [g]
  | [], _ :: _, h, _, _ => h.elim
  | _ :: _, [], h, _, _ => h.elim
theorem sl_ok (hA0 : AT σ0 t kd0 ch0 st0) (ht : isT t) {U0 : List Nat} (hU : ∀ i, 8 ≤ i → i < 24 → ch0 i ≠ [] → i ∈ U0) (hU7 : U0.length ≤ 7) (hR : RS σ t kd ch st ln hd sp) (hX : XI kd0 ch0 st0 kd ch st sp nw) {d id S u : Nat} (hw : WfD kd0 ch0 st0 d id) (h8 : 8 ≤ id) (hn : id < 24) (h1 : stt st0 S id = 1) (hns : ∀ i ∈ ndD ch0 d id, i ∉ sp) (hsp : ∀ i ∈ sp, 8 ≤ i ∧ i < 24) (b1 : ln.length ≤ u) (b2 : 2 * nw.length ≤ u) (b3 : sp.length ≤ u) (b4 : u + pc8 (st0 id) ≤ 8) (wl : Bool) (x3 : Int32) (hx3 : x3 = if wl = true then 1 else 0) :
    (splitA kd0 ch0 st0 S d id = none ∧ ∃ τ, T_splitToLine t (nI id) (nI S) x3 σ = some (0, τ) ∧ WK t ch0 st0 τ ∧ RF t σ τ) ∨
    ∃ items X τ kd' ch' st' hd' sp' nw', splitA kd0 ch0 st0 S d id = some items ∧ T_splitToLine t (nI id) (nI S) x3 σ = some (1, τ) ∧ RS τ t kd' ch' st' (ln ++ (if wl = true then X else X.reverse)) hd' sp' ∧ RF t σ τ ∧ XI kd0 ch0 st0 kd' ch' st' sp' nw' ∧ ItL kd' ch' st' st0 nw' X items ∧ SmN kd ch st nw kd' ch' st' nw' ∧ ln.length + X.length ≤ u + pc8 (st0 id) ∧ 2 * nw'.length ≤ u + pc8 (st0 id) ∧ sp'.length ≤ u + pc8 (st0 id) ∧ (∀ i ∈ nw', i ∈ nw ∨ i ∈ X) ∧ (∀ i ∈ sp', 8 ≤ i ∧ i < 24) ∧ (∀ i ∈ sp', i ∈ sp ∨ (i ∈ ndD ch0 d id ∧ stt st0 S i = 1)) ∧ (∀ i ∈ sp, i ∈ sp') ∧ ∀ i ∈ ndD ch0 d id, stt st0 S i = 1 → i ∈ sp' := by
  have hR0 : RS (mput σ t 9 0) t kd ch st ln [] sp := hR.field9 (A := []) (fun i hi => by simp at hi)
  have hI : SLI t kd0 ch0 st0 S σ ln sp nw kd ch st d id (u + pc8 (st0 id)) (some id) 0 (mput σ t 9 0) := by
    refine ⟨kd, ch, st, [], [], sp, nw, [], [], d, u, by simpa using hR0, rf9, hX, trivial, trivial, ?_, fun i hi => ⟨rfl, rfl, rfl, hi⟩, by simpa using b1, b2, b3, by omega, fun i hi => Or.inl hi, hsp, fun i hi => Or.inl hi, fun i hi => hi, ?_, fun e => by cases e⟩
    · show _ = (splitA kd0 ch0 st0 S d id).map _
      cases splitA kd0 ch0 st0 S d id <;> simp
    · intro node e
      cases e
      exact ⟨hw, h1, h8, hn, hns, Nat.le_refl _, fun i hi => hi, fun i hi _ => Or.inr hi⟩
  obtain ⟨r, l1, l2⟩ := sl_loop hA0 ht hU hU7 b4 hI
  have h7 : σ t 7 = nI ln.length := hR.2.1.1
  rcases l2 with ⟨τ, dep, e, hI2⟩ | ⟨e0, τ, e, g1, g2⟩
  · right
    obtain ⟨kd1, ch1, st1, X, hd1, sp1, nw1, P, Q, d1, u1, q1, q2, q3, q4, q5, q6, q7, q8, q9, q10, q11, q12, q13, q14, q15, -, q17⟩ := hI2
    obtain ⟨q17, q18⟩ := q17 rfl
    have q6 : splitA kd0 ch0 st0 S d id = some (P ++ [] ++ Q) := q6
    rw [List.append_nil] at q6
    have hel := splitA_elts hA0 d id hw h8 hn h1 _ q6
    have h2 := hel.two h1 (Wf_ne0 id ⟨d, hw⟩)
    have hIt : ItL kd1 ch1 st1 st0 nw1 (X ++ hd1.reverse) (P ++ Q) := q4.app q5
    have hlen := hIt.len
    have h24 : ∀ c ∈ hd1, c < 24 := fun c hc => by
      rcases itl_mem hIt c (by simp [hc]) with g | g
      · have := (q3.2.2.1 c g).2.1; omega
      · exact (hel.2.1 c (List.mem_flatten.mpr ⟨[c], g, by simp⟩)).1
    rw [List.length_append] at q8
    obtain ⟨τ2, k1, k2, k3⟩ := RS.unhold ht hd1 (ln ++ X) τ q1 h24 (by rw [List.length_append]; omega)
    rw [List.append_assoc] at k2
    have hXl : (X ++ hd1.reverse).length = X.length + hd1.length := by rw [List.length_append, List.length_reverse]
    have hfin : ∃ τ3, ((if x3 = 0 then (T_turn (t + 5) (nI ln.length) ((τ2 t 7) - 1) τ2).bind (fun σ98 => some σ98) else some τ2 : Option Mem)) = some τ3 ∧ RS τ3 t kd1 ch1 st1 (ln ++ (if wl = true then X ++ hd1.reverse else (X ++ hd1.reverse).reverse)) [] sp1 ∧ RF t τ2 τ3 := by
      by_cases cw : wl = true
      · rw [if_pos cw] at hx3
        refine ⟨τ2, ?_, by rw [if_pos cw]; exact k2, RF.rf⟩
        rw [hx3]; exact if_neg (by decide)
      · rw [if_neg cw] at hx3
        obtain ⟨τ3, m1, m2, m3⟩ := k2.turnL ht (by omega) (by omega)
        refine ⟨τ3, ?_, by rw [if_neg cw]; exact m2, m3⟩
        rw [hx3]
        exact ifp rfl (ob m1 rfl)
    obtain ⟨τ3, n1, n2, n3⟩ := hfin
    refine ⟨P ++ Q, X ++ hd1.reverse, τ3, kd1, ch1, st1, [], sp1, nw1, q6, ?_, n2, (q2.tr k3).tr n3, q3, hIt, q7, by omega, by omega, by omega, ?_, q13, q14, q15, q18⟩
    · unfold T_splitToLine
      refine lti h7 ?_
      refine lti rfl ?_
      refine ob l1 ?_
      rw [e]
      refine ob k1 ?_
      exact ob n1 rfl
    · intro i hi
      rcases q12 i hi with g | g | g
      · exact Or.inl g
      · right; simp [g]
      · right; simp [g]
  · left
    refine ⟨e0, τ, ?_, g1, g2⟩
    unfold T_splitToLine
    refine lti h7 ?_
    refine lti rfl ?_
    refine ob l1 ?_
    rw [e]; rfl
end

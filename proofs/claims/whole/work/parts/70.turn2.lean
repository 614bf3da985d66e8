def adjN (p q : Nat) : Prop := q = p + 1 ∨ p = q + 1
/-- what the turning of a node's parts stands on: C in its order, sure pairs are neighbours -/
def TN (τ : Mem) (n : Nat) (st : Nat → Nat) (C : List Nat) : Prop := n ≤ 8 ∧ 3 ≤ C.length ∧ C.length ≤ 8 ∧ C.Nodup ∧ (∀ c ∈ C, st c ≤ fullM n) ∧ (∀ a ∈ C, ∀ b ∈ C, st a = st b → a = b) ∧ ∃ P, Mk01 n (τ 48) P ∧ ∀ a ∈ C, ∀ b ∈ C, a ≠ b → (P (st a ||| st b) ↔ Adj C a b)
theorem ix_lt {C : List Nat} {c : Nat} (h : c ∈ C) : C.idxOf c < C.length := List.idxOf_lt_length_iff.mpr h
theorem ix_get {C : List Nat} {c : Nat} (h : c ∈ C) : C.getD (C.idxOf c) 0 = c := by
  rw [List.getD_eq_getElem?_getD, List.getElem?_eq_getElem (ix_lt h)]; simp
theorem ix_of {C : List Nat} (hn : C.Nodup) {i : Nat} (hi : i < C.length) : C.idxOf (C.getD i 0) = i := getD_inj hn (ix_lt (getD_mem hi)) hi (ix_get (getD_mem hi))
theorem TN.same {τ τ2 : Mem} {n : Nat} {st : Nat → Nat} {C : List Nat} (h : TN τ n st C) (e : τ2 48 = τ 48) : TN τ2 n st C := by
  obtain ⟨h1, h2, h3, h4, h5, h6, P, h7, h8⟩ := h
  exact ⟨h1, h2, h3, h4, h5, h6, P, by rw [e]; exact h7, h8⟩
theorem bes {τ : Mem} {n : Nat} {st : Nat → Nat} {C : List Nat} (h : TN τ n st C) {a b : Nat} (ha : a ∈ C) (hb : b ∈ C) : ∃ v, M_areBeside (nI (st a)) (nI (st b)) τ = some v ∧ (v = 0 ∨ v = 1) ∧ (v = 1 ↔ adjN (C.idxOf a) (C.idxOf b)) := by
  obtain ⟨h1, h2, h3, h4, h5, h6, P, h7, h8⟩ := h
  obtain ⟨v, e1, e2, e3⟩ := areBeside_eq h1 h7 (h5 a ha) (h5 b hb)
  refine ⟨v, e1, e2, ?_⟩
  rw [e3]
  have hpos := adj_pos h4 (ix_lt ha) (ix_lt hb)
  rw [ix_get ha, ix_get hb] at hpos
  unfold adjN
  rw [← hpos]
  constructor
  · rintro ⟨q1, q2⟩
    exact (h8 a ha b hb (fun e => q1 (by rw [e]))).mp q2
  · intro q
    have hne : a ≠ b := by
      rintro rfl
      have := hpos.mp q
      omega
    exact ⟨fun e => hne (h6 a ha b hb e), (h8 a ha b hb hne).mpr q⟩
theorem sumR_0s (m : Nat) : sumR m (fun _ => 0) = 0 := by
  induction m with
  | zero => rfl
  | succ n ih => rw [sumR_s, ih]
def ind (p q : Nat) : Nat := if q = p + 1 ∨ p = q + 1 then 1 else 0
theorem arr_pos {C : List Nat} {s : Nat → Nat} (hn : C.Nodup) (h : Arr C s) {t : Nat} (ht : t < C.length) : ∃ b, b < C.length ∧ s b = C.getD t 0 ∧ ∀ x, x < C.length → (C.idxOf (s x) = t ↔ x = b) := by
  obtain ⟨h1, h2, h3⟩ := h
  obtain ⟨b, hb, e⟩ := h3 _ (getD_mem ht)
  refine ⟨b, hb, e, fun x hx => ⟨fun hh => ?_, fun hh => ?_⟩⟩
  · apply h2 x b hx hb
    rw [e, ← hh, ix_get (h1 x hx)]
  · rw [hh, e, ix_of hn ht]
theorem cnt_nb {C : List Nat} {s : Nat → Nat} (hn : C.Nodup) (h3 : 3 ≤ C.length) (h : Arr C s) {a : Nat} (ha : a < C.length) : sumR C.length (fun b => ind (C.idxOf (s a)) (C.idxOf (s b))) = 1 ↔ (C.idxOf (s a) = 0 ∨ C.idxOf (s a) = C.length - 1) := by
  have hP := ix_lt (h.1 a ha)
  generalize C.idxOf (s a) = p at hP
  have one : ∀ t, t < C.length → (∀ q, q < C.length → (q = p + 1 ∨ p = q + 1 ↔ q = t)) → sumR C.length (fun b => ind p (C.idxOf (s b))) = 1 := by
    intro t ht hq
    obtain ⟨b, hb, -, hu⟩ := arr_pos hn h ht
    have := sumR_one (n := C.length) (f := fun b => ind p (C.idxOf (s b))) (g := fun _ => 0) (c := 1) b hb (fun j hj hjb => by
      show ind p (C.idxOf (s j)) = 0
      unfold ind
      rw [if_neg]
      intro hh
      exact hjb ((hu j hj).mp ((hq _ (ix_lt (h.1 j hj))).mp hh))) (by
      show ind p (C.idxOf (s b)) = 0 + 1
      unfold ind
      rw [if_pos ((hq _ (ix_lt (h.1 b hb))).mpr ((hu b hb).mpr rfl))])
    rw [this, sumR_0s]
  constructor
  · intro hs
    by_cases c : p = 0 ∨ p = C.length - 1
    · exact c
    · exfalso
      obtain ⟨b1, hb1, -, hu1⟩ := arr_pos hn h (t := p - 1) (by omega)
      obtain ⟨b2, hb2, -, hu2⟩ := arr_pos hn h (t := p + 1) (by omega)
      have hne : b2 ≠ b1 := by
        intro e
        have h1 := (hu1 b1 hb1).mpr rfl
        have h2 := (hu2 b2 hb2).mpr rfl
        rw [e, h1] at h2; omega
      have s1 := sumR_one (n := C.length) (f := fun b => ind p (C.idxOf (s b))) (g := fun b => if b = b2 then 1 else 0) (c := 1) b1 hb1 (fun j hj hjb => by
        show ind p (C.idxOf (s j)) = if j = b2 then 1 else 0
        unfold ind
        by_cases e : j = b2
        · rw [if_pos e, if_pos (Or.inl ((hu2 j hj).mpr e))]
        · rw [if_neg e, if_neg]
          rintro (hh | hh)
          · exact e ((hu2 j hj).mp hh)
          · exact hjb ((hu1 j hj).mp (by omega))) (by
        show ind p (C.idxOf (s b1)) = (if b1 = b2 then 1 else 0) + 1
        unfold ind
        have k1 : ¬ b1 = b2 := fun e => hne e.symm
        have k2 : C.idxOf (s b1) = p + 1 ∨ p = C.idxOf (s b1) + 1 := Or.inr (by rw [(hu1 b1 hb1).mpr rfl]; omega)
        rw [if_neg k1, if_pos k2])
      have s2 := sumR_one (n := C.length) (f := fun b => if b = b2 then 1 else 0) (g := fun _ => 0) (c := 1) b2 hb2 (fun j hj hjb => by simp [hjb]) (by simp)
      rw [s1, s2, sumR_0s] at hs
      omega
  · rintro (c | c)
    · exact one 1 (by omega) (fun q hq => by omega)
    · exact one (C.length - 2) (by omega) (fun q hq => by omega)
theorem tr_cnt {τ : Mem} {n : Nat} {st : Nat → Nat} {C : List Nat} (h : TN τ n st C) {s : Nat → Nat} (hs : Arr C s) {at_ : Nat} (hat : at_ < 8) (hp : PtF (τ 52) st at_ C.length s) {a : Nat} (ha : a < C.length) : lp (fun s => M_turnsRight_b1 τ (nI C.length) (nI (8 * at_)) (nI a) s.1 s.2) fuel (nI 0, nI 0) = some (nI (sumR C.length (fun b => ind (C.idxOf (s a)) (C.idxOf (s b))))) := by
  have hm := h.2.2.1
  have key : ∃ r, lp (fun s => M_turnsRight_b1 τ (nI C.length) (nI (8 * at_)) (nI a) s.1 s.2) fuel (nI 0, nI 0) = some r ∧ r = nI (sumR C.length (fun b => ind (C.idxOf (s a)) (C.idxOf (s b)))) := by
    refine lp_for C.length (fun j x => x = (nI (sumR j (fun b => ind (C.idxOf (s a)) (C.idxOf (s b)))), nI j)) _ _ 0 (by omega) (by rfl) (by omega) ?_ ?_
    · rintro j x hj rfl
      left
      refine ⟨_, ?_, rfl⟩
      show M_turnsRight_b1 τ (nI C.length) (nI (8 * at_)) (nI a) _ (nI j) = _
      unfold M_turnsRight_b1
      simp only [lt]
      have c0 : ¬ nI C.length ≤ nI j := nI_ge hj (by omega)
      obtain ⟨v, e1, e2, e3⟩ := bes h (hs.1 a ha) (hs.1 j hj)
      rw [if_neg c0, nI_add, nI_add, rd_nI (by show _ < 64; omega) (by decide), rd_nI (by show _ < 64; omega) (by decide), hp a ha, hp j hj]
      simp only [Option.bind_some]
      rw [e1]
      simp only [Option.bind_some]
      have e4 : (if v = 0 then (0 : Int32) else 1) = nI (ind (C.idxOf (s a)) (C.idxOf (s j))) := by
        unfold adjN at e3
        unfold ind
        rcases e2 with rfl | rfl
        · have k1 : ¬ (C.idxOf (s j) = C.idxOf (s a) + 1 ∨ C.idxOf (s a) = C.idxOf (s j) + 1) := fun hh => absurd (e3.mpr hh) (by decide)
          rw [if_neg k1]; rfl
        · have k1 := e3.mp rfl
          rw [if_pos k1]; rfl
      rw [e4, nI_add, nI_1, sumR_s]
    · rintro x rfl
      refine ⟨_, ?_, rfl⟩
      show M_turnsRight_b1 τ (nI C.length) (nI (8 * at_)) (nI a) _ (nI C.length) = _
      unfold M_turnsRight_b1
      rw [if_pos (nI_le (Nat.le_refl _) (by omega))]
  obtain ⟨r, e, rfl⟩ := key
  exact e

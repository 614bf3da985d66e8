theorem pre_int {S : Nat} : ∀ {r : List Nat}, Pre S r ↔ ∀ q s, q < s → s < r.length → S.testBit (r.getD s 0) = true → S.testBit (r.getD q 0) = true
  | [] => ⟨fun _ q s _ h => by simp at h, fun _ => noS_pre noS_nil⟩
  | x :: r => by
    rw [pre_cons]
    by_cases c : S.testBit x = true
    · rw [if_pos c, pre_int]
      constructor
      · intro h q s hqs hs hb
        cases s with
        | zero => omega
        | succ s =>
          cases q with
          | zero => exact c
          | succ q => exact h q s (by omega) (by simp at hs; omega) hb
      · intro h q s hqs hs hb
        exact h (q + 1) (s + 1) (by omega) (by simp; omega) hb
    · rw [if_neg c]
      constructor
      · intro h q s hqs hs hb
        exfalso
        cases s with
        | zero => omega
        | succ s =>
          have hs2 : s < r.length := by simp at hs; omega
          have := h _ (getD_mem hs2)
          have hb2 : S.testBit (r.getD s 0) = true := hb
          rw [this] at hb2; cases hb2
      · intro h y hy
        obtain ⟨s, hs, e⟩ := List.mem_iff_getElem.mp hy
        cases q : S.testBit y
        · rfl
        · exfalso
          have eg : r.getD s 0 = y := by rw [List.getD_eq_getElem?_getD, List.getElem?_eq_getElem hs, ← e]; rfl
          exact c (h 0 (s + 1) (by omega) (by simp; omega) (by show S.testBit (r.getD s 0) = true; rw [eg]; exact q))
theorem cons_int {S : Nat} : ∀ {r : List Nat}, Cons S r ↔ ∀ p q s, p < q → q < s → s < r.length → S.testBit (r.getD p 0) = true → S.testBit (r.getD s 0) = true → S.testBit (r.getD q 0) = true
  | [] => ⟨fun _ p q s _ _ h => by simp at h, fun _ => noS_cons_of noS_nil⟩
  | x :: r => by
    rw [cons_cons]
    by_cases c : S.testBit x = true
    · rw [if_pos c, pre_int]
      constructor
      · intro h p q s hpq hqs hs hp hb
        cases q with
        | zero => omega
        | succ q =>
          cases s with
          | zero => omega
          | succ s => exact h q s (by omega) (by simp at hs; omega) hb
      · intro h q s hqs hs hb
        exact h 0 (q + 1) (s + 1) (by omega) (by omega) (by simp; omega) c hb
    · rw [if_neg c, cons_int]
      constructor
      · intro h p q s hpq hqs hs hp hb
        cases p with
        | zero => exact absurd hp c
        | succ p =>
          cases q with
          | zero => omega
          | succ q =>
            cases s with
            | zero => omega
            | succ s => exact h p q s (by omega) (by omega) (by simp at hs; omega) hp hb
      · intro h p q s hpq hqs hs hp hb
        exact h (p + 1) (q + 1) (s + 1) (by omega) (by omega) (by simp; omega) hp hb
/- a row told: R is the row, ps x where x is in it -/
def rwT (n : Nat) (T : Nat → Nat) : List Nat := (List.range n).map (fun i => T i - 97)
theorem rwT_len {n : Nat} {T : Nat → Nat} : (rwT n T).length = n := by unfold rwT; simp
theorem rwT_get {n : Nat} {T : Nat → Nat} {i : Nat} (h : i < n) : (rwT n T).getD i 0 = T i - 97 := by
  unfold rwT
  rw [List.getD_eq_getElem?_getD, List.getElem?_map, List.getElem?_range h]; rfl
theorem rwT_row {n : Nat} {T : Nat → Nat} (h : Row0 n n T) : (rwT n T).Nodup ∧ ∀ x, x ∈ rwT n T ↔ x < n := by
  have h1 : (rwT n T).Nodup := by
    unfold rwT List.Nodup
    rw [List.pairwise_map]
    refine List.Pairwise.imp_of_mem ?_ (List.pairwise_lt_range (n := n))
    intro a b ha hb hab e
    rw [List.mem_range] at ha hb
    have := h.1 a ha; have := h.1 b hb
    exact h.2 a b hab hb (by omega)
  have h2 : ∀ x ∈ rwT n T, x < n := fun x hx => by
    obtain ⟨k, hk, e⟩ := List.mem_map.mp hx
    rw [List.mem_range] at hk
    have := h.1 k hk; omega
  refine ⟨h1, fun x => ⟨h2 x, fun hx => ?_⟩⟩
  refine Classical.byContradiction (fun hno => ?_)
  have := len_sub (x :: rwT n T) (List.range n) (by rw [List.nodup_cons]; exact ⟨hno, h1⟩) (fun y hy => by
    rw [List.mem_cons] at hy
    rcases hy with e | e
    · rw [e]; exact List.mem_range.mpr hx
    · exact List.mem_range.mpr (h2 y e))
  rw [List.length_cons, rwT_len, List.length_range] at this
  omega
noncomputable def pB (p : Prop) : Bool := @decide p (Classical.propDecidable p)
theorem pB_t {p : Prop} (h : p) : pB p = true := @decide_eq_true p (Classical.propDecidable p) h
theorem pB_f {p : Prop} (h : ¬ p) : pB p = false := @decide_eq_false p (Classical.propDecidable p) h
theorem pB_iff {p : Prop} : pB p = true ↔ p := ⟨fun e => Classical.byContradiction (fun q => by rw [pB_f q] at e; cases e), pB_t⟩
noncomputable def cnB (S : Nat) (r : List Nat) : Bool := pB (Cons S r)
theorem cnB_iff {S : Nat} {r : List Nat} : cnB S r = true ↔ Cons S r := pB_iff
/- the model's test -/
theorem M_isHad_eq {μ : Mem} {n : Nat} {T : Nat → Nat} (hn : n ≤ 8) (h22 : μ 43 22 = nI n) (hT : ∀ i, i < n → μ 60 i = nI (T i)) (hR : Row0 n n T) {S : Nat} (hS : S ≤ fullM n) : M_isHad (nI S) μ = some (if cnB S (rwT n T) = true then 1 else 0) := by
  obtain ⟨r1, r2⟩ := rwT_row hR
  have hS8 : S < 256 := Nat.lt_of_le_of_lt hS (full_lt hn)
  have hSr : ∀ x, S.testBit x = true → x ∈ rwT n T := fun x hx => by
    rw [r2]
    have := le_full_sub hS x hx
    rw [full_bit, decide_eq_true_iff] at this; exact this
  let cd : Nat → Prop := fun j => mkL ((rwT n T).take j) &&& S ≠ 0 → mkL ((rwT n T).take j) &&& S ≠ S → S.testBit ((rwT n T).getD j 0) = true
  have hci : Cons S (rwT n T) ↔ ∀ j, j < n → cd j := by
    rw [cons_iff r1 hSr]
    constructor
    · intro h j hj
      refine h ((rwT n T).take j) ((rwT n T).getD j 0) ((rwT n T).drop (j + 1)) ?_
      have hjl : j < (rwT n T).length := by rw [rwT_len]; exact hj
      conv => lhs; rw [← List.take_append_drop j (rwT n T)]
      rw [List.drop_eq_getElem_cons hjl, List.getD_eq_getElem?_getD, List.getElem?_eq_getElem hjl]; rfl
    · intro h a k b e h1 h2
      have hl : a.length < n := by have := congrArg List.length e; rw [rwT_len, List.length_append, List.length_cons] at this; omega
      have := h a.length hl
      have e1 : (rwT n T).take a.length = a := by rw [e]; simp
      have e2 : (rwT n T).getD a.length 0 = k := by rw [e, List.getD_eq_getElem?_getD, List.getElem?_append_right (Nat.le_refl _), Nat.sub_self]; rfl
      show S.testBit k = true
      rw [← e2]
      exact this (by rw [e1]; exact h1) (by rw [e1]; exact h2)
  have key : ∃ r, lp (fun s => M_isHad_b1 (nI S) μ s.1 s.2.1 s.2.2) fuel (0, 1, 0) = some r ∧ r = (if cnB S (rwT n T) = true then (1 : Int32) else 0) := by
    refine lp_for n (fun j s => ∃ v, s = (nI (mkL ((rwT n T).take j)), v, nI j) ∧ ((v = 1 ∧ ∀ k, k < j → cd k) ∨ (v = 0 ∧ ¬ ∀ k, k < j → cd k))) _ _ 0 (by omega) ⟨1, rfl, Or.inl ⟨rfl, fun k hk => by omega⟩⟩ (by omega) ?_ ?_
    · intro j s hj ⟨v, e, hv⟩
      subst e
      left
      have hjl : j < (rwT n T).length := by rw [rwT_len]; exact hj
      have hTj := hR.1 j hj
      have hget := rwT_get (T := T) hj
      have hd8 : mkL ((rwT n T).take j) < 256 := lt_of_bits (c := 8) (fun b hb => by
        rw [mkL_bit, decide_eq_true_iff] at hb
        have := (r2 b).mp (List.mem_of_mem_take hb); omega)
      have e97 : nI (T j) - 97 = nI (T j - 97) := pk_sub (b := 97) hTj.1
      have hbit : ((1 : Int32) <<< ((nI (T j) - 97) &&& 31)) = nI (2 ^ (T j - 97)) := by rw [e97]; exact xI_bit (by omega)
      have h2b : 2 ^ (T j - 97) < 256 := Nat.pow_lt_pow_right (by omega) (by omega : T j - 97 < 8) (a := 2)
      have hand : (2 ^ (T j - 97) &&& S = 0) ↔ ¬ S.testBit (T j - 97) = true := by
        rw [and0_iff]
        constructor
        · intro h q; exact h (T j - 97) (Nat.testBit_two_pow_self) q
        · intro h i q1 q2
          rw [Nat.testBit_two_pow, decide_eq_true_iff] at q1
          subst q1; exact h q2
      have hA := Nat.lt_of_le_of_lt (Nat.and_le_left (n := mkL ((rwT n T).take j)) (m := S)) hd8
      have hA2 := Nat.lt_of_le_of_lt (Nat.and_le_left (n := 2 ^ (T j - 97)) (m := S)) h2b
      have hnext : nI (mkL ((rwT n T).take j)) ||| nI (2 ^ (T j - 97)) = nI (mkL ((rwT n T).take (j + 1))) := by
        rw [xI_or, take_succ' hjl, mkL_snoc, hget]
      have hcd : cd j ↔ (mkL ((rwT n T).take j) &&& S = 0 ∨ mkL ((rwT n T).take j) &&& S = S ∨ S.testBit (T j - 97) = true) := by
        show (_ → _ → _) ↔ _
        rw [hget]
        constructor
        · intro h
          by_cases q1 : mkL ((rwT n T).take j) &&& S = 0
          · exact Or.inl q1
          · by_cases q2 : mkL ((rwT n T).take j) &&& S = S
            · exact Or.inr (Or.inl q2)
            · exact Or.inr (Or.inr (h q1 q2))
        · rintro (q | q | q) h1 h2
          · exact absurd q h1
          · exact absurd q h2
          · exact q
      have hb19 : (if v = 0 then false else if nI (mkL ((rwT n T).take j) &&& S) = 0 then true else if nI (mkL ((rwT n T).take j) &&& S) = nI S then true else if (nI (2 ^ (T j - 97)) &&& nI S) = 0 then false else true : Bool) = pB (v = 1 ∧ cd j) := by
        rcases hv with ⟨hv, -⟩ | ⟨hv, -⟩
        · subst hv
          rw [if_neg (show ¬ (1 : Int32) = 0 by decide)]
          by_cases q1 : mkL ((rwT n T).take j) &&& S = 0
          · rw [if_pos (by rw [q1]; rfl)]
            exact (pB_t (p := (1 : Int32) = 1 ∧ cd j) ⟨rfl, hcd.mpr (Or.inl q1)⟩).symm
          · rw [if_neg (nI_ne0 (by omega) (by omega))]
            by_cases q2 : mkL ((rwT n T).take j) &&& S = S
            · rw [if_pos (by rw [q2])]
              exact (pB_t (p := (1 : Int32) = 1 ∧ cd j) ⟨rfl, hcd.mpr (Or.inr (Or.inl q2))⟩).symm
            · rw [if_neg (nI_ne (by omega) (by omega) q2), xI_and]
              by_cases q3 : S.testBit (T j - 97) = true
              · have z : 2 ^ (T j - 97) &&& S ≠ 0 := fun e => hand.mp e q3
                rw [if_neg (nI_ne0 (by omega) (by omega))]
                exact (pB_t (p := (1 : Int32) = 1 ∧ cd j) ⟨rfl, hcd.mpr (Or.inr (Or.inr q3))⟩).symm
              · rw [if_pos (by rw [hand.mpr q3]; rfl)]
                exact (pB_f (p := (1 : Int32) = 1 ∧ cd j) (fun h => by
                  rcases hcd.mp h.2 with q | q | q
                  · exact q1 q
                  · exact q2 q
                  · exact q3 q)).symm
        · subst hv
          rw [if_pos rfl]
          exact (pB_f (p := (0 : Int32) = 1 ∧ cd j) (fun h => absurd h.1 (by decide))).symm
      refine ⟨(nI (mkL ((rwT n T).take (j + 1))), (if pB (v = 1 ∧ cd j) = true then 1 else 0), nI (j + 1)), ?_, _, rfl, ?_⟩
      · unfold M_isHad_b1
        refine ifn (by show ¬ μ 43 22 ≤ nI j; rw [h22]; exact nI_ge hj (by omega)) ?_
        refine ob (a := nI (T j)) (by rw [rdT (N := 8) rfl (by omega) (by omega), hT j hj]) ?_
        refine lti hbit ?_
        refine lti (xI_and _ _) ?_
        refine lti hb19 ?_
        refine lti rfl ?_
        refine lti hnext ?_
        exact lti (nI_1 _) rfl
      · by_cases q : v = 1 ∧ cd j
        · left
          refine ⟨if_pos (pB_t q), fun k hk => ?_⟩
          rcases hv with ⟨-, hv⟩ | ⟨hv, -⟩
          · by_cases qk : k = j
            · rw [qk]; exact q.2
            · exact hv k (by omega)
          · rw [hv] at q; exact absurd q.1 (by decide)
        · right
          refine ⟨if_neg (fun e => q (pB_iff.mp e)), fun h => q ⟨?_, h j (by omega)⟩⟩
          rcases hv with ⟨hv, -⟩ | ⟨-, hv⟩
          · exact hv
          · exact absurd (fun k hk => h k (by omega)) hv
    · intro s ⟨v, e, hv⟩
      subst e
      refine ⟨v, ?_, ?_⟩
      · unfold M_isHad_b1
        exact ifp (by show μ 43 22 ≤ nI n; rw [h22]; exact nI_le (Nat.le_refl _) (by omega)) rfl
      · rcases hv with ⟨hv, h⟩ | ⟨hv, h⟩
        · rw [hv, if_pos (cnB_iff.mpr (hci.mpr h))]
        · rw [hv, if_neg (fun q => h (hci.mp (cnB_iff.mp q)))]
  obtain ⟨r, k1, k2⟩ := key
  unfold M_isHad
  refine ob k1 ?_
  rw [k2]

/-- the parts of node number at stand in the row of parts -/
def PtAt (p : Nat → Int32) (st : Nat → Nat) (at_ : Nat) (S : List Nat) : Prop := ∀ i, i < S.length → p (8 * at_ + i) = nI (st (S.getD i 0))
theorem i8 (at_ i : Nat) : (8 : Int32) * nI at_ + nI i = nI (8 * at_ + i) := by rw [L_8, pk_mul, nI_add]
theorem or_lt256 : ∀ {a b : Nat}, a < 256 → b < 256 → a ||| b < 256 := by
  intro a b ha hb
  apply Nat.lt_pow_two_of_testBit (n := 8)
  intro i hi
  rw [Nat.testBit_or]
  cases h1 : a.testBit i with
  | true => have := bit_lt8 ha h1; omega
  | false =>
    cases h2 : b.testBit i with
    | true => have := bit_lt8 hb h2; omega
    | false => rfl
theorem or_le_full2 {n a b : Nat} (ha : a ≤ fullM n) (hb : b ≤ fullM n) : a ||| b ≤ fullM n := by
  apply sub_le_full
  intro i hi
  rw [Nat.testBit_or, Bool.or_eq_true] at hi
  rcases hi with hi | hi
  · exact le_full_sub ha i hi
  · exact le_full_sub hb i hi
theorem kind_in {τ : Mem} {n : Nat} {P : Nat → Prop} (hn : n ≤ 8) (h48 : Mk01 n (τ 48) P) {st : Nat → Nat} {S : List Nat} (hS8 : S.length ≤ 8) (hst : ∀ i, i < S.length → st (S.getD i 0) ≤ fullM n) {at_ : Nat} (hat : at_ < 8) (hp : PtAt (τ 52) st at_ S) {a : Nat} (ha : a < S.length) (g : Nat → Int32) (v : Int32) (hv : v = 0 ∨ v = 1) : ∃ r, lp (fun s => M_findsParts_b2 (nI at_) (nI S.length) (nI a) s.1 s.2) fuel (nI (a + 1), mset τ 50 (upd g at_ v)) = some r ∧ ∃ v2, r = mset τ 50 (upd g at_ v2) ∧ (v2 = 0 ∨ v2 = 1) ∧ (v2 = 1 ↔ (v = 1 ∨ ∃ j, a < j ∧ j < S.length ∧ P (st (S.getD a 0) ||| st (S.getD j 0)))) := by
  have hfull := full_lt hn
  refine lp_for S.length (fun b s => a < b ∧ ∃ v2, s = (nI b, mset τ 50 (upd g at_ v2)) ∧ (v2 = 0 ∨ v2 = 1) ∧ (v2 = 1 ↔ (v = 1 ∨ ∃ j, a < j ∧ j < b ∧ P (st (S.getD a 0) ||| st (S.getD j 0))))) _ _ (a + 1) (by omega) ⟨by omega, v, rfl, hv, ⟨fun h => Or.inl h, fun h => h.elim (fun h => h) (fun ⟨j, h1, h2, _⟩ => by omega)⟩⟩ (by omega) ?_ ?_
  · rintro b s hb ⟨hab, v2, rfl, hv2, hv3⟩
    left
    have hxa := hst a ha
    have hxb := hst b hb
    have hor := or_le_full2 hxa hxb
    obtain ⟨s1, s2⟩ := h48 _ hor
    show ∃ s2, M_findsParts_b2 (nI at_) (nI S.length) (nI a) (nI b) (mset τ 50 (upd g at_ v2)) = some (.inl s2) ∧ _
    unfold M_findsParts_b2
    simp only [lt]
    have c0 : ¬ nI S.length ≤ nI b := nI_ge hb (by omega)
    rw [if_neg c0, i8, i8, rd_nI (by show _ < 64; omega) (by decide), rd_nI (by show _ < 64; omega) (by decide), mset_ne (by decide), hp a ha, hp b hb]
    simp only [Option.bind_some]
    rw [xI_or, rd_nI (by show _ < 256; omega) (by decide), mset_ne (by decide), rd_nI (by show at_ < 8; omega) (by decide), mset_eq, upd_at, if_pos rfl]
    simp only [Option.bind_some]
    have e1 : ((if τ 48 (st (S.getD a 0) ||| st (S.getD b 0)) = 1 then some 1 else some v2) : Option Int32) = some (if τ 48 (st (S.getD a 0) ||| st (S.getD b 0)) = 1 then 1 else v2) := by split <;> rfl
    rw [e1]
    simp only [Option.bind_some]
    rw [wr_nI (by show at_ < 8; omega) (by decide), mput_mset, upd_upd]
    simp only [Option.bind_some]
    refine ⟨_, rfl, by omega, (if τ 48 (st (S.getD a 0) ||| st (S.getD b 0)) = 1 then 1 else v2), by rw [nI_1], by split; exact Or.inr rfl; exact hv2, ?_⟩
    by_cases c : τ 48 (st (S.getD a 0) ||| st (S.getD b 0)) = 1
    · rw [if_pos c]
      exact ⟨fun _ => Or.inr ⟨b, by omega, by omega, s2.mp c⟩, fun _ => rfl⟩
    · rw [if_neg c, hv3]
      constructor
      · rintro (h | ⟨j, h1, h2, h3⟩)
        · exact Or.inl h
        · exact Or.inr ⟨j, h1, by omega, h3⟩
      · rintro (h | ⟨j, h1, h2, h3⟩)
        · exact Or.inl h
        · by_cases e : j = b
          · subst e; exact absurd (s2.mpr h3) c
          · exact Or.inr ⟨j, h1, by omega, h3⟩
  · rintro s ⟨hab, v2, rfl, hv2, hv3⟩
    show ∃ r, M_findsParts_b2 (nI at_) (nI S.length) (nI a) (nI S.length) (mset τ 50 (upd g at_ v2)) = some (.inr r) ∧ _
    unfold M_findsParts_b2
    rw [if_pos (nI_le (Nat.le_refl _) (by omega))]
    exact ⟨_, rfl, v2, rfl, hv2, hv3⟩
theorem kind_out {τ : Mem} {n : Nat} {P : Nat → Prop} (hn : n ≤ 8) (h48 : Mk01 n (τ 48) P) {st : Nat → Nat} {S : List Nat} (hS8 : S.length ≤ 8) (hst : ∀ i, i < S.length → st (S.getD i 0) ≤ fullM n) {at_ : Nat} (hat : at_ < 8) (hp : PtAt (τ 52) st at_ S) (g : Nat → Int32) : ∃ r, lp (fun s => M_findsParts_b3 (nI at_) (nI S.length) s.1 s.2) fuel (nI 0, mset τ 50 (upd g at_ 0)) = some r ∧ ∃ v2, r = mset τ 50 (upd g at_ v2) ∧ (v2 = 0 ∨ v2 = 1) ∧ (v2 = 1 ↔ (2 < S.length ∧ ∃ i j, i < j ∧ j < S.length ∧ P (st (S.getD i 0) ||| st (S.getD j 0)))) := by
  by_cases h2 : 2 < S.length
  · refine lp_for S.length (fun a s => ∃ v2, s = (nI a, mset τ 50 (upd g at_ v2)) ∧ (v2 = 0 ∨ v2 = 1) ∧ (v2 = 1 ↔ (∃ i j, i < a ∧ i < j ∧ j < S.length ∧ P (st (S.getD i 0) ||| st (S.getD j 0))))) _ _ 0 (by omega) ⟨0, rfl, Or.inl rfl, ⟨fun h => absurd h (by decide), fun ⟨i, j, h, _⟩ => by omega⟩⟩ (by omega) ?_ ?_
    · rintro a s ha ⟨v2, rfl, hv2, hv3⟩
      left
      show ∃ s2, M_findsParts_b3 (nI at_) (nI S.length) (nI a) (mset τ 50 (upd g at_ v2)) = some (.inl s2) ∧ _
      unfold M_findsParts_b3
      simp only [lt]
      have c0 : ¬ nI S.length ≤ nI a := nI_ge ha (by omega)
      have c1 : ¬ nI S.length ≤ 2 := nI_ge (a := 2) h2 (by omega)
      rw [if_neg c0, if_neg c1, if_pos rfl, nI_1]
      obtain ⟨r, er, v3, rfl, hv4, hv5⟩ := kind_in hn h48 hS8 hst hat hp ha g v2 hv2
      rw [er]
      simp only [Option.bind_some]
      refine ⟨_, rfl, v3, rfl, hv4, ?_⟩
      rw [hv5, hv3]
      constructor
      · rintro (⟨i, j, q1, q2, q3, q4⟩ | ⟨j, q1, q2, q3⟩)
        · exact ⟨i, j, by omega, q2, q3, q4⟩
        · exact ⟨a, j, by omega, q1, q2, q3⟩
      · rintro ⟨i, j, q1, q2, q3, q4⟩
        by_cases e : i = a
        · subst e; exact Or.inr ⟨j, q2, q3, q4⟩
        · exact Or.inl ⟨i, j, by omega, q2, q3, q4⟩
    · rintro s ⟨v2, rfl, hv2, hv3⟩
      show ∃ r, M_findsParts_b3 (nI at_) (nI S.length) (nI S.length) (mset τ 50 (upd g at_ v2)) = some (.inr r) ∧ _
      unfold M_findsParts_b3
      simp only [lt]
      rw [if_pos (nI_le (Nat.le_refl _) (by omega))]
      refine ⟨_, rfl, v2, rfl, hv2, ?_⟩
      rw [hv3]
      exact ⟨fun ⟨i, j, q1, q2, q3, q4⟩ => ⟨h2, i, j, q2, q3, q4⟩, fun ⟨_, i, j, q2, q3, q4⟩ => ⟨i, j, by omega, q2, q3, q4⟩⟩
  · refine ⟨mset τ 50 (upd g at_ 0), ?_, 0, rfl, Or.inl rfl, ⟨fun h => absurd h (by decide), fun h => absurd h.1 h2⟩⟩
    refine lp_fu (n := 1) ?_ (by decide)
    show (M_findsParts_b3 (nI at_) (nI S.length) (nI 0) (mset τ 50 (upd g at_ 0))).bind _ = _
    have e : M_findsParts_b3 (nI at_) (nI S.length) (nI 0) (mset τ 50 (upd g at_ 0)) = some (.inr (mset τ 50 (upd g at_ 0))) := by
      unfold M_findsParts_b3
      simp only [lt]
      have c1 : nI S.length ≤ 2 := nI_le (a := S.length) (b := 2) (by omega) (by omega)
      rw [if_pos c1]
      by_cases c : nI S.length ≤ nI 0
      · rw [if_pos c]; rfl
      · rw [if_neg c]; rfl
    rw [e]; rfl

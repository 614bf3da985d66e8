-- ===== the parts of a turning node put in their order =====
theorem getD_at {A B : List Nat} {a : Nat} : (A ++ a :: B).getD A.length 0 = a := by simp [List.getD_eq_getElem?_getD]
theorem getD_inj {C : List Nat} (hn : C.Nodup) {i j : Nat} (hi : i < C.length) (hj : j < C.length) (h : C.getD i 0 = C.getD j 0) : i = j := by
  rw [List.getD_eq_getElem?_getD, List.getD_eq_getElem?_getD, List.getElem?_eq_getElem hj, List.getElem?_eq_getElem hi] at h
  simp only [Option.getD_some] at h
  rcases Nat.lt_trichotomy i j with e | e | e
  · exact absurd h (List.pairwise_iff_getElem.mp (List.nodup_iff_pairwise_ne.mp hn) i j hi hj e)
  · exact e
  · exact absurd h.symm (List.pairwise_iff_getElem.mp (List.nodup_iff_pairwise_ne.mp hn) j i hj hi e)
theorem getD_mem {C : List Nat} {i : Nat} (hi : i < C.length) : C.getD i 0 ∈ C := by
  rw [List.getD_eq_getElem?_getD, List.getElem?_eq_getElem hi]; exact List.getElem_mem hi
theorem getD_ex {C : List Nat} {c : Nat} (hc : c ∈ C) : ∃ i, i < C.length ∧ C.getD i 0 = c := by
  obtain ⟨i, hi, e⟩ := List.getElem_of_mem hc
  exact ⟨i, hi, by rw [List.getD_eq_getElem?_getD, List.getElem?_eq_getElem hi]; simpa using e⟩
theorem adj_pos {C : List Nat} (hn : C.Nodup) {p q : Nat} (hp : p < C.length) (hq : q < C.length) : Adj C (C.getD p 0) (C.getD q 0) ↔ (q = p + 1 ∨ p = q + 1) := by
  constructor
  · rintro ⟨A, B, e | e⟩
    · left
      have h1 : C.getD A.length 0 = C.getD p 0 := by
        conv => lhs; rw [e]
        exact getD_at
      have h2 : C.getD (A.length + 1) 0 = C.getD q 0 := by
        conv => lhs; rw [e]
        simp [List.getD_eq_getElem?_getD]
      have hl : A.length + 1 < C.length := by rw [e]; simp
      have := getD_inj hn (by omega) hp h1
      have := getD_inj hn hl hq h2
      omega
    · right
      have h1 : C.getD A.length 0 = C.getD q 0 := by
        conv => lhs; rw [e]
        exact getD_at
      have h2 : C.getD (A.length + 1) 0 = C.getD p 0 := by
        conv => lhs; rw [e]
        simp [List.getD_eq_getElem?_getD]
      have hl : A.length + 1 < C.length := by rw [e]; simp
      have := getD_inj hn (by omega) hq h1
      have := getD_inj hn hl hp h2
      omega
  · have key : ∀ x, x + 1 < C.length → ∃ A B, C = A ++ (C.getD x 0 :: C.getD (x + 1) 0 :: B) := by
      intro x hx
      refine ⟨C.take x, C.drop (x + 2), ?_⟩
      rw [List.getD_eq_getElem?_getD, List.getD_eq_getElem?_getD, List.getElem?_eq_getElem hx, List.getElem?_eq_getElem (by omega)]
      simp only [Option.getD_some]
      rw [← List.drop_eq_getElem_cons hx, ← List.drop_eq_getElem_cons (by omega), List.take_append_drop]
    rintro (rfl | rfl)
    · obtain ⟨A, B, e⟩ := key p hq
      exact ⟨A, B, Or.inl e⟩
    · obtain ⟨A, B, e⟩ := key q hp
      exact ⟨A, B, Or.inr e⟩
/-- an arrangement of the members of C by places -/
def Arr (C : List Nat) (s : Nat → Nat) : Prop := (∀ i, i < C.length → s i ∈ C) ∧ (∀ i j, i < C.length → j < C.length → s i = s j → i = j) ∧ ∀ c ∈ C, ∃ i, i < C.length ∧ s i = c
def swF (s : Nat → Nat) (i j : Nat) : Nat → Nat := fun x => if x = i then s j else if x = j then s i else s x
theorem swF_i (s : Nat → Nat) (i j : Nat) : swF s i j i = s j := by unfold swF; simp
theorem swF_j (s : Nat → Nat) (i j : Nat) : swF s i j j = s i := by unfold swF; by_cases h : j = i; simp [h]; simp [h]
theorem swF_o {s : Nat → Nat} {i j x : Nat} (h1 : x ≠ i) (h2 : x ≠ j) : swF s i j x = s x := by unfold swF; simp [h1, h2]
theorem swF_val (s : Nat → Nat) (i j x : Nat) : swF s i j x = s (if x = i then j else if x = j then i else x) := by
  unfold swF
  by_cases h1 : x = i
  · rw [if_pos h1, if_pos h1]
  · rw [if_neg h1, if_neg h1]
    by_cases h2 : x = j
    · rw [if_pos h2, if_pos h2]
    · rw [if_neg h2, if_neg h2]
theorem Arr.sw {C : List Nat} {s : Nat → Nat} (h : Arr C s) {i j : Nat} (hi : i < C.length) (hj : j < C.length) : Arr C (swF s i j) := by
  obtain ⟨h1, h2, h3⟩ := h
  have lt1 : ∀ x, x < C.length → (if x = i then j else if x = j then i else x) < C.length := by
    intro x hx; split
    · exact hj
    · split
      · exact hi
      · exact hx
  refine ⟨fun x hx => ?_, fun x y hx hy e => ?_, fun c hc => ?_⟩
  · rw [swF_val]; exact h1 _ (lt1 x hx)
  · rw [swF_val, swF_val] at e
    have := h2 _ _ (lt1 x hx) (lt1 y hy) e
    by_cases a1 : x = i
    · rw [if_pos a1] at this
      by_cases b1 : y = i
      · omega
      · rw [if_neg b1] at this
        by_cases b2 : y = j
        · rw [if_pos b2] at this; omega
        · rw [if_neg b2] at this; omega
    · rw [if_neg a1] at this
      by_cases a2 : x = j
      · rw [if_pos a2] at this
        by_cases b1 : y = i
        · rw [if_pos b1] at this; omega
        · rw [if_neg b1] at this
          by_cases b2 : y = j
          · omega
          · rw [if_neg b2] at this; omega
      · rw [if_neg a2] at this
        by_cases b1 : y = i
        · rw [if_pos b1] at this; omega
        · rw [if_neg b1] at this
          by_cases b2 : y = j
          · rw [if_pos b2] at this; omega
          · rw [if_neg b2] at this; exact this
  · obtain ⟨x, hx, rfl⟩ := h3 c hc
    by_cases a1 : x = i
    · exact ⟨j, hj, by rw [swF_j, a1]⟩
    · by_cases a2 : x = j
      · exact ⟨i, hi, by rw [swF_i, a2]⟩
      · exact ⟨x, hx, swF_o a1 a2⟩
/-- the row of parts holds an arrangement -/
def PtF (p : Nat → Int32) (st : Nat → Nat) (at_ m : Nat) (s : Nat → Nat) : Prop := ∀ i, i < m → p (8 * at_ + i) = nI (st (s i))
theorem swaps_eq {τ : Mem} {st : Nat → Nat} {at_ m : Nat} {s : Nat → Nat} {p : Nat → Int32} (hp : PtF p st at_ m s) (hat : at_ < 8) (hm : m ≤ 8) {i j : Nat} (hi : i < m) (hj : j < m) : ∃ p2, M_swaps (nI (8 * at_ + i)) (nI (8 * at_ + j)) (mset τ 52 p) = some (mset τ 52 p2) ∧ PtF p2 st at_ m (swF s i j) ∧ ∀ q, (q < 8 * at_ ∨ 8 * at_ + 8 ≤ q) → p2 q = p q := by
  refine ⟨upd (upd p (8 * at_ + i) (p (8 * at_ + j))) (8 * at_ + j) (p (8 * at_ + i)), ?_, fun x hx => ?_, fun q hq => ?_⟩
  · unfold M_swaps
    rw [rd_nI (by show _ < 64; omega) (by decide), rd_nI (by show _ < 64; omega) (by decide), mset_eq]
    simp only [Option.bind_some]
    rw [wr_nI (by show _ < 64; omega) (by decide), mput_mset]
    simp only [Option.bind_some]
    rw [wr_nI (by show _ < 64; omega) (by decide), mput_mset]
    rfl
  · rw [upd_at, upd_at]
    unfold swF
    by_cases a1 : x = i
    · by_cases a2 : x = j
      · rw [if_pos (by omega), if_pos a1, hp i hi]; congr 2; rw [← a1, a2]
      · rw [if_neg (by omega), if_pos (by omega), if_pos a1, hp j hj]
    · by_cases a2 : x = j
      · rw [if_pos (by omega), if_neg a1, if_pos a2, hp i hi]
      · rw [if_neg (by omega), if_neg (by omega), if_neg a1, if_neg a2, hp x hx]
  · rw [upd_at, upd_at, if_neg (by omega), if_neg (by omega)]
theorem areBeside_eq {τ : Mem} {n : Nat} {P : Nat → Prop} (hn : n ≤ 8) (h48 : Mk01 n (τ 48) P) {x y : Nat} (hx : x ≤ fullM n) (hy : y ≤ fullM n) : ∃ v, M_areBeside (nI x) (nI y) τ = some v ∧ (v = 0 ∨ v = 1) ∧ (v = 1 ↔ (x ≠ y ∧ P (x ||| y))) := by
  have hfull := full_lt hn
  have hor := or_le_full2 hx hy
  obtain ⟨s1, s2⟩ := h48 _ hor
  unfold M_areBeside
  simp only [lt]
  rw [xI_or, rd_nI (by show _ < 256; omega) (by decide)]
  simp only [Option.bind_some]
  by_cases e : x = y
  · refine ⟨0, ?_, Or.inl rfl, by simp [e]⟩
    rw [if_pos (by rw [e])]; rfl
  · rw [if_neg (nI_ne (by omega) (by omega) e)]
    by_cases c : τ 48 (x ||| y) = 1
    · rw [if_pos c]
      exact ⟨1, rfl, Or.inr rfl, ⟨fun _ => ⟨e, s2.mp c⟩, fun _ => rfl⟩⟩
    · rw [if_neg c]
      exact ⟨0, rfl, Or.inl rfl, ⟨fun h => absurd h (by decide), fun h => absurd (s2.mpr h.2) c⟩⟩

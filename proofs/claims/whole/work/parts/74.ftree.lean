-- ===== findsTree: showing a sign, pushing parts =====
theorem mput_43 {σ : Mem} {k i : Nat} {v : Int32} (h : k ≠ 43) : mput σ k i v 43 = σ 43 := mput_ne 43 (fun e => h e.symm)
def SgAt (f : Nat → Int32) (T : List Nat) : Prop := ∀ i, i < T.length → f i = nI (T.getD i 0)
theorem SgAt.push {f : Nat → Int32} {T : List Nat} {x : Nat} (h : SgAt f T) : SgAt (upd f T.length (nI x)) (T ++ [x]) := by
  intro i hi
  simp at hi
  rw [upd_at]
  by_cases e : i = T.length
  · rw [if_pos e, e]; simp [List.getD_eq_getElem?_getD]
  · rw [if_neg e, h i (by omega)]
    simp [List.getD_eq_getElem?_getD, List.getElem?_append, show i < T.length by omega]
theorem SgAt.pop {f : Nat → Int32} {T : List Nat} {x : Nat} (h : SgAt f (T ++ [x])) : SgAt f T ∧ f T.length = nI x := by
  refine ⟨fun i hi => ?_, ?_⟩
  · rw [h i (by simp; omega)]
    simp [List.getD_eq_getElem?_getD, List.getElem?_append, hi]
  · rw [h T.length (by simp)]
    simp [List.getD_eq_getElem?_getD]
theorem M_shows_eq {σ : Mem} {T : List Nat} {x : Nat} (h12 : σ 43 12 = nI T.length) (hT : T.length < 40) (hS : SgAt (σ 53) T) : ∃ τ, M_shows (nI x) σ = some τ ∧ τ 43 12 = nI (T ++ [x]).length ∧ SgAt (τ 53) (T ++ [x]) ∧ (∀ i, i ≠ 12 → τ 43 i = σ 43 i) ∧ ∀ k, k ≠ 43 → k ≠ 53 → τ k = σ k := by
  refine ⟨mput (mput σ 53 T.length (nI x)) 43 12 (nI (T.length + 1)), ?_, ?_, ?_, fun i hi => ?_, fun k h1 h2 => ?_⟩
  · unfold M_shows
    simp only [lt]
    rw [h12, wr_nI (by show _ < 40; omega) (by decide)]
    simp only [Option.bind_some]
    rw [mput_43 (by decide), h12, nI_1]
  · rw [mput_at, if_pos ⟨rfl, rfl⟩]; simp
  · have : mput (mput σ 53 T.length (nI x)) 43 12 (nI (T.length + 1)) 53 = upd (σ 53) T.length (nI x) := by
      rw [mput_ne 53 (by decide), mput_eq]
    rw [this]; exact hS.push
  · rw [mput_at, if_neg (fun h => hi h.2), mput_43 (by decide)]
  · rw [mput_ne k h1, mput_ne k h2]
/-- pushing the first parts of node at, last first -/
theorem push_parts {σ : Mem} {st : Nat → Nat} {at_ : Nat} (hat : at_ < 8) {C : List Nat} (h1 : 1 ≤ C.length) (h8 : C.length ≤ 8) (hp : PtF (σ 52) st at_ C.length (fun i => C.getD i 0)) {R : List Nat} (hR : R.length + C.length ≤ 64) (hS : SgAt (σ 55) R) : ∃ f, lp (fun s => M_findsTree_b1 (nI at_) s.1 s.2.1 s.2.2) fuel (nI R.length, nI (C.length - 1), σ) = some (nI (R.length + C.length), mset σ 55 f) ∧ SgAt f (R ++ (C.reverse.map st)) := by
  have key : ∃ r, lp (fun s => M_findsTree_b1 (nI at_) s.1 s.2.1 s.2.2) fuel (nI R.length, nI (C.length - 1), mset σ 55 (σ 55)) = some r ∧ ∃ f, r = (nI (R.length + C.length), mset σ 55 f) ∧ SgAt f (R ++ (C.reverse.map st)) := by
    refine lp_for C.length (fun j s => ∃ f, s = (nI (R.length + j), (if j < C.length then nI (C.length - 1 - j) else -1), mset σ 55 f) ∧ SgAt f (R ++ ((C.reverse.take j).map st))) _ _ 0 (by omega) ⟨σ 55, by rw [if_pos (by omega)]; rfl, by simpa using hS⟩ (by omega) ?_ ?_
    · rintro j s hj ⟨f, rfl, hf⟩
      left
      rw [if_pos hj]
      show ∃ s2, M_findsTree_b1 (nI at_) (nI (R.length + j)) (nI (C.length - 1 - j)) (mset σ 55 f) = some (.inl s2) ∧ _
      unfold M_findsTree_b1
      simp only [lt]
      have c0 : ¬ nI (C.length - 1 - j) < 0 := nI_pos (by omega)
      rw [if_neg c0, i8, rd_nI (by show _ < 64; omega) (by decide), mset_ne (by decide), hp _ (by omega)]
      simp only [Option.bind_some]
      rw [wr_nI (by show _ < 64; omega) (by decide), mput_mset]
      simp only [Option.bind_some]
      have hl : (R ++ ((C.reverse.take j).map st)).length = R.length + j := by simp; omega
      have htk : C.reverse.take (j + 1) = C.reverse.take j ++ [C.getD (C.length - 1 - j) 0] := by
        rw [List.take_add_one]
        congr 1
        rw [List.getElem?_reverse (by omega), List.getD_eq_getElem?_getD]
        rw [List.getElem?_eq_getElem (by omega)]
        simp
      refine ⟨_, rfl, upd f (R.length + j) (nI (st (C.getD (C.length - 1 - j) 0))), ?_, ?_⟩
      · rw [nI_1]
        by_cases c : j + 1 < C.length
        · rw [if_pos c, curr_dec (by omega), show C.length - 1 - j - 1 = C.length - 1 - (j + 1) by omega]; rfl
        · rw [if_neg c, show C.length - 1 - j = 0 by omega]; rfl
      · rw [htk, List.map_append, ← List.append_assoc, ← hl]
        exact hf.push
    · rintro s ⟨f, rfl, hf⟩
      rw [if_neg (by omega)]
      show ∃ r, M_findsTree_b1 (nI at_) (nI (R.length + C.length)) (-1) (mset σ 55 f) = some (.inr r) ∧ _
      unfold M_findsTree_b1
      rw [if_pos (by decide)]
      refine ⟨_, rfl, f, rfl, ?_⟩
      have : C.reverse.take C.length = C.reverse := by rw [List.take_of_length_le (by simp)]
      rw [this] at hf; exact hf
  obtain ⟨r, e, f, rfl, hf⟩ := key
  rw [mset_self] at e
  exact ⟨f, e, hf⟩

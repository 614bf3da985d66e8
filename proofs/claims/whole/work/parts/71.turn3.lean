theorem tr_first {τ : Mem} {n : Nat} {st : Nat → Nat} {C : List Nat} (h : TN τ n st C) {s : Nat → Nat} (hs : Arr C s) {at_ : Nat} (hat : at_ < 8) (hp : PtF (τ 52) st at_ C.length s) {a0 : Nat} (ha0 : a0 < C.length) (h0 : s a0 = C.getD 0 0) (hb : ∀ x, x < a0 → s x ≠ C.getD (C.length - 1) 0) : lp (fun x => M_turnsRight_b2 τ (nI C.length) (nI (8 * at_)) x.1 x.2) fuel (-1, nI 0) = some (nI a0) := by
  have h3 := h.2.1
  have hm := h.2.2.1
  have hn := h.2.2.2.1
  have key : ∃ r, lp (fun x => M_turnsRight_b2 τ (nI C.length) (nI (8 * at_)) x.1 x.2) fuel (-1, nI 0) = some r ∧ r = nI a0 := by
    refine lp_for C.length (fun j x => x = ((if a0 < j then nI a0 else -1), nI j)) _ _ 0 (by omega) (by rfl) (by omega) ?_ ?_
    · rintro j x hj rfl
      left
      refine ⟨_, ?_, rfl⟩
      show M_turnsRight_b2 τ (nI C.length) (nI (8 * at_)) (if a0 < j then nI a0 else -1) (nI j) = _
      unfold M_turnsRight_b2
      simp only [lt]
      have c0 : ¬ nI C.length ≤ nI j := nI_ge hj (by omega)
      have ec := tr_cnt h hs hat hp hj
      have ec' : lp (fun s => M_turnsRight_b1 τ (nI C.length) (nI (8 * at_)) (nI j) s.1 s.2) fuel (0, 0) = _ := ec
      rw [if_neg c0, ec']
      simp only [Option.bind_some]
      have hle : sumR C.length (fun b => ind (C.idxOf (s j)) (C.idxOf (s b))) ≤ C.length * 1 := sumR_le (fun k _ => by show ind _ _ ≤ 1; unfold ind; split <;> omega)
      have hiff := cnt_nb hn h3 hs hj
      generalize sumR C.length (fun b => ind (C.idxOf (s j)) (C.idxOf (s b))) = k at hle hiff
      have d1 : nI k = 1 ↔ k = 1 := nI_eq (a := k) (b := 1) (by omega) (by omega)
      rw [nI_1]
      by_cases e : j = a0
      · subst e
        have hk : k = 1 := hiff.mpr (Or.inl (by rw [h0]; exact ix_of hn (by omega)))
        have c1 : ¬ j < j := by omega
        have c2 : j < j + 1 := by omega
        have c3 : nI k = 1 := d1.mpr hk
        rw [if_neg c1, if_pos c2, if_pos c3]
        rfl
      · by_cases c1 : a0 < j
        · have c2 : a0 < j + 1 := by omega
          have c3 : ¬ nI a0 = (-1 : Int32) := by
            intro hh
            have hpos := nI_pos (n := a0) (by omega)
            rw [hh] at hpos
            exact hpos (by decide)
          rw [if_pos c1, if_pos c2, if_neg c3]
          by_cases c4 : nI k = 1
          · rw [if_pos c4]; rfl
          · rw [if_neg c4]; rfl
        · have c2 : ¬ a0 < j + 1 := by omega
          have c3 : ¬ nI k = 1 := by
            rw [d1]
            intro hk
            rcases hiff.mp hk with q | q
            · apply e
              apply hs.2.1 j a0 hj ha0
              have := ix_get (hs.1 j hj)
              rw [q] at this
              rw [h0, this]
            · apply hb j (by omega)
              have := ix_get (hs.1 j hj)
              rw [q] at this
              exact this.symm
          rw [if_neg c1, if_neg c2, if_neg c3]
          rfl
    · rintro x rfl
      refine ⟨_, ?_, rfl⟩
      show M_turnsRight_b2 τ (nI C.length) (nI (8 * at_)) (if a0 < C.length then nI a0 else -1) (nI C.length) = _
      unfold M_turnsRight_b2
      rw [if_pos (nI_le (Nat.le_refl _) (by omega)), if_pos ha0]
  obtain ⟨r, e, rfl⟩ := key
  exact e
theorem tr_find {τ : Mem} {n : Nat} {st : Nat → Nat} {C : List Nat} (h : TN τ n st C) {at_ : Nat} (hat : at_ < 8) {s : Nat → Nat} (hs : Arr C s) {p : Nat → Int32} (hp : PtF p st at_ C.length s) {i : Nat} (hi1 : 1 ≤ i) (hi : i < C.length) (hpre : ∀ x, x < i → s x = C.getD x 0) : ∃ r, lp (fun x => M_turnsRight_b3 (nI C.length) (nI (8 * at_)) (nI i) x.1 x.2.1 x.2.2) fuel (0, nI i, mset τ 52 p) = some r ∧ ∃ p2 s2, r = mset τ 52 p2 ∧ Arr C s2 ∧ PtF p2 st at_ C.length s2 ∧ (∀ x, x < i + 1 → s2 x = C.getD x 0) ∧ ∀ q, (q < 8 * at_ ∨ 8 * at_ + 8 ≤ q) → p2 q = p q := by
  have hm := h.2.2.1
  have hn := h.2.2.2.1
  refine lp_for C.length (fun k x => i ≤ k ∧ ((x = ((0 : Int32), nI k, mset τ 52 p) ∧ ∀ y, i ≤ y → y < k → s y ≠ C.getD i 0) ∨ (∃ p2 s2, x = ((1 : Int32), nI k, mset τ 52 p2) ∧ Arr C s2 ∧ PtF p2 st at_ C.length s2 ∧ (∀ x, x < i + 1 → s2 x = C.getD x 0) ∧ ∀ q, (q < 8 * at_ ∨ 8 * at_ + 8 ≤ q) → p2 q = p q))) _ _ i (by omega) ⟨by omega, Or.inl ⟨rfl, fun y h1 h2 => by omega⟩⟩ (by omega) ?_ ?_
  · rintro k x hk ⟨hik, ⟨rfl, hno⟩ | ⟨p2, s2, rfl, g1, g2, g3, g4⟩⟩
    · left
      show ∃ s2, M_turnsRight_b3 (nI C.length) (nI (8 * at_)) (nI i) 0 (nI k) (mset τ 52 p) = some (.inl s2) ∧ _
      unfold M_turnsRight_b3
      simp only [lt]
      have c0 : ¬ nI C.length ≤ nI k := nI_ge hk (by omega)
      have hTN := h.same (τ2 := mset τ 52 p) (mset_ne (by decide))
      obtain ⟨v, e1, e2, e3⟩ := bes hTN (hs.1 (i - 1) (by omega)) (hs.1 k hk)
      rw [if_neg c0, nI_add, nI_add]
      have e5 : nI (8 * at_ + i) - 1 = nI (8 * at_ + (i - 1)) := by
        rw [L_1, pk_sub (by omega)]; congr 1; omega
      rw [e5, rd_nI (by show _ < 64; omega) (by decide), rd_nI (by show _ < 64; omega) (by decide), mset_eq, hp (i - 1) (by omega), hp k hk]
      simp only [Option.bind_some]
      rw [e1]
      simp only [Option.bind_some]
      have hix : C.idxOf (s (i - 1)) = i - 1 := by rw [hpre (i - 1) (by omega)]; exact ix_of hn (by omega)
      rcases e2 with rfl | rfl
      · refine ⟨(0, nI (k + 1), mset τ 52 p), ?_, by omega, Or.inl ⟨rfl, fun y h1 h2 => ?_⟩⟩
        · simp [nI_1]
        · by_cases e : y = k
          · rw [e]
            intro hh
            have : adjN (C.idxOf (s (i - 1))) (C.idxOf (s k)) := by
              unfold adjN; rw [hix, hh, ix_of hn hi]; omega
            exact absurd (e3.mpr this) (by decide)
          · exact hno y h1 (by omega)
      · have hadj := e3.mp rfl
        have hsk : s k = C.getD i 0 := by
          unfold adjN at hadj
          rw [hix] at hadj
          have hk2 := ix_get (hs.1 k hk)
          rcases hadj with q | q
          · rw [q, show i - 1 + 1 = i by omega] at hk2; exact hk2.symm
          · exfalso
            have h1 : s k = s (i - 2) := by
              rw [hpre (i - 2) (by omega), ← hk2]
              congr 1; omega
            have := hs.2.1 k (i - 2) hk (by omega) h1
            omega
        obtain ⟨p2, q1, q2, q3⟩ := swaps_eq (τ := τ) hp hat hm hi hk
        rw [q1]
        refine ⟨(1, nI (k + 1), mset τ 52 p2), ?_, by omega, Or.inr ⟨p2, swF s i k, rfl, hs.sw hi hk, q2, fun x hx => ?_, q3⟩⟩
        · simp [nI_1]
        · by_cases e : x = i
          · rw [e, swF_i, hsk]
          · rw [swF_o e (by omega)]; exact hpre x (by omega)
    · right
      refine ⟨mset τ 52 p2, ?_, p2, s2, rfl, g1, g2, g3, g4⟩
      show M_turnsRight_b3 (nI C.length) (nI (8 * at_)) (nI i) 1 (nI k) (mset τ 52 p2) = _
      unfold M_turnsRight_b3
      simp only [lt]
      have c0 : ¬ nI C.length ≤ nI k := nI_ge hk (by omega)
      rw [if_neg c0]
      simp
  · rintro x ⟨hik, ⟨rfl, hno⟩ | ⟨p2, s2, rfl, g1, g2, g3, g4⟩⟩
    · exfalso
      obtain ⟨b, hb, e, -⟩ := arr_pos hn hs hi
      by_cases c : i ≤ b
      · exact hno b c hb e
      · rw [hpre b (by omega)] at e
        have := getD_inj hn (by omega) hi e
        omega
    · refine ⟨mset τ 52 p2, ?_, p2, s2, rfl, g1, g2, g3, g4⟩
      show M_turnsRight_b3 (nI C.length) (nI (8 * at_)) (nI i) 1 (nI C.length) (mset τ 52 p2) = _
      unfold M_turnsRight_b3
      simp only [lt]
      rw [if_pos (nI_le (Nat.le_refl _) (by omega))]
      simp
theorem M_turnsRight_eq {τ : Mem} {n : Nat} {st : Nat → Nat} {C : List Nat} (h : TN τ n st C) (hst : ∀ c ∈ C, st c < 256 ∧ st c ≠ 0) {s : Nat → Nat} (hs : Arr C s) (hsort : ∀ i j, i < j → j < C.length → lst (st (s i)) < lst (st (s j))) (hcan : lst (st (C.getD 0 0)) < lst (st (C.getD (C.length - 1) 0))) {at_ : Nat} (hat : at_ < 8) (hp : PtF (τ 52) st at_ C.length s) (h51 : τ 51 at_ = nI C.length) : ∃ p, M_turnsRight (nI at_) τ = some (mset τ 52 p) ∧ PtF p st at_ C.length (fun i => C.getD i 0) ∧ ∀ q, (q < 8 * at_ ∨ 8 * at_ + 8 ≤ q) → p q = τ 52 q := by
  have h3 := h.2.1
  have hm := h.2.2.1
  have hn := h.2.2.2.1
  obtain ⟨a0, ha0, e0, -⟩ := arr_pos hn hs (t := 0) (by omega)
  have hb : ∀ x, x < a0 → s x ≠ C.getD (C.length - 1) 0 := by
    intro x hx e
    have := hsort x a0 hx ha0
    rw [e, e0] at this
    omega
  have f1 := tr_first h hs hat hp ha0 e0 hb
  obtain ⟨p1, q1, q2, q3⟩ := swaps_eq (τ := τ) hp hat hm (i := 0) (j := a0) (by omega) ha0
  rw [mset_self] at q1
  have k4 : ∃ r, lp (fun x => M_turnsRight_b4 (nI C.length) (nI (8 * at_)) x.1 x.2) fuel (nI 1, mset τ 52 p1) = some r ∧ ∃ p2 s2, r = mset τ 52 p2 ∧ Arr C s2 ∧ PtF p2 st at_ C.length s2 ∧ (∀ x, x < C.length → s2 x = C.getD x 0) ∧ ∀ q, (q < 8 * at_ ∨ 8 * at_ + 8 ≤ q) → p2 q = τ 52 q := by
    refine lp_for C.length (fun i x => 1 ≤ i ∧ ∃ p2 s2, x = (nI i, mset τ 52 p2) ∧ Arr C s2 ∧ PtF p2 st at_ C.length s2 ∧ (∀ x, x < i → s2 x = C.getD x 0) ∧ ∀ q, (q < 8 * at_ ∨ 8 * at_ + 8 ≤ q) → p2 q = τ 52 q) _ _ 1 (by omega) ⟨by omega, p1, swF s 0 a0, rfl, hs.sw (by omega) ha0, q2, fun x hx => by rw [show x = 0 by omega, swF_i, e0], q3⟩ (by omega) ?_ ?_
    · rintro i x hi ⟨hi1, p2, s2, rfl, g1, g2, g3, g4⟩
      left
      show ∃ s2, M_turnsRight_b4 (nI C.length) (nI (8 * at_)) (nI i) (mset τ 52 p2) = some (.inl s2) ∧ _
      unfold M_turnsRight_b4
      simp only [lt]
      have c0 : ¬ nI C.length ≤ nI i := nI_ge hi (by omega)
      obtain ⟨r, er, p3, s3, rfl, u1, u2, u3, u4⟩ := tr_find h hat g1 g2 hi1 hi g3
      rw [if_neg c0, er]
      simp only [Option.bind_some]
      exact ⟨_, rfl, by omega, p3, s3, by rw [nI_1], u1, u2, u3, fun q hq => (u4 q hq).trans (g4 q hq)⟩
    · rintro x ⟨hi1, p2, s2, rfl, g1, g2, g3, g4⟩
      show ∃ r, M_turnsRight_b4 (nI C.length) (nI (8 * at_)) (nI C.length) (mset τ 52 p2) = some (.inr r) ∧ _
      unfold M_turnsRight_b4
      rw [if_pos (nI_le (Nat.le_refl _) (by omega))]
      exact ⟨_, rfl, p2, s2, rfl, g1, g2, g3, g4⟩
  obtain ⟨r4, e4, p2, s2, rfl, g1, g2, g3, g4⟩ := k4
  refine ⟨p2, ?_, fun i hi => by rw [g2 i hi, g3 i hi], g4⟩
  unfold M_turnsRight
  simp only [lt]
  rw [rd_nI (by show at_ < 8; omega) (by decide), h51]
  simp only [Option.bind_some]
  have e8 : (8 : Int32) * nI at_ = nI (8 * at_) := by rw [L_8, pk_mul]
  have f1' : lp (fun x => M_turnsRight_b2 τ (nI C.length) (nI (8 * at_)) x.1 x.2) fuel (-1, 0) = _ := f1
  have q1' : M_swaps (nI (8 * at_)) (nI (8 * at_ + a0)) τ = some (mset τ 52 p1) := q1
  have e4' : lp (fun x => M_turnsRight_b4 (nI C.length) (nI (8 * at_)) x.1 x.2) fuel (1, mset τ 52 p1) = _ := e4
  rw [e8, f1']
  simp only [Option.bind_some]
  rw [nI_add, q1']
  simp only [Option.bind_some]
  rw [e4']
  simp only [Option.bind_some]
  obtain ⟨a1, a2⟩ := hst _ (getD_mem (C := C) (i := 0) (by omega))
  obtain ⟨b1, b2⟩ := hst _ (getD_mem (C := C) (i := C.length - 1) (by omega))
  have l1 := (lst_spec _ a1 a2).2.1
  have l2 := (lst_spec _ b1 b2).2.1
  have r0 : rd (mset τ 52 p2) 52 (nI (8 * at_)) = some (nI (st (C.getD 0 0))) := by
    rw [rd_nI (by show _ < 64; omega) (by decide), mset_eq]
    have := g2 0 (by omega)
    rw [g3 0 (by omega)] at this
    rw [← this]; rfl
  have e9 : nI (8 * at_) + nI C.length - 1 = nI (8 * at_ + (C.length - 1)) := by
    rw [nI_add, L_1, pk_sub (by omega)]; congr 1; omega
  rw [r0]
  simp only [Option.bind_some]
  rw [M_least_eq a1 a2]
  simp only [Option.bind_some]
  rw [e9, rd_nI (by show _ < 64; omega) (by decide), mset_eq, g2 _ (by omega), g3 _ (by omega)]
  simp only [Option.bind_some]
  rw [M_least_eq b1 b2]
  simp only [Option.bind_some]
  have c5 : nI (lst (st (C.getD 0 0))) ≤ nI (lst (st (C.getD (C.length - 1) 0))) := nI_le (by omega) (by omega)
  rw [if_pos c5]
  have e10 : lp (fun x => M_turnsRight_b5 (nI C.length) (nI (8 * at_)) 0 x.1 x.2) fuel (0, mset τ 52 p2) = some (mset τ 52 p2) := by
    refine lp_fu (n := 1) ?_ (by decide)
    have e : M_turnsRight_b5 (nI C.length) (nI (8 * at_)) 0 0 (mset τ 52 p2) = some (.inr (mset τ 52 p2)) := by
      unfold M_turnsRight_b5 dv
      rw [if_neg (by decide)]
      simp [lt]
    show (M_turnsRight_b5 (nI C.length) (nI (8 * at_)) 0 0 (mset τ 52 p2)).bind _ = _
    rw [e]; rfl
  rw [e10]
  rfl

theorem M_many_eq {m : Nat} (hm : m < 256) : M_many (nI m) = some (nI (pc8 m)) := by
  have key : ∀ m, m < 256 → lp (fun s => M_many_b1 (nI m) s.1 s.2) 20 (0, 0) = some (nI (pc8 m)) := by decide +kernel
  unfold M_many
  rw [lp_fu (key m hm) (by decide)]; rfl
def lst (m : Nat) : Nat := ((List.range 8).find? (fun k => m.testBit k)).getD 0
theorem M_least_eq {m : Nat} (hm : m < 256) (h0 : m ≠ 0) : M_least (nI m) = some (nI (lst m)) := by
  have key : ∀ m, m < 256 → m ≠ 0 → lp (fun s => M_least_b1 (nI m) s) 20 0 = some (nI (lst m)) := by decide +kernel
  unfold M_least
  rw [lp_fu (key m hm h0) (by decide)]; rfl
theorem two_pc : ∀ X, X < 256 → (1 < pc8 X ↔ ∃ i, i < 8 ∧ ∃ j, j < 8 ∧ i ≠ j ∧ X.testBit i = true ∧ X.testBit j = true) := by decide +kernel
theorem two_iff {X : Nat} (hX : X < 256) : two X ↔ 1 < pc8 X := by
  rw [two_pc X hX]
  constructor
  · rintro ⟨i, j, h1, h2, h3⟩
    exact ⟨i, bit_lt8 hX h2, j, bit_lt8 hX h3, h1, h2, h3⟩
  · rintro ⟨i, -, j, -, h1, h2, h3⟩
    exact ⟨i, j, h1, h2, h3⟩
theorem le_full_sub {n X : Nat} (h : X ≤ fullM n) : subM X (fullM n) := by
  intro i hi
  rw [full_bit]
  have : ¬ n ≤ i := fun hh => by
    have h1 := Nat.ge_two_pow_of_testBit hi
    have h2 : 2 ^ n ≤ 2 ^ i := Nat.pow_le_pow_right (by decide) hh
    have h3 : 0 < 2 ^ n := Nat.two_pow_pos n
    unfold fullM at h; omega
  simp; omega
theorem sub_le_full {n X : Nat} (h : subM X (fullM n)) : X ≤ fullM n := Nat.le_of_testBit h
/-- the array go as the rows have it -/
def GoS (n : Nat) (L : List Nat) (g : Nat → Int32) : Prop := ∀ m, m ≤ fullM n → ∃ gm, gm < 256 ∧ g m = nI gm ∧ ∀ k, gm.testBit k = true ↔ Occ n L m k
def badM (n : Nat) (L : List Nat) (X m : Nat) : Prop := m &&& X ≠ 0 ∧ m &&& X ≠ X ∧ ∃ k, Occ n L m k ∧ X.testBit k = false
theorem bad_iff {n : Nat} {L : List Nat} {X : Nat} (hX : X ≤ fullM n) : (∀ m, m < fullM n → ¬ badM n L X m) ↔ ∀ r, Rw n L r → Cons X r := by
  have key : ∀ r, Rw n L r → (Cons X r ↔ ∀ a k b, r = a ++ k :: b → mkL a &&& X ≠ 0 → mkL a &&& X ≠ X → X.testBit k = true) := fun r hr => cons_iff hr.1 (fun x hx => (hr.2.1 x).mpr (by have := le_full_sub hX x hx; rw [full_bit] at this; simpa using this))
  constructor
  · intro h r hr
    rw [key r hr]
    intro a k b e h1 h2
    cases hk : X.testBit k with
    | true => rfl
    | false =>
      exfalso
      refine h (mkL a) ?_ ⟨h1, h2, k, ⟨r, a, b, hr, e, rfl⟩, hk⟩
      have hsub : subM (mkL a) (fullM n) := fun i hi => by
        rw [mkL_bit] at hi
        rw [full_bit]
        have : i ∈ r := by rw [e]; simp at hi; simp [hi]
        simpa using (hr.2.1 i).mp this
      have hle := sub_le_full hsub
      have hne : mkL a ≠ fullM n := by
        intro hh
        have hkn : k < n := (hr.2.1 k).mp (by rw [e]; simp)
        have h3 : (mkL a).testBit k = true := by rw [hh, full_bit]; simpa using hkn
        rw [mkL_bit] at h3
        have hka : k ∈ a := by simpa using h3
        have hnd := hr.1
        rw [e] at hnd
        exact (List.nodup_append.mp hnd).2.2 k hka k (by simp) rfl
      omega
  · rintro h m hm ⟨h1, h2, k, ⟨r, a, b, hr, e, rfl⟩, hk⟩
    have := (key r hr).mp (h r hr) a k b e h1 h2
    rw [hk] at this; cases this
theorem sd0_iff {a X : Nat} : sd a X = 0 ↔ ∀ k, a.testBit k = true → X.testBit k = true := by
  constructor
  · intro h k hk
    cases hx : X.testBit k with
    | true => rfl
    | false =>
      have : (sd a X).testBit k = true := by rw [sd_bit, hk, hx]; rfl
      rw [h] at this; simp at this
  · intro h
    apply Nat.eq_of_testBit_eq
    intro k
    rw [sd_bit, Nat.zero_testBit]
    cases ha : a.testBit k with
    | false => rfl
    | true => rw [h k ha]; rfl
theorem sd_lt {a X : Nat} (h : a < 256) : sd a X < 256 := by
  apply Nat.lt_pow_two_of_testBit (n := 8)
  intro i hi
  rw [sd_bit]
  cases ha : a.testBit i with
  | false => rfl
  | true => have := bit_lt8 h ha; omega
theorem M_isSure_eq {τ : Mem} {n : Nat} {L : List Nat} (h0 : τ 43 0 = nI n) (hn : n ≤ 8) (hG : GoS n L (τ 46)) {X : Nat} (hX : X ≤ fullM n) : ∃ v, M_isSure (nI X) τ = some v ∧ (v = 0 ∨ v = 1) ∧ (v = 1 ↔ ∀ r, Rw n L r → Cons X r) := by
  have hfull := full_lt hn
  have hall := M_all_eq h0 hn
  have key : ∃ r, lp (fun s => M_isSure_b1 (nI X) τ s) fuel (nI 0) = some r ∧ ((r = .inl () ∧ ∀ m, m < fullM n → ¬ badM n L X m) ∨ (r = .inr 0 ∧ ∃ m, m < fullM n ∧ badM n L X m)) := by
    refine lp_for (fullM n) (fun j s => s = nI j ∧ ∀ m, m < j → ¬ badM n L X m) _ _ 0 (by omega) ⟨rfl, fun m h => by omega⟩ (by omega) ?_ ?_
    · rintro j s hj ⟨rfl, hb⟩
      obtain ⟨gm, g1, g2, g3⟩ := hG j (by omega)
      have hjX : j &&& X < 256 := and_lt256 (by omega)
      have hsd := sd_lt (X := X) g1
      have e1 : ((if nI (j &&& X) = 0 then some false else if nI (j &&& X) = nI X then some false else (rd τ 46 (nI j)).bind (fun vq20 => if (vq20 &&& (nI X ^^^ (-1))) = 0 then some false else some true)) : Option Bool) = some (decide (j &&& X ≠ 0 ∧ j &&& X ≠ X ∧ sd gm X ≠ 0)) := by
        rw [rd_nI (by show j < 256; omega) (by decide), g2]
        simp only [Option.bind_some]
        rw [xI_diff]
        have d1 : nI (j &&& X) = 0 ↔ j &&& X = 0 := nI_eq (a := j &&& X) (b := 0) (by omega) (by omega)
        have d2 : nI (j &&& X) = nI X ↔ j &&& X = X := nI_eq (by omega) (by omega)
        have d3 : nI (sd gm X) = 0 ↔ sd gm X = 0 := nI_eq (a := sd gm X) (b := 0) (by omega) (by omega)
        simp only [d1, d2, d3]
        by_cases c1 : j &&& X = 0 <;> by_cases c2 : j &&& X = X <;> by_cases c3 : sd gm X = 0 <;> simp [c1, c2, c3]
      have hbj : badM n L X j ↔ (j &&& X ≠ 0 ∧ j &&& X ≠ X ∧ sd gm X ≠ 0) := by
        unfold badM
        refine and_congr_right fun _ => and_congr_right fun _ => ?_
        rw [Ne, sd0_iff]
        constructor
        · rintro ⟨k, hk, hx⟩ h
          have := h k ((g3 k).mpr hk)
          rw [hx] at this; cases this
        · intro h
          simp only [Classical.not_forall] at h
          obtain ⟨k, hk, hx⟩ := h
          exact ⟨k, (g3 k).mp hk, by simpa using hx⟩
      by_cases hbad : badM n L X j
      · right
        refine ⟨.inr 0, ?_, Or.inr ⟨rfl, j, hj, hbad⟩⟩
        show M_isSure_b1 (nI X) τ (nI j) = _
        unfold M_isSure_b1
        simp only [lt]
        rw [hall, if_neg (by rw [nI_leI (by omega) (by omega)]; omega), xI_and, e1]
        simp only [Option.bind_some]
        rw [if_pos (decide_eq_true (hbj.mp hbad))]
      · left
        refine ⟨nI (j + 1), ?_, rfl, fun m hm => ?_⟩
        · show M_isSure_b1 (nI X) τ (nI j) = _
          unfold M_isSure_b1
          simp only [lt]
          rw [hall, if_neg (by rw [nI_leI (by omega) (by omega)]; omega), xI_and, e1]
          simp only [Option.bind_some]
          rw [if_neg (by simpa using fun h1 h2 => by by_cases c3 : sd gm X = 0; exact c3; exact absurd (hbj.mpr ⟨h1, h2, c3⟩) hbad), nI_1]
        · by_cases e : m = j
          · rw [e]; exact hbad
          · exact hb m (by omega)
    · rintro s ⟨rfl, hb⟩
      refine ⟨.inl (), ?_, Or.inl ⟨rfl, hb⟩⟩
      show M_isSure_b1 (nI X) τ (nI (fullM n)) = _
      unfold M_isSure_b1
      rw [hall, if_pos (by rw [nI_leI (by omega) (by omega)]; omega)]
  obtain ⟨r, er, h | h⟩ := key
  · refine ⟨1, ?_, Or.inr rfl, ?_⟩
    · unfold M_isSure
      show (lp _ fuel (nI 0)).bind _ = _
      rw [er, h.1]; rfl
    · exact ⟨fun _ => (bad_iff hX).mp h.2, fun _ => rfl⟩
  · refine ⟨0, ?_, Or.inl rfl, ?_⟩
    · unfold M_isSure
      show (lp _ fuel (nI 0)).bind _ = _
      rw [er, h.1]; rfl
    · obtain ⟨m, hm, hb⟩ := h.2
      exact ⟨fun h1 => absurd h1 (by decide), fun h1 => absurd hb ((bad_iff hX).mpr h1 m hm)⟩

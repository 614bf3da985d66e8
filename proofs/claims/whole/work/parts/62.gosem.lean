-- ===== what go tells: which thing comes next in some row =====
def Occ (n : Nat) (L : List Nat) (m k : Nat) : Prop := ∃ r a b, Rw n L r ∧ r = a ++ k :: b ∧ mkL a = m
theorem mkL_rev (r : List Nat) : mkL r.reverse = mkL r := by
  apply Nat.eq_of_testBit_eq; intro i; simp [mkL_bit]
theorem nodup_rev {r : List Nat} : r.reverse.Nodup ↔ r.Nodup := by
  simp [List.Nodup, List.pairwise_reverse, eq_comm]
theorem stp_pre {nx : Nat → Nat} {u v : List Nat} (h : stp nx (u ++ v)) : stp nx u := fun a k b e => h a k (b ++ v) (by rw [e]; simp)
theorem cw_ne0 {n : Nat} {nx : Nat → Nat} (hn1 : ∀ d k, (nx d).testBit k = true → k < n) (hn2 : ∀ d k, (nx d).testBit k = true → d.testBit k = false) {m : Nat} (hm : m < 256) : cw n nx m ≠ 0 ↔ ∃ a, a.Nodup ∧ mkL a = m ∧ stp nx a := by
  have e : cw n nx m = (goD n nx (m + 1) m).length := by rw [goD_len]; rfl
  rw [e, Nat.ne_zero_iff_zero_lt, List.length_pos_iff_exists_mem]
  constructor
  · rintro ⟨q, hq⟩
    rw [goD_mem hn1 _ _ (by omega), PTr_iff hn2 q _ hm] at hq
    exact ⟨q.reverse, nodup_rev.mpr hq.1, by rw [mkL_rev]; exact hq.2.1, hq.2.2⟩
  · rintro ⟨a, h1, h2, h3⟩
    refine ⟨a.reverse, ?_⟩
    rw [goD_mem hn1 _ _ (by omega), PTr_iff hn2 _ _ hm]
    exact ⟨nodup_rev.mpr h1, by rw [mkL_rev]; exact h2, by rw [List.reverse_reverse]; exact h3⟩
theorem mkL_snoc (a : List Nat) (k : Nat) : mkL (a ++ [k]) = mkL a ||| 2 ^ k := by
  rw [mkL_app]; simp [mkL]
theorem or_le_full {n m k : Nat} (hm : m ≤ fullM n) (hk : k < n) : m ||| 2 ^ k ≤ fullM n := by
  apply Nat.le_of_testBit
  intro i hi
  rw [Nat.testBit_or, Nat.testBit_two_pow] at hi
  rw [full_bit]
  rcases Bool.or_eq_true _ _ |>.mp hi with h | h
  · have : ¬ n ≤ i := fun hh => by
      have h1 := Nat.ge_two_pow_of_testBit h
      have h2 : 2 ^ n ≤ 2 ^ i := Nat.pow_le_pow_right (by decide) hh
      have h3 : 0 < 2 ^ n := Nat.two_pow_pos n
      unfold fullM at hm; omega
    simp; omega
  · simp at h; simp; omega
theorem go_sem {n : Nat} {L : List Nat} {nx : Nat → Nat} (hn : n ≤ 8) (hnx : ∀ d i, (nx d).testBit i = true ↔ i < n ∧ d.testBit i = false ∧ okS (L.map (fun g => g &&& fullM n)) d i) {g e : Nat → Int32} (hG : ∀ m, m ≤ fullM n → GoAt n nx g e m) : ∀ m, m ≤ fullM n → ∃ gm, gm < 256 ∧ g m = nI gm ∧ ∀ k, gm.testBit k = true ↔ Occ n L m k := by
  have hfull := full_lt hn
  have hn1 : ∀ d k, (nx d).testBit k = true → k < n := fun d k h => ((hnx d k).mp h).1
  have hn2 : ∀ d k, (nx d).testBit k = true → d.testBit k = false := fun d k h => ((hnx d k).mp h).2.1
  -- a way to the end
  have endW : ∀ q m, m ≤ fullM n → fullM n - m < q → e m = 1 → ∀ a, a.Nodup → mkL a = m → stp nx a → ∃ b, (a ++ b).Nodup ∧ mkL (a ++ b) = fullM n ∧ stp nx (a ++ b) := by
    intro q
    induction q with
    | zero => intro m _ h; omega
    | succ q ih =>
      intro m hm hq he a ha1 ha2 ha3
      obtain ⟨-, gm, -, -, g4, g5⟩ := hG m hm
      rcases g5.mp he with h | h
      · exact ⟨[], by simpa using ha1, by simp [ha2, h], by simpa using ha3⟩
      · obtain ⟨k, hk⟩ := Nat.exists_testBit_of_ne_zero h
        obtain ⟨k1, k2, k3, k4⟩ := (g4 k).mp hk
        have hgt := or_gt (hn2 m k k3)
        have hle := or_le_full hm k1
        have hka : k ∉ a := by
          intro hh
          have : (mkL a).testBit k = true := by rw [mkL_bit]; simpa using hh
          rw [ha2, hn2 m k k3] at this; cases this
        obtain ⟨b, b1, b2, b3⟩ := ih (m ||| 2 ^ k) (or_le_full hm k1) (by omega) k4 (a ++ [k]) (by
          rw [List.nodup_append]
          exact ⟨ha1, by simp, fun x hx y hy e => hka (by simp at hy; rw [← hy, ← e]; exact hx)⟩) (by rw [mkL_snoc, ha2]) (by
          intro x z y eq
          rcases List.eq_nil_or_concat y with rfl | ⟨y2, w, rfl⟩
          · have := List.append_inj' eq rfl
            simp at this
            obtain ⟨rfl, rfl⟩ := this
            rw [ha2]; exact k3
          · have eq2 : a ++ [k] = (x ++ z :: y2) ++ [w] := by rw [eq]; simp
            have := List.append_inj' eq2 rfl
            exact ha3 x z y2 this.1)
        exact ⟨k :: b, by simpa using b1, by simpa using b2, by simpa using b3⟩
  -- along a row all ends are there
  have endR : ∀ v u, Rw n L (u ++ v) → e (mkL u) = 1 := by
    intro v
    induction v with
    | nil =>
      intro u h
      have h2 := (rw_stp hnx _).mp h
      simp at h2
      obtain ⟨-, gm, -, -, -, g5⟩ := hG (mkL u) (by rw [h2.2.1]; exact Nat.le_refl _)
      exact g5.mpr (Or.inl h2.2.1)
    | cons k v ih =>
      intro u h
      have h2 := (rw_stp hnx _).mp h
      have h3 := ih (u ++ [k]) (by simpa using h)
      rw [mkL_snoc] at h3
      have hle : mkL u ≤ fullM n := by
        rw [← h2.2.1, mkL_app]; exact Nat.left_le_or
      have hk := h2.2.2 u k v rfl
      obtain ⟨-, gm, -, -, g4, g5⟩ := hG (mkL u) hle
      refine g5.mpr (Or.inr ?_)
      intro hz
      have : gm.testBit k = true := (g4 k).mpr ⟨hn1 _ _ hk, (cw_ne0 hn1 hn2 (by omega)).mpr ⟨u, (List.nodup_append.mp h2.1).1, rfl, stp_pre h2.2.2⟩, hk, h3⟩
      rw [hz] at this; simp at this
  intro m hm
  obtain ⟨-, gm, g2, g3, g4, -⟩ := hG m hm
  refine ⟨gm, g2, g3, fun k => ?_⟩
  rw [g4]
  constructor
  · rintro ⟨k1, k2, k3, k4⟩
    obtain ⟨a, a1, a2, a3⟩ := (cw_ne0 hn1 hn2 (by omega)).mp k2
    have hka : k ∉ a := by
      intro hh
      have : (mkL a).testBit k = true := by rw [mkL_bit]; simpa using hh
      rw [a2, hn2 m k k3] at this; cases this
    obtain ⟨b, b1, b2, b3⟩ := endW (fullM n + 1) (m ||| 2 ^ k) (or_le_full hm k1) (by omega) k4 (a ++ [k]) (by
      rw [List.nodup_append]
      exact ⟨a1, by simp, fun x hx y hy e => hka (by simp at hy; rw [← hy, ← e]; exact hx)⟩) (by rw [mkL_snoc, a2]) (by
      intro x z y eq
      rcases List.eq_nil_or_concat y with rfl | ⟨y2, w, rfl⟩
      · have := List.append_inj' eq rfl
        simp at this
        obtain ⟨rfl, rfl⟩ := this
        rw [a2]; exact k3
      · have eq2 : a ++ [k] = (x ++ z :: y2) ++ [w] := by rw [eq]; simp
        have := List.append_inj' eq2 rfl
        exact a3 x z y2 this.1)
    exact ⟨a ++ [k] ++ b, a, b, (rw_stp hnx _).mpr ⟨b1, b2, b3⟩, by simp, a2⟩
  · rintro ⟨r, a, b, hr, rfl, ha⟩
    have h2 := (rw_stp hnx _).mp hr
    have hk := h2.2.2 a k b rfl
    rw [ha] at hk
    have h3 := endR b (a ++ [k]) (by simpa using hr)
    rw [mkL_snoc, ha] at h3
    exact ⟨hn1 _ _ hk, (cw_ne0 hn1 hn2 (by omega)).mpr ⟨a, (List.nodup_append.mp h2.1).1, ha, stp_pre h2.2.2⟩, hk, h3⟩

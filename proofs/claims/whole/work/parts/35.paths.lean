-- ===== paths of sets, last thing first; rows; their count =====
def PTr (nx : Nat → Nat) : List Nat → Nat → Prop
  | [], m => m = 0
  | k :: q, m => m.testBit k = true ∧ (nx (m - 2 ^ k)).testBit k = true ∧ PTr nx q (m - 2 ^ k)
def goD (n : Nat) (nx : Nat → Nat) : Nat → Nat → List (List Nat)
  | 0, _ => []
  | f + 1, m => if m = 0 then [[]] else (List.range n).flatMap (fun k => if m.testBit k = true ∧ (nx (m - 2 ^ k)).testBit k = true then (goD n nx f (m - 2 ^ k)).map (fun q => k :: q) else [])
theorem goD_len (n : Nat) (nx : Nat → Nat) : ∀ f m, (goD n nx f m).length = cwD n nx f m := by
  intro f
  induction f with
  | zero => intro m; rfl
  | succ f ih =>
    intro m
    unfold goD cwD
    by_cases h0 : m = 0
    · rw [if_pos h0, if_pos h0]; rfl
    · rw [if_neg h0, if_neg h0, List.length_flatMap]
      unfold sumR
      congr 1
      apply List.map_congr_left
      intro k hk
      show (if _ then _ else _ : List (List Nat)).length = _
      by_cases c : m.testBit k = true ∧ (nx (m - 2 ^ k)).testBit k = true
      · rw [if_pos c, if_pos c, List.length_map, ih]
      · rw [if_neg c, if_neg c]; rfl
theorem goD_mem {n : Nat} {nx : Nat → Nat} (hn : ∀ d k, (nx d).testBit k = true → k < n) : ∀ f m, m < f → ∀ q, q ∈ goD n nx f m ↔ PTr nx q m := by
  intro f
  induction f with
  | zero => intro m h; omega
  | succ f ih =>
    intro m hm q
    unfold goD
    by_cases h0 : m = 0
    · subst h0
      rw [if_pos rfl]
      cases q with
      | nil => simp [PTr]
      | cons k q => simp [PTr]
    · rw [if_neg h0]
      simp only [List.mem_flatMap, List.mem_range]
      cases q with
      | nil =>
        simp only [PTr, h0, iff_false]
        rintro ⟨k, hk, h⟩
        split at h
        · simp at h
        · cases h
      | cons k q =>
        simp only [PTr]
        constructor
        · rintro ⟨k2, hk, h⟩
          split at h
          · rename_i c
            simp at h
            obtain ⟨h1, rfl⟩ := h
            exact ⟨c.1, c.2, (ih _ (by have := sub_lt_of_bit c.1; omega) q).mp h1⟩
          · cases h
        · rintro ⟨h1, h2, h3⟩
          refine ⟨k, hn _ _ h2, ?_⟩
          rw [if_pos ⟨h1, h2⟩]
          simp
          exact (ih _ (by have := sub_lt_of_bit h1; omega) q).mpr h3
theorem nodup_flatMap {α β : Type} (L : List α) (f : α → List β) (h1 : ∀ a ∈ L, (f a).Nodup) (h2 : L.Nodup) (h3 : ∀ a ∈ L, ∀ b ∈ L, a ≠ b → ∀ x, x ∈ f a → x ∉ f b) : (L.flatMap f).Nodup := by
  induction L with
  | nil => simp
  | cons a L ih =>
    rw [List.flatMap_cons, List.nodup_append]
    have hn := List.nodup_cons.mp h2
    refine ⟨h1 a (by simp), ih (fun b hb => h1 b (by simp [hb])) hn.2 (fun b hb c hc => h3 b (by simp [hb]) c (by simp [hc])), ?_⟩
    intro x hx y hy e
    subst e
    obtain ⟨b, hb, hy⟩ := List.mem_flatMap.mp hy
    exact h3 a (by simp) b (by simp [hb]) (fun e => hn.1 (e ▸ hb)) x hx hy
theorem nodup_map_inj {α β : Type} (L : List α) (f : α → β) (hf : ∀ a b, f a = f b → a = b) (h : L.Nodup) : (L.map f).Nodup := by
  induction L with
  | nil => simp
  | cons a L ih =>
    rw [List.map_cons, List.nodup_cons]
    have hn := List.nodup_cons.mp h
    refine ⟨fun hm => ?_, ih hn.2⟩
    obtain ⟨b, hb, e⟩ := List.mem_map.mp hm
    exact hn.1 (hf _ _ e ▸ hb)
theorem goD_nodup (n : Nat) (nx : Nat → Nat) : ∀ f m, (goD n nx f m).Nodup := by
  intro f
  induction f with
  | zero => intro m; exact List.nodup_nil
  | succ f ih =>
    intro m
    unfold goD
    by_cases h0 : m = 0
    · rw [if_pos h0]; simp
    · rw [if_neg h0]
      apply nodup_flatMap
      · intro k hk
        show (if _ then _ else _ : List (List Nat)).Nodup
        split
        · exact nodup_map_inj _ _ (fun a b e => by simpa using e) (ih _)
        · exact List.nodup_nil
      · exact List.nodup_range
      · intro k hk k2 hk2 hne x hx hx2
        split at hx
        · split at hx2
          · obtain ⟨q, -, rfl⟩ := List.mem_map.mp hx
            obtain ⟨q2, -, e⟩ := List.mem_map.mp hx2
            simp at e
            exact hne e.1.symm
          · cases hx2
        · cases hx
/-- two lists without repeats and with the same members are as long -/
theorem len_sub {α : Type} [DecidableEq α] : ∀ (A B : List α), A.Nodup → (∀ x ∈ A, x ∈ B) → A.length ≤ B.length := by
  intro A
  induction A with
  | nil => intro B _ _; simp
  | cons a A ih =>
    intro B hn h
    have hn2 := List.nodup_cons.mp hn
    have ha : a ∈ B := h a (by simp)
    have h1 := ih (B.erase a) hn2.2 (fun x hx => (List.mem_erase_of_ne (a := x) (b := a) (fun e => hn2.1 (by rw [← e]; exact hx))).mpr (h x (by simp [hx])))
    rw [List.length_erase_of_mem ha] at h1
    have : 0 < B.length := List.length_pos_of_mem ha
    simp only [List.length_cons]; omega
theorem len_same {α : Type} [DecidableEq α] {A B : List α} (hA : A.Nodup) (hB : B.Nodup) (h : ∀ x, x ∈ A ↔ x ∈ B) : A.length = B.length :=
  Nat.le_antisymm (len_sub A B hA (fun x hx => (h x).mp hx)) (len_sub B A hB (fun x hx => (h x).mpr hx))
/-- a row of n things that has the sets of L -/
def Rw (n : Nat) (L : List Nat) (r : List Nat) : Prop := r.Nodup ∧ (∀ x, x ∈ r ↔ x < n) ∧ ∀ g ∈ L, Cons (g &&& fullM n) r
/-- all steps of a list are permitted -/
def stp (nx : Nat → Nat) (r : List Nat) : Prop := ∀ a k b, r = a ++ k :: b → (nx (mkL a)).testBit k = true
theorem bit_lt8 {m k : Nat} (hm : m < 256) (h : m.testBit k = true) : k < 8 := by
  have h1 := Nat.ge_two_pow_of_testBit h
  have : ¬ 8 ≤ k := fun hh => by
    have h2 : 2 ^ 8 ≤ 2 ^ k := Nat.pow_le_pow_right (by decide) hh
    omega
  omega
theorem sub_xor : ∀ m, m < 256 → ∀ k, k < 8 → m.testBit k = true → m - 2 ^ k = m ^^^ 2 ^ k := by decide +kernel
theorem sub_bit {m k : Nat} (hm : m < 256) (h : m.testBit k = true) (i : Nat) : (m - 2 ^ k).testBit i = (m.testBit i && decide (i ≠ k)) := by
  have e := sub_xor m hm k (bit_lt8 hm h) h
  rw [e, Nat.testBit_xor, Nat.testBit_two_pow]
  by_cases e : k = i
  · subst e; simp [h]
  · have e2 : i ≠ k := fun z => e z.symm
    simp [e, e2]
theorem PTr_iff {nx : Nat → Nat} (hnx : ∀ d k, (nx d).testBit k = true → d.testBit k = false) : ∀ (q : List Nat) (m : Nat), m < 256 → (PTr nx q m ↔ (q.Nodup ∧ mkL q = m ∧ stp nx q.reverse)) := by
  intro q
  induction q with
  | nil =>
    intro m hm0
    simp only [PTr, mkL, List.reverse_nil]
    constructor
    · rintro rfl; exact ⟨List.nodup_nil, rfl, fun a k b e => by simp at e⟩
    · rintro ⟨-, h, -⟩; exact h.symm
  | cons k q ih =>
    intro m hm0
    simp only [PTr]
    rw [ih (m - 2 ^ k) (Nat.lt_of_le_of_lt (Nat.sub_le _ _) hm0)]
    constructor
    · rintro ⟨h1, h2, h3, h4, h5⟩
      have hk : k ∉ q := by
        intro hk
        have : (mkL q).testBit k = true := by rw [mkL_bit]; simpa using hk
        rw [h4, sub_bit hm0 h1] at this; simp at this
      have e : mkL (k :: q) = m := by
        apply Nat.eq_of_testBit_eq
        intro i
        simp only [mkL, Nat.testBit_or, Nat.testBit_two_pow, h4, sub_bit hm0 h1]
        by_cases e : k = i
        · subst e; simp [h1]
        · have e2 : i ≠ k := fun z => e z.symm
          simp [e, e2]
      refine ⟨List.nodup_cons.mpr ⟨hk, h3⟩, e, ?_⟩
      intro a z b eq
      rw [List.reverse_cons] at eq
      rcases List.eq_nil_or_concat b with rfl | ⟨b2, w, rfl⟩
      · have := List.append_inj' eq rfl
        simp at this
        obtain ⟨rfl, rfl⟩ := this
        have : mkL q.reverse = mkL q := by
          apply Nat.eq_of_testBit_eq; intro i; simp [mkL_bit]
        rw [this, h4]; exact h2
      · have eq2 : q.reverse ++ [k] = (a ++ z :: b2) ++ [w] := by rw [eq]; simp
        have := List.append_inj' eq2 rfl
        exact h5 a z b2 this.1
    · rintro ⟨h1, h2, h3⟩
      have hn := List.nodup_cons.mp h1
      have hm : m.testBit k = true := by rw [← h2, mkL_bit]; simp
      have e : mkL q = m - 2 ^ k := by
        apply Nat.eq_of_testBit_eq
        intro i
        rw [sub_bit hm0 hm, ← h2, mkL_bit, mkL_bit]
        by_cases e : i = k
        · subst e; simp [hn.1]
        · simp [e]
      refine ⟨hm, ?_, hn.2, e, ?_⟩
      · have := h3 q.reverse k [] (by simp)
        have e2 : mkL q.reverse = mkL q := by
          apply Nat.eq_of_testBit_eq; intro i; simp [mkL_bit]
        rw [e2, e] at this; exact this
      · intro a z b eq
        exact h3 a z (b ++ [k]) (by rw [List.reverse_cons, eq]; simp)
/-- the rows, by steps -/
theorem rw_stp {n : Nat} {L : List Nat} {nx : Nat → Nat} (hnx : ∀ d i, (nx d).testBit i = true ↔ i < n ∧ d.testBit i = false ∧ okS (L.map (fun g => g &&& fullM n)) d i) (r : List Nat) : Rw n L r ↔ (r.Nodup ∧ mkL r = fullM n ∧ stp nx r) := by
  have hmk : (∀ x, x ∈ r ↔ x < n) ↔ mkL r = fullM n := by
    constructor
    · intro h
      apply Nat.eq_of_testBit_eq
      intro i
      rw [mkL_bit, full_bit]
      by_cases c : i < n
      · simp [c, (h i).mpr c]
      · have c2 : i ∉ r := fun z => c ((h i).mp z)
        simp [c, c2]
    · intro h x
      have h1 : (mkL r).testBit x = (fullM n).testBit x := by rw [h]
      rw [mkL_bit, full_bit] at h1
      simpa using h1
  have hc : r.Nodup → (∀ x, x ∈ r ↔ x < n) → ((∀ g ∈ L, Cons (g &&& fullM n) r) ↔ stp nx r) := by
    intro hn hx
    have hg : ∀ g : Nat, ∀ x, (g &&& fullM n).testBit x = true → x ∈ r := fun g x h => by
      rw [Nat.testBit_and, full_bit] at h
      simp at h
      exact (hx x).mpr h.2
    constructor
    · intro h a k b e
      rw [hnx]
      refine ⟨(hx k).mp (by rw [e]; simp), ?_, ?_⟩
      · rw [mkL_bit]
        rw [e] at hn
        have := (List.nodup_append.mp hn).2.2
        simp only [decide_eq_false_iff_not]
        intro hk
        exact this k hk k (by simp) rfl
      · intro g hgm h1 h2
        obtain ⟨g0, hg0, rfl⟩ := List.mem_map.mp hgm
        exact (cons_iff hn (hg g0)).mp (h g0 hg0) a k b e h1 h2
    · intro h g hgm
      rw [cons_iff hn (hg g)]
      intro a k b e h1 h2
      have := ((hnx _ _).mp (h a k b e)).2.2
      exact this _ (List.mem_map.mpr ⟨g, hgm, rfl⟩) h1 h2
  unfold Rw
  constructor
  · rintro ⟨h1, h2, h3⟩
    exact ⟨h1, hmk.mp h2, (hc h1 h2).mp h3⟩
  · rintro ⟨h1, h2, h3⟩
    exact ⟨h1, hmk.mpr h2, (hc h1 (hmk.mpr h2)).mpr h3⟩
/-- the count is that of any list of the rows without repeats -/
theorem cw_count {n : Nat} {L : List Nat} {nx : Nat → Nat} (hn : n ≤ 8) (hnx : ∀ d i, (nx d).testBit i = true ↔ i < n ∧ d.testBit i = false ∧ okS (L.map (fun g => g &&& fullM n)) d i) (A : List (List Nat)) (hA : A.Nodup) (h : ∀ r, r ∈ A ↔ Rw n L r) : A.length = cw n nx (fullM n) := by
  have h1 : (A.map List.reverse).length = (goD n nx (fullM n + 1) (fullM n)).length := by
    apply len_same (nodup_map_inj A _ (fun a b e => by simpa using e) hA) (goD_nodup n nx _ _)
    intro q
    rw [goD_mem (fun d k hk => ((hnx d k).mp hk).1) _ _ (by omega), PTr_iff (fun d k hk => ((hnx d k).mp hk).2.1) q _ (full_lt hn)]
    simp only [List.mem_map]
    constructor
    · rintro ⟨r, hr, rfl⟩
      have := (rw_stp hnx r).mp ((h r).mp hr)
      refine ⟨by simpa [List.Nodup, List.pairwise_reverse, eq_comm] using this.1, ?_, by simpa using this.2.2⟩
      rw [← this.2.1]
      apply Nat.eq_of_testBit_eq; intro i; simp [mkL_bit]
    · rintro ⟨h1, h2, h3⟩
      refine ⟨q.reverse, (h _).mpr ((rw_stp hnx _).mpr ⟨by simpa [List.Nodup, List.pairwise_reverse, eq_comm] using h1, ?_, h3⟩), by simp⟩
      rw [← h2]
      apply Nat.eq_of_testBit_eq; intro i; simp [mkL_bit]
  rw [List.length_map, goD_len] at h1
  rw [h1]; rfl
theorem cw_pos {n : Nat} {L : List Nat} {nx : Nat → Nat} (hn : n ≤ 8) (hnx : ∀ d i, (nx d).testBit i = true ↔ i < n ∧ d.testBit i = false ∧ okS (L.map (fun g => g &&& fullM n)) d i) : 0 < cw n nx (fullM n) ↔ ∃ r, Rw n L r := by
  have e : cw n nx (fullM n) = (goD n nx (fullM n + 1) (fullM n)).length := by rw [goD_len]; rfl
  rw [e, List.length_pos_iff_exists_mem]
  constructor
  · rintro ⟨q, hq⟩
    rw [goD_mem (fun d k hk => ((hnx d k).mp hk).1) _ _ (by omega), PTr_iff (fun d k hk => ((hnx d k).mp hk).2.1) q _ (full_lt hn)] at hq
    refine ⟨q.reverse, (rw_stp hnx _).mpr ⟨by simpa [List.Nodup, List.pairwise_reverse, eq_comm] using hq.1, ?_, hq.2.2⟩⟩
    rw [← hq.2.1]
    apply Nat.eq_of_testBit_eq; intro i; simp [mkL_bit]
  · rintro ⟨r, hr⟩
    have := (rw_stp hnx r).mp hr
    refine ⟨r.reverse, ?_⟩
    rw [goD_mem (fun d k hk => ((hnx d k).mp hk).1) _ _ (by omega), PTr_iff (fun d k hk => ((hnx d k).mp hk).2.1) _ _ (full_lt hn)]
    refine ⟨by simpa [List.Nodup, List.pairwise_reverse, eq_comm] using this.1, ?_, by simpa using this.2.2⟩
    rw [← this.2.1]
    apply Nat.eq_of_testBit_eq; intro i; simp [mkL_bit]

-- ===== a tree's text, its leaves, its sizes =====
def txD (kd : Nat → Bool) (ch : Nat → List Nat) : Nat → Nat → List Nat
  | 0, _ => []
  | d + 1, id => if id < 8 then [97 + id] else (if kd id = true then 91 else 40) :: ((ch id).flatMap (txD kd ch d) ++ [if kd id = true then 93 else 41])
def lvD (ch : Nat → List Nat) : Nat → Nat → List Nat
  | 0, _ => []
  | d + 1, id => if id < 8 then [id] else (ch id).flatMap (lvD ch d)
theorem flatMap_congr' {α β : Type} {f g : α → List β} : ∀ {L : List α}, (∀ a ∈ L, f a = g a) → L.flatMap f = L.flatMap g := by
  intro L
  induction L with
  | nil => intro _; rfl
  | cons a L ih => intro h; rw [List.flatMap_cons, List.flatMap_cons, h a (by simp), ih (fun b hb => h b (by simp [hb]))]
theorem fuel_s {kd : Nat → Bool} {ch : Nat → List Nat} {st : Nat → Nat} : ∀ (d id : Nat), WfD kd ch st d id → ndD ch (d + 1) id = ndD ch d id ∧ txD kd ch (d + 1) id = txD kd ch d id ∧ lvD ch (d + 1) id = lvD ch d id := by
  intro d
  induction d with
  | zero => intro id h; exact absurd h (by simp [WfD])
  | succ d ih =>
    intro id hw
    by_cases h : id < 8
    · refine ⟨?_, ?_, ?_⟩
      · show (if id < 8 then _ else _) = (if id < 8 then _ else _)
        rw [if_pos h, if_pos h]
      · show (if id < 8 then _ else _) = (if id < 8 then _ else _)
        rw [if_pos h, if_pos h]
      · show (if id < 8 then _ else _) = (if id < 8 then _ else _)
        rw [if_pos h, if_pos h]
    · have hch : ∀ c ∈ ch id, WfD kd ch st d c := by
        unfold WfD at hw; rw [if_neg h] at hw; exact hw.2.2.2.2
      refine ⟨?_, ?_, ?_⟩
      · show (if id < 8 then _ else _) = (if id < 8 then _ else _)
        rw [if_neg h, if_neg h, flatMap_congr' (fun c hc => (ih c (hch c hc)).1)]
      · show (if id < 8 then _ else _) = (if id < 8 then _ else _)
        rw [if_neg h, if_neg h, flatMap_congr' (fun c hc => (ih c (hch c hc)).2.1)]
      · show (if id < 8 then _ else _) = (if id < 8 then _ else _)
        rw [if_neg h, if_neg h, flatMap_congr' (fun c hc => (ih c (hch c hc)).2.2)]
theorem fuel_e {kd : Nat → Bool} {ch : Nat → List Nat} {st : Nat → Nat} {d e id : Nat} (hw : WfD kd ch st d id) (he : d ≤ e) : ndD ch e id = ndD ch d id ∧ txD kd ch e id = txD kd ch d id ∧ lvD ch e id = lvD ch d id := by
  obtain ⟨k, rfl⟩ : ∃ k, e = d + k := ⟨e - d, by omega⟩
  induction k with
  | zero => exact ⟨rfl, rfl, rfl⟩
  | succ k ih =>
    obtain ⟨i1, i2, i3⟩ := ih (by omega)
    obtain ⟨j1, j2, j3⟩ := fuel_s (d + k) id (WfD_mono hw (by omega))
    exact ⟨j1.trans i1, j2.trans i2, j3.trans i3⟩
theorem lv_bits {kd : Nat → Bool} {ch : Nat → List Nat} {st : Nat → Nat} : ∀ (d id : Nat), WfD kd ch st d id → (lvD ch d id).Nodup ∧ ∀ x, x ∈ lvD ch d id ↔ x < 8 ∧ (st id).testBit x = true := by
  intro d
  induction d with
  | zero => intro id h; exact absurd h (by simp [WfD])
  | succ d ih =>
    intro id hw
    by_cases h : id < 8
    · have e : st id = 2 ^ id := (Wf_leaf h).mp ⟨_, hw⟩
      have e2 : lvD ch (d + 1) id = [id] := by
        show (if id < 8 then _ else _) = _
        rw [if_pos h]
      rw [e2, e]
      refine ⟨by simp, fun x => ?_⟩
      rw [Nat.testBit_two_pow]
      simp only [List.mem_singleton, decide_eq_true_eq]
      constructor
      · rintro rfl; exact ⟨h, rfl⟩
      · rintro ⟨-, h⟩; exact h.symm
    · have hch : ∀ c ∈ ch id, WfD kd ch st d c := by
        unfold WfD at hw; rw [if_neg h] at hw; exact hw.2.2.2.2
      obtain ⟨-, -, w3, w4, w5⟩ := (Wf_node (by omega : 8 ≤ id)).mp ⟨_, hw⟩
      have e2 : lvD ch (d + 1) id = (ch id).flatMap (lvD ch d) := by
        show (if id < 8 then _ else _) = _
        rw [if_neg h]
      rw [e2]
      refine ⟨?_, fun x => ?_⟩
      · apply nodup_flatMap
        · intro c hc; exact (ih c (hch c hc)).1
        · exact Dj_nodup w4 (fun c hc => Wf_ne0 c (w5 c hc))
        · intro a ha b hb hab x hx hx2
          have h1 := ((ih a (hch a ha)).2 x).mp hx
          have h2 := ((ih b (hch b hb)).2 x).mp hx2
          exact hab (Dj_uniq w4 ha hb (and_ne0.mpr ⟨x, h1.2, h2.2⟩))
      · rw [List.mem_flatMap, w3, orL_bit]
        constructor
        · rintro ⟨c, hc, hx⟩
          have := ((ih c (hch c hc)).2 x).mp hx
          exact ⟨this.1, c, hc, this.2⟩
        · rintro ⟨h1, c, hc, hx⟩
          exact ⟨c, hc, ((ih c (hch c hc)).2 x).mpr ⟨h1, hx⟩⟩
theorem lv_le8 {kd : Nat → Bool} {ch : Nat → List Nat} {st : Nat → Nat} {d id : Nat} (hw : WfD kd ch st d id) : (lvD ch d id).length ≤ 8 := by
  obtain ⟨h1, h2⟩ := lv_bits d id hw
  have := len_sub _ (List.range 8) h1 (fun x hx => List.mem_range.mpr ((h2 x).mp hx).1)
  simpa using this
theorem len_flat {α β : Type} {f : α → List β} : ∀ {L : List α}, (L.flatMap f).length = (L.map (fun a => (f a).length)).sum := by
  intro L; rw [List.length_flatMap]
theorem sum_lt {L : List Nat} {f g : Nat → Nat} (h : ∀ c ∈ L, f c + 1 ≤ g c) : (L.map f).sum + L.length ≤ (L.map g).sum := by
  induction L with
  | nil => simp
  | cons a L ih =>
    have h1 := ih (fun c hc => h c (by simp [hc]))
    have h2 := h a (by simp)
    simp only [List.map_cons, List.sum_cons, List.length_cons]; omega
theorem sum_eq {L : List Nat} {f g k : Nat → Nat} (h : ∀ c ∈ L, f c = g c + 2 * k c) : (L.map f).sum = (L.map g).sum + 2 * (L.map k).sum := by
  induction L with
  | nil => simp
  | cons a L ih =>
    have h1 := ih (fun c hc => h c (by simp [hc]))
    have h2 := h a (by simp)
    simp only [List.map_cons, List.sum_cons]; omega
theorem nd_lv {kd : Nat → Bool} {ch : Nat → List Nat} {st : Nat → Nat} : ∀ (d id : Nat), WfD kd ch st d id → (ndD ch d id).length + 1 ≤ (lvD ch d id).length ∧ (txD kd ch d id).length = (lvD ch d id).length + 2 * (ndD ch d id).length := by
  intro d
  induction d with
  | zero => intro id h; exact absurd h (by simp [WfD])
  | succ d ih =>
    intro id hw
    by_cases h : id < 8
    · unfold ndD lvD txD
      rw [if_pos h, if_pos h, if_pos h]; simp
    · have hw2 := hw
      unfold WfD at hw2
      rw [if_neg h] at hw2
      have hch := hw2.2.2.2.2
      have h2 := hw2.1
      unfold ndD lvD txD
      rw [if_neg h, if_neg h, if_neg h]
      simp only [List.length_cons, List.length_append, List.length_flatMap, List.length_nil]
      have s1 := sum_lt (L := ch id) (f := fun c => (ndD ch d c).length) (g := fun c => (lvD ch d c).length) (fun c hc => (ih c (hch c hc)).1)
      have s2 := sum_eq (L := ch id) (f := fun c => (txD kd ch d c).length) (g := fun c => (lvD ch d c).length) (k := fun c => (ndD ch d c).length) (fun c hc => (ih c (hch c hc)).2)
      omega

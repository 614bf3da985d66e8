/- spans between two things, by prefixes of rows -/
theorem rw_splice {n : Nat} {L : List Nat} {nx : Nat → Nat} (hnx : ∀ d i, (nx d).testBit i = true ↔ i < n ∧ d.testBit i = false ∧ okS (L.map (fun g => g &&& fullM n)) d i) {a v a2 w : List Nat} (h1 : Rw n L (a ++ v)) (h2 : Rw n L (a2 ++ w)) (e : mkL a = mkL a2) : Rw n L (a2 ++ v) := by
  have s1 := (rw_stp hnx _).mp h1
  have s2 := (rw_stp hnx _).mp h2
  have hmem : ∀ x, x ∈ a ↔ x ∈ a2 := fun x => by
    have : (mkL a).testBit x = (mkL a2).testBit x := by rw [e]
    rw [mkL_bit, mkL_bit] at this
    simpa using this
  refine (rw_stp hnx _).mpr ⟨?_, ?_, ?_⟩
  · have n1 := List.nodup_append.mp s1.1
    have n2 := List.nodup_append.mp s2.1
    rw [List.nodup_append]
    exact ⟨n2.1, n1.2.1, fun x hx y hy => n1.2.2 x ((hmem x).mpr hx) y hy⟩
  · rw [mkL_app, ← e, ← mkL_app]; exact s1.2.1
  · intro x z y eq
    rcases List.append_eq_append_iff.mp eq with ⟨c, hc1, hc2⟩ | ⟨c, hc1, hc2⟩
    · have := s1.2.2 (a ++ c) z y (by rw [hc2]; simp)
      rw [hc1, mkL_app, ← e, ← mkL_app]; exact this
    · cases c with
      | nil =>
        rw [List.append_nil] at hc1
        have hc2 : z :: y = v := hc2
        have := s1.2.2 a z y (by rw [hc2])
        rw [← hc1, ← e]; exact this
      | cons c0 c =>
        rw [List.cons_append, List.cons.injEq] at hc2
        exact s2.2.2 x z (c ++ w) (by rw [hc1, hc2.1]; simp)
theorem len_mk {n : Nat} {L : List Nat} {a v : List Nat} (hn : n ≤ 8) (h : Rw n L (a ++ v)) : pc8 (mkL a) = a.length := by
  unfold pc8
  have n1 := (List.nodup_append.mp h.1).1
  refine list_len_eq (List.Pairwise.filter _ List.nodup_range) n1 (fun x => ?_)
  rw [List.mem_filter, List.mem_range, mkL_bit, decide_eq_true_iff]
  exact ⟨fun q => q.2, fun q => ⟨by have := (h.2.1 x).mp (List.mem_append.mpr (Or.inl q)); omega, q⟩⟩
def SpN (n : Nat) (L : List Nat) (x1 x2 m i : Nat) : Prop := ∃ a v a1 a2, Rw n L (a ++ v) ∧ mkL a = m ∧ x2 ∉ a ∧ a = a1 ++ x1 :: a2 ∧ i = a1.length + 1
def GpN (n : Nat) (L : List Nat) (x1 x2 s : Nat) : Prop := ∃ u v w, Rw n L (u ++ x1 :: (v ++ x2 :: w)) ∧ s = v.length
def CtN (n : Nat) (L : List Nat) (x1 x2 m k q i : Nat) : Prop := q = m ||| 2 ^ k ∧ Occ n L m k ∧ ¬ m.testBit x2 = true ∧ k ≠ x2 ∧ ((k = x1 ∧ i = pc8 q) ∨ (k ≠ x1 ∧ SpN n L x1 x2 m i))
theorem occ_lt {n : Nat} {L : List Nat} {m k : Nat} (h : Occ n L m k) : k < n ∧ m.testBit k = false ∧ m < m ||| 2 ^ k ∧ m ||| 2 ^ k ≤ fullM n := by
  obtain ⟨r, a, b, hr, rfl, rfl⟩ := h
  have hk : k < n := (hr.2.1 k).mp (by simp)
  have hb : (mkL a).testBit k = false := by
    rw [mkL_bit]
    refine decide_eq_false (fun hh => ?_)
    exact (List.nodup_append.mp hr.1).2.2 k hh k (by simp) rfl
  refine ⟨hk, hb, or_gt hb, ?_⟩
  apply Nat.le_of_testBit
  intro i hi
  rw [Nat.testBit_or, Nat.testBit_two_pow, mkL_bit] at hi
  rw [full_bit]
  refine decide_eq_true ?_
  rcases Bool.or_eq_true _ _ |>.mp hi with q | q
  · exact (hr.2.1 i).mp (List.mem_append.mpr (Or.inl (of_decide_eq_true q)))
  · have := of_decide_eq_true q; omega
theorem sp_iff {n : Nat} {L : List Nat} {nx : Nat → Nat} (hn : n ≤ 8) (hnx : ∀ d i, (nx d).testBit i = true ↔ i < n ∧ d.testBit i = false ∧ okS (L.map (fun g => g &&& fullM n)) d i) {x1 x2 q i : Nat} (hne : x1 ≠ x2) : (∃ m k, k < n ∧ m < q ∧ CtN n L x1 x2 m k q i) ↔ SpN n L x1 x2 q i := by
  constructor
  · rintro ⟨m, k, hk, hm, rfl, ho, hx, hkx, h⟩
    obtain ⟨r, a, b, hr, rfl, rfl⟩ := ho
    have hx2 : x2 ∉ a := fun q => hx (by rw [mkL_bit]; exact decide_eq_true q)
    rcases h with ⟨rfl, rfl⟩ | ⟨h1, h2⟩
    · refine ⟨a ++ [k], b, a, [], by simpa using hr, mkL_snoc a k, ?_, rfl, ?_⟩
      · rw [List.mem_append]
        rintro (q | q)
        · exact hx2 q
        · exact hkx (List.mem_singleton.mp q).symm
      · rw [← mkL_snoc, len_mk (L := L) (v := b) hn (by simpa using hr)]; simp
    · obtain ⟨a', v, a1, a2, r1, r2, r3, rfl, r5⟩ := h2
      have hs := rw_splice hnx hr r1 r2.symm
      refine ⟨a1 ++ x1 :: a2 ++ [k], b, a1, a2 ++ [k], by simpa using hs, by rw [mkL_snoc, r2], ?_, by simp, r5⟩
      rw [List.mem_append]
      rintro (q | q)
      · exact r3 q
      · exact hkx (List.mem_singleton.mp q).symm
  · rintro ⟨a, v, a1, a2, r1, rfl, r3, rfl, rfl⟩
    rcases List.eq_nil_or_concat a2 with rfl | ⟨b2, w, rfl⟩
    · have ho : Occ n L (mkL a1) x1 := ⟨_, a1, v, r1, by simp, rfl⟩
      obtain ⟨o1, o2, o3, o4⟩ := occ_lt ho
      have hq : mkL (a1 ++ [x1]) = mkL a1 ||| 2 ^ x1 := mkL_snoc _ _
      refine ⟨mkL a1, x1, o1, by rw [hq]; exact o3, hq, ho, ?_, hne, Or.inl ⟨rfl, ?_⟩⟩
      · rw [mkL_bit, decide_eq_true_iff]
        exact fun q => r3 (List.mem_append.mpr (Or.inl q))
      · rw [len_mk hn r1]; simp
    · have e1 : a1 ++ x1 :: (b2.concat w) = (a1 ++ x1 :: b2) ++ [w] := by simp
      rw [e1] at r1 r3 ⊢
      have ho : Occ n L (mkL (a1 ++ x1 :: b2)) w := ⟨_, a1 ++ x1 :: b2, v, r1, by simp, rfl⟩
      obtain ⟨o1, o2, o3, o4⟩ := occ_lt ho
      have hq : mkL (a1 ++ x1 :: b2 ++ [w]) = mkL (a1 ++ x1 :: b2) ||| 2 ^ w := mkL_snoc _ _
      have hx : x2 ∉ a1 ++ x1 :: b2 := fun q => r3 (List.mem_append.mpr (Or.inl q))
      have hw1 : w ≠ x1 := fun e => by
        subst e
        rw [mkL_bit] at o2
        exact (of_decide_eq_false o2) (by simp)
      have hw2 : w ≠ x2 := fun e => r3 (by rw [e]; simp)
      refine ⟨mkL (a1 ++ x1 :: b2), w, o1, by rw [hq]; exact o3, hq, ho, ?_, hw2, Or.inr ⟨hw1, a1 ++ x1 :: b2, [w] ++ v, a1, b2, by simpa using r1, rfl, hx, rfl, rfl⟩⟩
      rw [mkL_bit, decide_eq_true_iff]; exact hx
theorem sp_le {n : Nat} {L : List Nat} {x1 x2 m i : Nat} (hn : n ≤ 8) (h : SpN n L x1 x2 m i) : 1 ≤ i ∧ i ≤ pc8 m ∧ i ≤ 8 := by
  obtain ⟨a, v, a1, a2, r1, rfl, r3, rfl, rfl⟩ := h
  rw [len_mk hn r1]
  have hl : (a1 ++ x1 :: a2).length = a1.length + (a2.length + 1) := by simp
  have h8 : (a1 ++ x1 :: a2).length ≤ n := by
    have := len_sub (a1 ++ x1 :: a2) (List.range n) (List.nodup_append.mp r1.1).1 (fun x hx => List.mem_range.mpr ((r1.2.1 x).mp (List.mem_append.mpr (Or.inl hx))))
    rwa [List.length_range] at this
  omega
theorem gp_iff {n : Nat} {L : List Nat} {nx : Nat → Nat} (hn : n ≤ 8) (hnx : ∀ d i, (nx d).testBit i = true ↔ i < n ∧ d.testBit i = false ∧ okS (L.map (fun g => g &&& fullM n)) d i) {x1 x2 s : Nat} : (∃ m i, m < fullM n ∧ Occ n L m x2 ∧ SpN n L x1 x2 m i ∧ s = pc8 m - i) ↔ GpN n L x1 x2 s := by
  constructor
  · rintro ⟨m, i, -, ⟨r, a, b, hr, rfl, rfl⟩, ⟨a', v, a1, a2, r1, r2, r3, rfl, rfl⟩, rfl⟩
    have hs := rw_splice hnx hr r1 r2.symm
    refine ⟨a1, a2, b, by simpa using hs, ?_⟩
    rw [← r2, len_mk hn r1]; simp; omega
  · rintro ⟨u, v, w, hr, rfl⟩
    have hr2 : Rw n L ((u ++ x1 :: v) ++ x2 :: w) := by simpa using hr
    have ho : Occ n L (mkL (u ++ x1 :: v)) x2 := ⟨_, _, w, hr2, rfl, rfl⟩
    obtain ⟨o1, o2, o3, o4⟩ := occ_lt ho
    refine ⟨mkL (u ++ x1 :: v), u.length + 1, by omega, ho, ⟨u ++ x1 :: v, x2 :: w, u, v, hr2, rfl, ?_, rfl, rfl⟩, ?_⟩
    · intro q
      rw [mkL_bit] at o2
      exact of_decide_eq_false o2 q
    · rw [len_mk hn hr2]; simp; omega
/- the least and the greatest of what was seen -/
def MMx (lo hi : Int32) (E : Nat → Prop) : Prop := (lo = -1 ∧ hi = -1 ∧ ∀ s, ¬ E s) ∨ ∃ a b, lo = nI a ∧ hi = nI b ∧ a ≤ 8 ∧ b ≤ 8 ∧ E a ∧ E b ∧ ∀ s, E s → a ≤ s ∧ s ≤ b
theorem MMx.congr {lo hi : Int32} {E F : Nat → Prop} (h : MMx lo hi E) (e : ∀ s, E s ↔ F s) : MMx lo hi F := by
  rcases h with ⟨h1, h2, h3⟩ | ⟨a, b, h1, h2, h3, h4, h5, h6, h7⟩
  · exact Or.inl ⟨h1, h2, fun s hs => h3 s ((e s).mpr hs)⟩
  · exact Or.inr ⟨a, b, h1, h2, h3, h4, (e a).mp h5, (e b).mp h6, fun s hs => h7 s ((e s).mpr hs)⟩
theorem MMx.add {lo hi : Int32} {E : Nat → Prop} (h : MMx lo hi E) {s : Nat} (hs : s ≤ 8) : MMx (if (if lo = -1 then true else if lo ≤ nI s then false else true : Bool) = true then nI s else lo) (if nI s ≤ hi then hi else nI s) (fun x => E x ∨ x = s) := by
  rcases h with ⟨h1, h2, h3⟩ | ⟨a, b, h1, h2, h3, h4, h5, h6, h7⟩
  · right
    subst h1 h2
    refine ⟨s, s, by rw [if_pos rfl, if_pos rfl], if_neg ?_, hs, hs, Or.inr rfl, Or.inr rfl, fun x hx => ?_⟩
    · intro hc
      have : (nI s).toInt ≤ (-1 : Int32).toInt := Int32.le_iff_toInt_le.mp hc
      have h4 : (nI s).toInt = (s : Int) := nI_toInt (by omega)
      rw [h4] at this
      have h5 : (-1 : Int32).toInt = -1 := by decide
      omega
    · rcases hx with hx | hx
      · exact absurd hx (h3 x)
      · omega
  · right
    subst h1 h2
    have n1 : ¬ nI a = -1 := nI_nm1 (by omega)
    refine ⟨if a ≤ s then a else s, if s ≤ b then b else s, ?_, ?_, ?_, ?_, ?_, ?_, ?_⟩
    · rw [if_neg n1]
      by_cases q : a ≤ s
      · rw [if_pos q, if_pos (nI_le q (by omega)), if_neg (by decide)]
      · rw [if_neg q, if_neg (nI_ge (by omega) (by omega)), if_pos rfl]
    · by_cases q : s ≤ b
      · rw [if_pos q, if_pos (nI_le q (by omega))]
      · rw [if_neg q, if_neg (nI_ge (by omega) (by omega))]
    · by_cases q : a ≤ s
      · rw [if_pos q]; exact h3
      · rw [if_neg q]; exact hs
    · by_cases q : s ≤ b
      · rw [if_pos q]; exact h4
      · rw [if_neg q]; exact hs
    · by_cases q : a ≤ s
      · rw [if_pos q]; exact Or.inl h5
      · rw [if_neg q]; exact Or.inr rfl
    · by_cases q : s ≤ b
      · rw [if_pos q]; exact Or.inl h6
      · rw [if_neg q]; exact Or.inr rfl
    · intro x hx
      by_cases q : a ≤ s
      · rw [if_pos q]
        by_cases q2 : s ≤ b
        · rw [if_pos q2]
          rcases hx with hx | hx
          · exact h7 x hx
          · omega
        · rw [if_neg q2]
          rcases hx with hx | hx
          · have := h7 x hx; omega
          · omega
      · rw [if_neg q]
        by_cases q2 : s ≤ b
        · rw [if_pos q2]
          rcases hx with hx | hx
          · have := h7 x hx; omega
          · omega
        · have := h7 a h5; omega

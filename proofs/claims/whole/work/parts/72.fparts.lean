/-- a node's parts stand as they are shown -/
def Can (kd : Nat → Bool) (ch : Nat → List Nat) (st : Nat → Nat) (N : Nat) : Prop := if kd N = true then lst (st ((ch N).getD 0 0)) < lst (st ((ch N).getD ((ch N).length - 1) 0)) else (ch N).Pairwise (fun a b => lst (st a) < lst (st b))
theorem len8 {st : Nat → Nat} {C : List Nat} (hn : C.Nodup) (hi : ∀ c ∈ C, ∀ e ∈ C, lst (st c) = lst (st e) → c = e) (h8 : ∀ c ∈ C, lst (st c) < 8) : C.length ≤ 8 := by
  have h1 : (C.map (fun c => lst (st c))).Nodup := by
    unfold List.Nodup
    rw [List.pairwise_map]
    refine List.Pairwise.imp_of_mem ?_ hn
    intro a b ha hb hab e
    exact hab (hi a ha b hb e)
  have := len_sub _ (List.range 8) h1 (fun x hx => by
    obtain ⟨c, hc, rfl⟩ := List.mem_map.mp hx
    exact List.mem_range.mpr (h8 c hc))
  simpa using this
theorem sorted_eq {f : Nat → Nat} {A B : List Nat} (hA : A.Pairwise (fun a b => f a < f b)) (hB : B.Pairwise (fun a b => f a < f b)) (h : A.Perm B) : A = B := by
  induction A generalizing B with
  | nil => exact h.symm.eq_nil.symm
  | cons a A ih =>
    cases B with
    | nil => exact h.eq_nil
    | cons b B =>
      obtain ⟨a1, a2⟩ := List.pairwise_cons.mp hA
      obtain ⟨b1, b2⟩ := List.pairwise_cons.mp hB
      have hab : a = b := by
        have m1 : a ∈ b :: B := h.mem_iff.mp (by simp)
        have m2 : b ∈ a :: A := h.mem_iff.mpr (by simp)
        rcases List.mem_cons.mp m1 with e | m1
        · exact e
        · rcases List.mem_cons.mp m2 with e | m2
          · exact e.symm
          · have := a1 b m2
            have := b1 a m1
            omega
      subst hab
      rw [ih a2 b2 (List.Perm.cons_inv h)]
def ms3 (τ : Mem) (p q k : Nat → Int32) : Mem := mset (mset (mset τ 52 p) 51 q) 50 k
theorem ms3_52 {τ : Mem} {p q k : Nat → Int32} : ms3 τ p q k 52 = p := by unfold ms3; rw [mset_ne (by decide), mset_ne (by decide), mset_eq]
theorem ms3_51 {τ : Mem} {p q k : Nat → Int32} : ms3 τ p q k 51 = q := by unfold ms3; rw [mset_ne (by decide), mset_eq]
theorem ms3_50 {τ : Mem} {p q k : Nat → Int32} : ms3 τ p q k 50 = k := by unfold ms3; rw [mset_eq]
theorem ms3_ne {τ : Mem} {p q k : Nat → Int32} {x : Nat} (h1 : x ≠ 50) (h2 : x ≠ 51) (h3 : x ≠ 52) : ms3 τ p q k x = τ x := by unfold ms3; rw [mset_ne h1, mset_ne h2, mset_ne h3]
theorem ms3_s52 {τ : Mem} {p q k p2 : Nat → Int32} : mset (ms3 τ p q k) 52 p2 = ms3 τ p2 q k := by
  funext x
  by_cases h : x = 52
  · subst h; rw [mset_eq, ms3_52]
  · rw [mset_ne h]
    unfold ms3 mset
    by_cases h1 : x = 50 <;> by_cases h2 : x = 51 <;> simp [h, h1, h2]
theorem M_findsParts_eq {τ : Mem} {kd : Nat → Bool} {ch : Nat → List Nat} {st : Nat → Nat} {d root n : Nat} (h : TC τ kd ch st d root n) {N : Nat} (hN : N ∈ ndD ch d root) (hcan : Can kd ch st N) {at_ : Nat} (hat : at_ < 8) (h49 : τ 49 at_ = nI (st N)) : ∃ p, M_findsParts (nI at_) τ = some (ms3 τ p (upd (τ 51) at_ (nI (ch N).length)) (upd (τ 50) at_ (if kd N = true then 1 else 0))) ∧ PtF p st at_ (ch N).length (fun i => (ch N).getD i 0) ∧ ∀ q, (q < 8 * at_ ∨ 8 * at_ + 8 ≤ q) → p q = τ 52 q := by
  obtain ⟨t1, t2, t3, t4, t5, t6, t7⟩ := TC_nd h hN
  have hn := h.1
  have hwd := h.2.1
  have h8 := len8 t7 t5 t6
  have hperm := SL_perm t7 t5 t6
  have hl := hperm.length_eq
  obtain ⟨r1, e1, p, rfl, hp1, hp2⟩ := parts_l1 h hN h8 hat
  rw [mset_self] at e1
  have e1' : lp (fun s => M_findsParts_b1 (nI at_) (nI (st N)) s.1 s.2.1 s.2.2) fuel (0, 0, τ) = _ := e1
  generalize hS : SL st (ch N) 8 = S at hp2 hperm hl
  have hPt : PtAt p st at_ S := fun i hi => hp2 i (by omega)
  have hst : ∀ i, i < S.length → st (S.getD i 0) ≤ fullM n := fun i hi => (t4 _ (hperm.mem_iff.mp (getD_mem hi))).2.2
  -- behind the first loop
  have hτ2 : ∀ k, mset (mset (mset τ 52 p) 51 (upd (τ 51) at_ (nI (ch N).length))) 50 k = ms3 τ p (upd (τ 51) at_ (nI (ch N).length)) k := fun k => rfl
  obtain ⟨r2, e2, v, rfl, hv, hv2⟩ := kind_out (τ := mset (mset τ 52 p) 51 (upd (τ 51) at_ (nI (ch N).length))) (P := SureS kd ch st root) hn (by rw [mset_ne (by decide), mset_ne (by decide)]; exact h.2.2.2.2) (S := S) (by omega) hst hat (by rw [mset_ne (by decide), mset_eq]; exact hPt) (τ 50)
  rw [← kind_iff hwd hN S hperm] at hv2
  have hvk : v = (if kd N = true then 1 else 0) := by
    by_cases c : kd N = true
    · rw [if_pos c]; exact hv2.mpr c
    · rw [if_neg c]
      rcases hv with hv | hv
      · exact hv
      · exact absurd (hv2.mp hv) c
  subst hvk
  rw [hτ2] at e2
  have e2' : lp (fun s => M_findsParts_b3 (nI at_) (nI S.length) s.1 s.2) fuel (0, ms3 τ p (upd (τ 51) at_ (nI (ch N).length)) (upd (τ 50) at_ 0)) = _ := e2
  rw [hl] at e2'
  -- the steps of the method
  have main : M_findsParts (nI at_) τ = ((if (if kd N = true then (1 : Int32) else 0) = 1 then (M_turnsRight (nI at_) (ms3 τ p (upd (τ 51) at_ (nI (ch N).length)) (upd (τ 50) at_ (if kd N = true then 1 else 0)))).bind (fun x => some x) else some (ms3 τ p (upd (τ 51) at_ (nI (ch N).length)) (upd (τ 50) at_ (if kd N = true then 1 else 0)))) : Option Mem).bind (fun x => some x) := by
    unfold M_findsParts
    simp only [lt]
    rw [rd_nI (by show at_ < 8; omega) (by decide), h49]
    simp only [Option.bind_some]
    rw [e1']
    simp only [Option.bind_some]
    rw [wr_nI (by show at_ < 8; omega) (by decide)]
    simp only [Option.bind_some]
    rw [wr_nI (by show at_ < 8; omega) (by decide)]
    simp only [Option.bind_some]
    have em : mput (mput (mset τ 52 p) 51 at_ (nI (ch N).length)) 50 at_ 0 = ms3 τ p (upd (τ 51) at_ (nI (ch N).length)) (upd (τ 50) at_ 0) := by
      unfold mput ms3
      rw [mset_ne (show (51 : Nat) ≠ 52 by decide), mset_ne (show (50 : Nat) ≠ 51 by decide), mset_ne (show (50 : Nat) ≠ 52 by decide)]
    rw [em, e2']
    simp only [Option.bind_some]
    rw [rd_nI (by show at_ < 8; omega) (by decide), mset_eq, upd_at, if_pos rfl]
    simp only [Option.bind_some]
    rfl
  rw [main]
  by_cases c : kd N = true
  · have w2 := ((Wf_node t1).mp t2).2.1 c
    have w4 := ((Wf_node t1).mp t2).2.2.2.1
    have hSort : S.Pairwise (fun a b => lst (st a) < lst (st b)) := by rw [← hS]; exact SL_sorted
    have hTN : TN (ms3 τ p (upd (τ 51) at_ (nI (ch N).length)) (upd (τ 50) at_ (if kd N = true then 1 else 0))) n st (ch N) := ⟨hn, w2, h8, t7, fun c hc => (t4 c hc).2.2, fun a ha b hb e => by
        obtain ⟨i, hi⟩ := Nat.exists_testBit_of_ne_zero (t4 a ha).2.1
        exact Dj_uniq w4 ha hb (and_ne0.mpr ⟨i, hi, by rw [← e]; exact hi⟩), SureS kd ch st root, by rw [ms3_ne (by decide) (by decide) (by decide)]; exact h.2.2.2.2, fun a ha b hb hab => by
        rw [pair_sure hwd hN ha hb hab w2]
        exact ⟨fun z => z.2, fun z => ⟨c, z⟩⟩⟩
    have hArr : Arr (ch N) (fun i => S.getD i 0) := by
      refine ⟨fun i hi => hperm.mem_iff.mp (getD_mem (by omega)), fun i j hi hj e => getD_inj (hperm.symm.nodup t7) (by omega) (by omega) e, fun x hx => ?_⟩
      obtain ⟨i, hi, e⟩ := getD_ex (hperm.mem_iff.mpr hx)
      exact ⟨i, by omega, e⟩
    have hcan' : lst (st ((ch N).getD 0 0)) < lst (st ((ch N).getD ((ch N).length - 1) 0)) := by
      unfold Can at hcan; rw [if_pos c] at hcan; exact hcan
    obtain ⟨p2, f1, f2, f3⟩ := M_turnsRight_eq hTN (fun x hx => ⟨(t4 x hx).1, (t4 x hx).2.1⟩) hArr (fun i j hij hj => by
      have := List.pairwise_iff_getElem.mp hSort i j (by omega) (by omega) hij
      show lst (st (S.getD i 0)) < lst (st (S.getD j 0))
      rw [List.getD_eq_getElem?_getD, List.getD_eq_getElem?_getD, List.getElem?_eq_getElem (by omega : i < S.length), List.getElem?_eq_getElem (by omega : j < S.length)]
      exact this) hcan' hat (by rw [ms3_52]; exact fun i hi => hPt i (by omega)) (by rw [ms3_51, upd_at, if_pos rfl])
    rw [ms3_52] at f3
    refine ⟨p2, ?_, f2, fun q hq => (f3 q hq).trans (hp1 q hq)⟩
    have c1 : (if kd N = true then (1 : Int32) else 0) = 1 := by rw [if_pos c]
    rw [if_pos c1, f1, ms3_s52]
    rfl
  · have hcan' : (ch N).Pairwise (fun a b => lst (st a) < lst (st b)) := by
      unfold Can at hcan; rw [if_neg c] at hcan; exact hcan
    have hSC : S = ch N := sorted_eq (f := fun c => lst (st c)) (by rw [← hS]; exact SL_sorted) hcan' hperm
    refine ⟨p, ?_, ?_, hp1⟩
    · have c1 : ¬ (if kd N = true then (1 : Int32) else 0) = 1 := by rw [if_neg c]; decide
      rw [if_neg c1]
      rfl
    · intro i hi
      rw [← hSC]
      exact hPt i (by omega)

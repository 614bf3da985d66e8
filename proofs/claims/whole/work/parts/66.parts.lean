-- ===== a node's parts as the model finds them =====
theorem lst_spec : ∀ m, m < 256 → m ≠ 0 → m.testBit (lst m) = true ∧ lst m < 8 ∧ ∀ k, k < lst m → m.testBit k = false := by
  have key : ∀ m, m < 256 → m ≠ 0 → m.testBit (lst m) = true ∧ lst m < 8 ∧ ∀ k, k < 8 → k < lst m → m.testBit k = false := by decide +kernel
  intro m hm h0
  obtain ⟨h1, h2, h3⟩ := key m hm h0
  exact ⟨h1, h2, fun k hk => h3 k (by omega) hk⟩
theorem lst_inj {st : Nat → Nat} {L : List Nat} (hd : Dj st L) (hb : ∀ c ∈ L, st c < 256 ∧ st c ≠ 0) {c e : Nat} (hc : c ∈ L) (he : e ∈ L) (h : lst (st c) = lst (st e)) : c = e := by
  obtain ⟨c1, c2⟩ := hb c hc
  obtain ⟨e1, e2⟩ := hb e he
  have h1 := (lst_spec _ c1 c2).1
  have h2 := (lst_spec _ e1 e2).1
  rw [← h] at h2
  exact Dj_uniq hd hc he (and_ne0.mpr ⟨_, h1, h2⟩)
/-- the parts by their least things, below j -/
def SL (st : Nat → Nat) (C : List Nat) (j : Nat) : List Nat := (List.range j).filterMap (fun k => C.find? (fun c => lst (st c) == k))
theorem SL_s {st : Nat → Nat} {C : List Nat} {j : Nat} : SL st C (j + 1) = SL st C j ++ (C.find? (fun c => lst (st c) == j)).toList := by
  unfold SL
  rw [List.range_succ, List.filterMap_append]
  congr 1
theorem SL_mem {st : Nat → Nat} {C : List Nat} (hi : ∀ c ∈ C, ∀ e ∈ C, lst (st c) = lst (st e) → c = e) {j c : Nat} : c ∈ SL st C j ↔ c ∈ C ∧ lst (st c) < j := by
  unfold SL
  simp only [List.mem_filterMap, List.mem_range]
  constructor
  · rintro ⟨k, hk, h⟩
    have h1 := List.mem_of_find?_eq_some h
    have h2 := List.find?_some h
    simp at h2
    exact ⟨h1, by omega⟩
  · rintro ⟨h1, h2⟩
    refine ⟨lst (st c), h2, ?_⟩
    cases hf : C.find? (fun e => lst (st e) == lst (st c)) with
    | none =>
      rw [List.find?_eq_none] at hf
      have := hf c h1
      simp at this
    | some e =>
      have h3 := List.mem_of_find?_eq_some hf
      have h4 := List.find?_some hf
      simp at h4
      rw [hi e h3 c h1 h4]
theorem SL_sorted {st : Nat → Nat} {C : List Nat} {j : Nat} : (SL st C j).Pairwise (fun a b => lst (st a) < lst (st b)) := by
  induction j with
  | zero => simp [SL]
  | succ j ih =>
    rw [SL_s, List.pairwise_append]
    refine ⟨ih, ?_, ?_⟩
    · cases C.find? (fun c => lst (st c) == j) <;> simp
    · intro a ha b hb
      cases hf : C.find? (fun c => lst (st c) == j) with
      | none => rw [hf] at hb; simp at hb
      | some e =>
        rw [hf] at hb
        simp at hb
        subst hb
        have h4 := List.find?_some hf
        simp at h4
        unfold SL at ha
        simp only [List.mem_filterMap, List.mem_range] at ha
        obtain ⟨k, hk, h5⟩ := ha
        have h6 := List.find?_some h5
        simp at h6
        omega
theorem SL_nodup {st : Nat → Nat} {C : List Nat} {j : Nat} : (SL st C j).Nodup := by
  unfold List.Nodup
  exact SL_sorted.imp (fun h e => by subst e; omega)
theorem SL_perm {st : Nat → Nat} {C : List Nat} (hn : C.Nodup) (hi : ∀ c ∈ C, ∀ e ∈ C, lst (st c) = lst (st e) → c = e) (h8 : ∀ c ∈ C, lst (st c) < 8) : (SL st C 8).Perm C := by
  rw [List.perm_ext_iff_of_nodup SL_nodup hn]
  intro c
  rw [SL_mem hi]
  exact ⟨fun h => h.1, fun h => ⟨h, h8 c h⟩⟩
/-- what the model's tree is found from -/
def TC (τ : Mem) (kd : Nat → Bool) (ch : Nat → List Nat) (st : Nat → Nat) (d root n : Nat) : Prop := n ≤ 8 ∧ WfD kd ch st d root ∧ st root = fullM n ∧ Mk01 n (τ 54) (NdS kd ch st d root) ∧ Mk01 n (τ 48) (SureS kd ch st root)
theorem TC.same {τ τ2 : Mem} {kd : Nat → Bool} {ch : Nat → List Nat} {st : Nat → Nat} {d root n : Nat} (h : TC τ kd ch st d root n) (h1 : τ2 54 = τ 54) (h2 : τ2 48 = τ 48) : TC τ2 kd ch st d root n := ⟨h.1, h.2.1, h.2.2.1, by rw [h1]; exact h.2.2.2.1, by rw [h2]; exact h.2.2.2.2⟩
theorem TC_nd {τ : Mem} {kd : Nat → Bool} {ch : Nat → List Nat} {st : Nat → Nat} {d root n : Nat} (h : TC τ kd ch st d root n) {N : Nat} (hN : N ∈ ndD ch d root) : 8 ≤ N ∧ Wf kd ch st N ∧ st N ≤ fullM n ∧ (∀ c ∈ ch N, st c < 256 ∧ st c ≠ 0 ∧ st c ≤ fullM n) ∧ (∀ c ∈ ch N, ∀ e ∈ ch N, lst (st c) = lst (st e) → c = e) ∧ (∀ c ∈ ch N, lst (st c) < 8) ∧ (ch N).Nodup := by
  obtain ⟨hn, hwd, hroot, -, -⟩ := h
  have hfull := full_lt hn
  obtain ⟨n1, n2, n3⟩ := nd_sub d root hwd N hN
  obtain ⟨w1, -, w3, w4, w5⟩ := (Wf_node n3).mp n2
  have hXf : st N ≤ fullM n := by rw [← hroot]; exact Nat.le_of_testBit n1
  have hc : ∀ c ∈ ch N, st c < 256 ∧ st c ≠ 0 ∧ st c ≤ fullM n := fun c hc => by
    have : st c ≤ st N := Nat.le_of_testBit (fun i hi => by rw [w3, orL_bit]; exact ⟨c, hc, hi⟩)
    exact ⟨by omega, Wf_ne0 c (w5 c hc), by omega⟩
  exact ⟨n3, n2, hXf, hc, fun c h1 e h2 h3 => lst_inj w4 (fun x hx => ⟨(hc x hx).1, (hc x hx).2.1⟩) h1 h2 h3, fun c h1 => (lst_spec _ (hc c h1).1 (hc c h1).2.1).2.1, Dj_nodup w4 (fun c hc => Wf_ne0 c (w5 c hc))⟩
theorem parts_l1 {τ : Mem} {kd : Nat → Bool} {ch : Nat → List Nat} {st : Nat → Nat} {d root n : Nat} (h : TC τ kd ch st d root n) {N : Nat} (hN : N ∈ ndD ch d root) (hlen : (ch N).length ≤ 8) {at_ : Nat} (hat : at_ < 8) : ∃ r, lp (fun s => M_findsParts_b1 (nI at_) (nI (st N)) s.1 s.2.1 s.2.2) fuel (nI 0, nI 0, mset τ 52 (τ 52)) = some r ∧ ∃ p, r = (nI (ch N).length, mset τ 52 p) ∧ (∀ q, (q < 8 * at_ ∨ 8 * at_ + 8 ≤ q) → p q = τ 52 q) ∧ ∀ i, i < (ch N).length → p (8 * at_ + i) = nI (st ((SL st (ch N) 8).getD i 0)) := by
  obtain ⟨t1, t2, t3, t4, t5, t6, t7⟩ := TC_nd h hN
  have hfull := full_lt h.1
  have hperm := SL_perm t7 t5 t6
  have hl8 : (SL st (ch N) 8).length = (ch N).length := hperm.length_eq
  have w3 := ((Wf_node t1).mp t2).2.2.1
  have w4 := ((Wf_node t1).mp t2).2.2.2.1
  have hmono : ∀ j, j ≤ 8 → (SL st (ch N) j).length ≤ (SL st (ch N) 8).length := by
    intro j hj
    apply len_sub _ _ SL_nodup
    intro c hc
    rw [SL_mem t5] at hc ⊢
    exact ⟨hc.1, by omega⟩
  refine lp_for 8 (fun j s => ∃ p, s = (nI (SL st (ch N) j).length, nI j, mset τ 52 p) ∧ (∀ q, (q < 8 * at_ ∨ 8 * at_ + 8 ≤ q) → p q = τ 52 q) ∧ ∀ i, i < (SL st (ch N) j).length → p (8 * at_ + i) = nI (st ((SL st (ch N) j).getD i 0))) _ _ 0 (by omega) ⟨τ 52, rfl, fun _ _ => rfl, fun i hi => by simp [SL] at hi⟩ (by omega) ?_ ?_
  · rintro j s hj ⟨p, rfl, hp1, hp2⟩
    left
    have hTC := h.same (τ2 := mset τ 52 p) (mset_ne (by decide)) (mset_ne (by decide))
    show ∃ s2, M_findsParts_b1 (nI at_) (nI (st N)) (nI (SL st (ch N) j).length) (nI j) (mset τ 52 p) = some (.inl s2) ∧ _
    unfold M_findsParts_b1
    simp only [lt]
    have c0 : ¬ (8 : Int32) ≤ nI j := nI_ge (b := 8) hj (by omega)
    rw [if_neg c0, M_isIn_eq (by omega) (by omega)]
    have hsl := hmono j (by omega)
    by_cases cb : (st N).testBit j = true
    · rw [w3] at cb
      obtain ⟨c, hc, hcj⟩ := (orL_bit st (ch N) j).mp cb
      rw [← w3] at cb
      obtain ⟨u1, u2, u3⟩ := t4 c hc
      obtain ⟨l1, l2, l3⟩ := lst_spec (st c) u1 u2
      rw [M_partWith_eq hTC.1 hTC.2.1 hTC.2.2.1 hTC.2.2.2.1 hN hc hcj]
      simp only [cb, if_true, Option.bind_some]
      rw [M_least_eq u1 u2, if_neg (by decide)]
      simp only [Option.bind_some]
      by_cases cl : lst (st c) = j
      · have hf : (ch N).find? (fun c => lst (st c) == j) = some c := by
          cases hf : (ch N).find? (fun c => lst (st c) == j) with
          | none =>
            rw [List.find?_eq_none] at hf
            have := hf c hc
            simp [cl] at this
          | some e =>
            have h3 := List.mem_of_find?_eq_some hf
            have h4 := List.find?_some hf
            simp at h4
            rw [t5 e h3 c hc (h4.trans cl.symm)]
        have hS : SL st (ch N) (j + 1) = SL st (ch N) j ++ [c] := by rw [SL_s, hf]; rfl
        have hsl2 := hmono (j + 1) (by omega)
        rw [hS] at hsl2
        simp at hsl2
        rw [cl, if_pos rfl]
        have e8 : (8 : Int32) * nI at_ + nI (SL st (ch N) j).length = nI (8 * at_ + (SL st (ch N) j).length) := by
          rw [L_8, pk_mul, nI_add]
        rw [e8, wr_nI (by show _ < 64; omega) (by decide), mput_mset]
        simp only [Option.bind_some]
        refine ⟨_, rfl, upd p (8 * at_ + (SL st (ch N) j).length) (nI (st c)), ?_, fun q hq => ?_, fun i hi => ?_⟩
        · rw [hS, nI_1, nI_1]; simp
        · rw [upd_at, if_neg (by omega)]; exact hp1 q hq
        · rw [hS] at hi ⊢
          simp at hi
          rw [upd_at]
          by_cases ei : i = (SL st (ch N) j).length
          · rw [if_pos (by omega), ei]
            simp [List.getD_eq_getElem?_getD]
          · rw [if_neg (by omega), hp2 i (by omega)]
            simp [List.getD_eq_getElem?_getD, List.getElem?_append, show i < (SL st (ch N) j).length by omega]
      · have hf : (ch N).find? (fun c => lst (st c) == j) = none := by
          rw [List.find?_eq_none]
          intro e he hej
          simp at hej
          obtain ⟨v1, v2, -⟩ := t4 e he
          have := (lst_spec (st e) v1 v2).1
          rw [hej] at this
          have := Dj_uniq w4 he hc (and_ne0.mpr ⟨j, this, hcj⟩)
          rw [this] at hej
          exact cl hej
        have hS : SL st (ch N) (j + 1) = SL st (ch N) j := by rw [SL_s, hf]; simp
        rw [if_neg (nI_ne (by omega) (by omega) cl)]
        simp only [Option.bind_some]
        exact ⟨_, rfl, p, by rw [hS, nI_1], hp1, by rw [hS]; exact hp2⟩
    · have hf : (ch N).find? (fun c => lst (st c) == j) = none := by
        rw [List.find?_eq_none]
        intro e he hej
        simp at hej
        obtain ⟨v1, v2, -⟩ := t4 e he
        have := (lst_spec (st e) v1 v2).1
        rw [hej] at this
        exact cb (by rw [w3, orL_bit]; exact ⟨e, he, this⟩)
      have hS : SL st (ch N) (j + 1) = SL st (ch N) j := by rw [SL_s, hf]; simp
      simp only [cb, if_false, if_true, Bool.false_eq_true, Option.bind_some]
      exact ⟨_, rfl, p, by rw [hS, nI_1], hp1, by rw [hS]; exact hp2⟩
  · rintro s ⟨p, rfl, hp1, hp2⟩
    show ∃ r, M_findsParts_b1 (nI at_) (nI (st N)) _ (nI 8) (mset τ 52 p) = some (.inr r) ∧ _
    unfold M_findsParts_b1
    have c0 : (8 : Int32) ≤ nI 8 := by decide
    rw [if_pos c0]
    refine ⟨_, rfl, p, by rw [hl8], hp1, fun i hi => hp2 i (by omega)⟩

theorem lowb : ∀ m, m < 256 → m ≠ 0 → nI m &&& (-(nI m)) = nI (2 ^ lst m) := by decide +kernel
theorem lst8 : ∀ m, m < 256 → m ≠ 0 → lst m < 8 := by decide +kernel
theorem pow_le {a b : Nat} (ha : a < 8) (hb : b < 8) : nI (2 ^ a) ≤ nI (2 ^ b) ↔ a ≤ b := by
  have h1 : 2 ^ a < 256 := Nat.pow_lt_pow_right (by omega) ha (a := 2)
  have h2 : 2 ^ b < 256 := Nat.pow_lt_pow_right (by omega) hb (a := 2)
  rw [nI_leI (by omega) (by omega)]
  exact Nat.pow_le_pow_iff_right (by omega)
def Wl (C : List Nat) (i p : Nat) : List Nat := (C.take p ++ C.getD i 0 :: (C.take i).drop p) ++ C.drop (i + 1)
theorem Wl_len {C : List Nat} {i p : Nat} (hi : i < C.length) (hp : p ≤ i) : (Wl C i p).length = C.length := by
  unfold Wl; simp; omega
theorem Wl_perm {C : List Nat} {i p : Nat} (hi : i < C.length) (hp : p ≤ i) : (Wl C i p).Perm C := by
  have e : C = (C.take p ++ (C.take i).drop p) ++ C.getD i 0 :: C.drop (i + 1) := by
    have e1 : C.take p = (C.take i).take p := by rw [List.take_take, Nat.min_eq_left hp]
    rw [e1, List.take_append_drop]
    conv => lhs; rw [← List.take_append_drop i C]
    rw [List.drop_eq_getElem_cons hi, List.getD_eq_getElem?_getD, List.getElem?_eq_getElem hi]; rfl
  conv => rhs; rw [e]
  unfold Wl
  refine List.Perm.trans (List.Perm.append_right _ List.perm_middle) ?_
  exact List.perm_middle.symm
theorem Wl_get {C : List Nat} {i p k : Nat} (hi : i < C.length) (hp : p ≤ i) (hk : k < C.length) : (Wl C i p).getD k 0 = if k < p then C.getD k 0 else if k = p then C.getD i 0 else if k ≤ i then C.getD (k - 1) 0 else C.getD k 0 := by
  unfold Wl
  have l1 : (C.take p).length = p := by rw [List.length_take]; omega
  have l2 : ((C.take i).drop p).length = i - p := by rw [List.length_drop, List.length_take]; omega
  have l3 : (C.take p ++ C.getD i 0 :: (C.take i).drop p).length = i + 1 := by rw [List.length_append, List.length_cons, l1, l2]; omega
  simp only [List.getD_eq_getElem?_getD] at l3 ⊢
  by_cases c1 : k < p
  · rw [if_pos c1, List.getElem?_append_left (by omega), List.getElem?_append_left (by omega), List.getElem?_take_of_lt c1]
  · rw [if_neg c1]
    by_cases c2 : k = p
    · subst c2
      rw [if_pos rfl, List.getElem?_append_left (by omega), List.getElem?_append_right (by omega), l1, Nat.sub_self]
      simp
    · rw [if_neg c2]
      by_cases c3 : k ≤ i
      · rw [if_pos c3, List.getElem?_append_left (by omega), List.getElem?_append_right (by omega), l1]
        rw [show k - p = (k - p - 1) + 1 by omega, List.getElem?_cons_succ, List.getElem?_drop, List.getElem?_take_of_lt (by omega)]
        congr 2; omega
      · rw [if_neg c3, List.getElem?_append_right (by omega), l3, List.getElem?_drop]
        congr 2; omega
section
variable {σ : Mem} {t : Nat} {kd : Nat → Bool} {ch : Nat → List Nat} {st : Nat → Nat}
theorem AT.least (h : AT σ t kd ch st) (ht : isT t) {id : Nat} (hid : id < 24) (hu : Us ch id) (h0 : st id ≠ 0) : T_least t (nI id) σ = some (nI (2 ^ lst (st id))) := by
  have r := h.set ht hid hu
  unfold T_least
  refine ob r ?_
  refine ob r ?_
  rw [lowb _ ((h id hid).2.2.2.1 hu).1 h0]
def CanL (k : Bool) (st : Nat → Nat) (C : List Nat) : Prop := if k = true then lst (st (C.getD 0 0)) < lst (st (C.getD (C.length - 1) 0)) else C.Pairwise (fun a b => lst (st a) < lst (st b))
theorem AT.newC (h : AT σ t kd ch st) {node : Nat} {C : List Nat} (hC : C.Perm (ch node)) {f : Nat → Int32} (hn : node < 24) (h1 : ∀ i, i < C.length → f (node * 8 + i) = nI (C.getD i 0)) (h2 : ∀ q, (q < node * 8 ∨ node * 8 + 8 ≤ q) → f q = σ (t + 4) q) : AT (mset σ (t + 4) f) t kd (uf ch node C) st := by
  intro id hid
  obtain ⟨a1, a2, a3, a4, a5⟩ := h id hid
  rw [mset_ne (j := t + 1) (by omega), mset_ne (j := t + 2) (by omega), mset_ne (j := t + 3) (by omega), mset_eq]
  have hl := hC.length_eq
  have hU : Us (uf ch node C) id → Us ch id := fun hu => by
    rcases hu with hu | hu
    · exact Or.inl hu
    · right
      by_cases e : id = node
      · subst e; rw [uf_s] at hu; exact fun q => hu (by rw [q] at hC; exact List.perm_nil.mp hC)
      · rw [uf_n e] at hu; exact hu
  by_cases e : id = node
  · subst e
    rw [uf_s]
    refine ⟨by omega, by rw [hl]; exact a2, ?_, fun hu => a4 (hU hu), fun hu => a5 (fun q => hu (by rw [q] at hC; exact List.perm_nil.mp hC))⟩
    intro i hi
    exact ⟨h.lt24 hid (hC.mem_iff.mp (getD_mem hi)), h1 i hi⟩
  · rw [uf_n e]
    refine ⟨a1, a2, ?_, fun hu => a4 (hU hu), a5⟩
    intro i hi
    rw [h2 _ (by omega)]
    exact a3 i hi
theorem ord_inner (h : AT σ t kd ch st) (ht : isT t) {node i : Nat} (hn : node < 24) {C : List Nat} (hCl : C.length ≤ 8) (hi1 : 1 ≤ i) (hi : i < C.length) (hC : ∀ c ∈ C, c < 24 ∧ Us ch c ∧ st c ≠ 0) (hsrt : (C.take i).Pairwise (fun a b => lst (st a) ≤ lst (st b))) {f : Nat → Int32} (h1 : ∀ k, k < C.length → f (node * 8 + k) = nI (C.getD k 0)) : ∃ p g, lp (fun s => T_order_b1 t (nI node) (nI (C.getD i 0)) s.1 s.2) fuel (nI i, mset σ (t + 4) f) = some (nI p, mset σ (t + 4) g) ∧ p ≤ i ∧ (∀ k, k < C.length → k ≠ p → g (node * 8 + k) = nI ((Wl C i p).getD k 0)) ∧ (∀ q, (q < node * 8 ∨ node * 8 + 8 ≤ q) → g q = f q) ∧ (∀ k, k < p → lst (st (C.getD k 0)) ≤ lst (st (C.getD i 0))) ∧ ∀ k, p ≤ k → k < i → lst (st (C.getD i 0)) ≤ lst (st (C.getD k 0)) := by
  have hget : ∀ g : Nat → Int32, ∀ c ∈ C, T_least t (nI c) (mset σ (t + 4) g) = some (nI (2 ^ lst (st c))) ∧ lst (st c) < 8 := fun g c hc => by
    obtain ⟨a1, a2, a3⟩ := hC c hc
    have r : rd (mset σ (t + 4) g) (t + 2) (nI c) = some (nI (st c)) := by
      rw [rdT (lnT2 ht) a1 (by omega), mset_ne (by omega), ((h c a1).2.2.2.1 a2).2]
    have h256 := ((h c a1).2.2.2.1 a2).1
    refine ⟨?_, lst8 _ h256 a3⟩
    unfold T_least
    refine ob r ?_
    refine ob r ?_
    rw [lowb _ h256 a3]
  have hsle : ∀ a b, a ≤ b → b < i → lst (st (C.getD a 0)) ≤ lst (st (C.getD b 0)) := fun a b hab hb => by
    by_cases q : a = b
    · rw [q]; exact Nat.le_refl _
    · rw [List.pairwise_iff_getElem] at hsrt
      have hl : (C.take i).length = i := by rw [List.length_take]; omega
      have := hsrt a b (by omega) (by omega) (by omega)
      rw [List.getElem_take, List.getElem_take] at this
      rw [List.getD_eq_getElem?_getD, List.getD_eq_getElem?_getD, List.getElem?_eq_getElem (by omega), List.getElem?_eq_getElem (by omega)]
      exact this
  have key : ∃ r, lp (fun s => T_order_b1 t (nI node) (nI (C.getD i 0)) s.1 s.2) fuel (nI i, mset σ (t + 4) f) = some r ∧ ∃ p g, r = (nI p, mset σ (t + 4) g) ∧ p ≤ i ∧ (∀ k, k < C.length → k ≠ p → g (node * 8 + k) = nI ((Wl C i p).getD k 0)) ∧ (∀ q, (q < node * 8 ∨ node * 8 + 8 ≤ q) → g q = f q) ∧ (∀ k, k < p → lst (st (C.getD k 0)) ≤ lst (st (C.getD i 0))) ∧ ∀ k, p ≤ k → k < i → lst (st (C.getD i 0)) ≤ lst (st (C.getD k 0)) := by
    refine lp_for i (fun j s => ∃ g, s = (nI (i - j), mset σ (t + 4) g) ∧ (∀ k, k < C.length → k ≠ i - j → g (node * 8 + k) = nI ((Wl C i (i - j)).getD k 0)) ∧ (∀ q, (q < node * 8 ∨ node * 8 + 8 ≤ q) → g q = f q) ∧ ∀ k, i - j ≤ k → k < i → lst (st (C.getD i 0)) ≤ lst (st (C.getD k 0))) _ _ 0 (by omega) ⟨f, rfl, ?_, fun _ _ => rfl, fun k a b => by omega⟩ (by omega) ?_ ?_
    · intro k hk hne
      rw [h1 k hk, Wl_get hi (by omega) hk]
      by_cases q : k < i
      · rw [if_pos (by omega)]
      · rw [if_neg (by omega), if_neg (by omega), if_neg (by omega)]
    · intro j s hj ⟨g, e, g1, g2, g3⟩
      subst e
      have hp1 : i - j - 1 < C.length := by omega
      have em : (Wl C i (i - j)).getD (i - j - 1) 0 = C.getD (i - j - 1) 0 := by rw [Wl_get hi (by omega) hp1, if_pos (by omega)]
      have r1 : T_part t (nI node) (nI (i - j) - 1) (mset σ (t + 4) g) = some (nI (C.getD (i - j - 1) 0)) := by
        rw [zz_dec (by omega), T_part_raw ht hn (by omega), mset_eq, g1 _ hp1 (by omega), em]
      obtain ⟨q1, q2⟩ := hget g _ (getD_mem hp1)
      obtain ⟨q3, q4⟩ := hget g _ (getD_mem hi)
      by_cases c : lst (st (C.getD (i - j - 1) 0)) ≤ lst (st (C.getD i 0))
      · right
        refine ⟨_, ?_, i - j, g, rfl, by omega, g1, g2, ?_, g3⟩
        · unfold T_order_b1
          refine ob (a := false) ?_ rfl
          refine ifn (nI_nle (by omega) (by omega)) ?_
          refine ob r1 ?_
          refine ob q1 ?_
          refine ob q3 ?_
          exact ifp ((pow_le q2 q4).mpr c) rfl
        · intro k hk
          exact Nat.le_trans (hsle k (i - j - 1) (by omega) (by omega)) c
      · left
        have w1 : T_setPart t (nI node) (nI (i - j)) (nI (C.getD (i - j - 1) 0)) (mset σ (t + 4) g) = some (mset σ (t + 4) (upd g (node * 8 + (i - j)) (nI (C.getD (i - j - 1) 0)))) := by
          rw [T_setPart_raw ht hn (by omega), mput_mset]
        refine ⟨(nI (i - (j + 1)), mset σ (t + 4) (upd g (node * 8 + (i - j)) (nI (C.getD (i - j - 1) 0)))), ?_, _, rfl, ?_, ?_, ?_⟩
        · unfold T_order_b1
          refine ob (a := true) ?_ ?_
          · refine ifn (nI_nle (by omega) (by omega)) ?_
            refine ob r1 ?_
            refine ob q1 ?_
            refine ob q3 ?_
            exact ifn (fun e => c ((pow_le q2 q4).mp e)) rfl
          · refine ifp rfl ?_
            refine ob r1 ?_
            refine ob w1 ?_
            exact lti (curr_dec (by omega)) rfl
        · intro k hk hne
          rw [upd_at]
          by_cases q : k = i - j
          · rw [if_pos (by omega), Wl_get hi (by omega) hk, if_neg (by omega), if_neg (by omega), if_pos (by omega)]
            congr 2; omega
          · rw [if_neg (by omega), g1 k hk q, Wl_get hi (by omega) hk, Wl_get hi (by omega) hk]
            by_cases q2 : k < i - j
            · rw [if_pos q2, if_pos (by omega)]
            · have n1 : ¬ k < i - (j + 1) := by omega
              have n2 : ¬ k = i - (j + 1) := by omega
              rw [if_neg q2, if_neg q, if_neg n1, if_neg n2]
        · intro q hq
          rw [upd_at, if_neg (by omega)]; exact g2 q hq
        · intro k a b
          by_cases q : k = i - j - 1
          · subst q; omega
          · exact g3 k (by omega) b
    · intro s ⟨g, e, g1, g2, g3⟩
      subst e
      rw [Nat.sub_self] at g1 g3 ⊢
      refine ⟨_, ?_, 0, g, rfl, by omega, g1, g2, fun k hk => by omega, g3⟩
      unfold T_order_b1
      refine ob (a := false) ?_ rfl
      exact ifp (show nI 0 ≤ 0 by decide) rfl
  obtain ⟨r, k1, p, g, e, k2⟩ := key
  exact ⟨p, g, by rw [k1, e], k2⟩
end

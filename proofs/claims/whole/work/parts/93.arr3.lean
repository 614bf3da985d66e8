section
variable {σ : Mem} {t : Nat} {kd : Nat → Bool} {ch : Nat → List Nat} {st : Nat → Nat}
theorem mput_2 {σ : Mem} {k i : Nat} {v : Int32} : mput σ k i v k = upd (σ k) i v := by simp [mput, mset]
theorem AT.bundle (h : AT σ t kd ch st) (ht : isT t) {node S q : Nat} (hn : node < 24) (hC : ∀ c ∈ ch node, Us ch c) (hq : q ≤ 2) (hne : ch node ≠ []) (hu : ∃ m, 8 ≤ m ∧ m < 23 ∧ ch m = []) : ∃ m r τ kd' ch' st', 8 ≤ m ∧ m < 23 ∧ ch m = [] ∧ T_bundle t (nI node) (nI S) (nI q) σ = some (r, τ) ∧ AT τ t kd' ch' st' ∧ (∀ i, i ≠ m → kd' i = kd i ∧ ch' i = ch i ∧ st' i = st i) ∧ F14 t σ τ ∧ ((fE st S (ch node) q = [] ∧ r = -1 ∧ ch' m = []) ∨ (∃ c, fE st S (ch node) q = [c] ∧ r = nI c ∧ ch' m = []) ∨ (2 ≤ (fE st S (ch node) q).length ∧ r = nI m ∧ ch' m = fE st S (ch node) q ∧ kd' m = false ∧ st' m = orL st (fE st S (ch node) q))) := by
  obtain ⟨m, e1, m1, m2, m3⟩ := h.unused ht hu
  have w1 : wr σ (t + 1) (nI m) 0 = some (mput σ (t + 1) m 0) := wrT (lnT1 ht) (by omega) (by omega)
  have w2 : wr (mput σ (t + 1) m 0) (t + 2) (nI m) 0 = some (mput (mput σ (t + 1) m 0) (t + 2) m 0) := wrT (lnT2 ht) (by omega) (by omega)
  have hA1 : AT (mput (mput σ (t + 1) m 0) (t + 2) m 0) t kd ch st := by
    intro id hid
    obtain ⟨a1, a2, a3, a4, a5⟩ := h id hid
    rw [mput_ne (t + 3) (by omega), mput_ne (t + 3) (by omega), mput_ne (t + 4) (by omega), mput_ne (t + 4) (by omega), mput_2, mput_ne (t + 2) (by omega), mput_ne (t + 1) (by omega), mput_2]
    refine ⟨a1, a2, a3, ?_, ?_⟩
    · intro hu
      have : id ≠ m := fun e => by rcases hu with u | u; omega; exact u (by rw [e]; exact m3)
      rw [pk_un this]; exact a4 hu
    · intro hu
      have : id ≠ m := fun e => hu (by rw [e]; exact m3)
      rw [pk_un this]; exact a5 hu
  have hF1 : F14 t σ (mput (mput σ (t + 1) m 0) (t + 2) m 0) := fun k b1 b2 b3 b4 => by rw [mput_ne _ b2, mput_ne _ b1]
  obtain ⟨τ, l1, l2, l3⟩ := bundle_loop (S := S) (q := q) (m := m) hA1 ht hn hC hq ⟨m1, m2⟩ m3 hne (by rw [mput_ne _ (by omega), mput_2, pk_us]) (by rw [mput_2, pk_us])
  have hlen := (h node hn).1
  have hfl := fE_len_le (st := st) (S := S) (q := q) (C := ch node)
  have r3 : rd τ (t + 3) (nI m) = some (nI (fE st S (ch node) q).length) := by have := l2.size (id := m) ht (by omega); rwa [uf_s] at this
  rcases hL : fE st S (ch node) q with _ | ⟨c, _ | ⟨c2, L⟩⟩
  · rw [hL] at l2 r3
    refine ⟨m, -1, τ, _, _, _, m1, m2, m3, ?_, l2, ?_, hF1.tr l3, Or.inl ⟨rfl, rfl, uf_s⟩⟩
    · unfold T_bundle
      refine ob e1 ?_
      refine ob w1 ?_
      refine ob w2 ?_
      refine ob l1 ?_
      refine ob r3 ?_
      exact ifp rfl rfl
    · intro i hi; exact ⟨uf_n hi, uf_n hi, uf_n hi⟩
  · rw [hL] at l2 r3
    have hcm : c ∈ ch node := (fE_mem (st := st) (S := S) (q := q)).mp (by rw [hL]; simp) |>.1
    have hA3 : AT (mput τ (t + 3) m 0) t (uf kd m false) (uf ch m []) (uf st m (orL st [c])) := by
      intro id hid
      obtain ⟨a1, a2, a3, a4, a5⟩ := l2 id hid
      rw [mput_ne (t + 4) (by omega), mput_2, mput_ne (t + 2) (by omega), mput_ne (t + 1) (by omega)]
      by_cases e : id = m
      · subst e
        rw [uf_s, pk_us]
        refine ⟨by simp, rfl, fun i hi => by simp at hi, fun hu => ?_, fun hu => absurd rfl hu⟩
        rcases hu with hu | hu
        · omega
        · rw [uf_s] at hu; exact absurd rfl hu
      · rw [uf_n e] at a1 a2 a3 a5
        rw [uf_n e, pk_un e]
        refine ⟨a1, a2, a3, fun hu => a4 ?_, a5⟩
        rcases hu with hu | hu
        · exact Or.inl hu
        · right; rw [uf_n e] at hu ⊢; exact hu
    refine ⟨m, nI c, mput τ (t + 3) m 0, _, _, _, m1, m2, m3, ?_, hA3, ?_, (hF1.tr l3).tr (fun k b1 b2 b3 b4 => mput_ne _ b3), Or.inr (Or.inl ⟨c, rfl, rfl, uf_s⟩)⟩
    · unfold T_bundle
      refine ob e1 ?_
      refine ob w1 ?_
      refine ob w2 ?_
      refine ob l1 ?_
      refine ob r3 ?_
      refine ifn (nI_ne0 (n := 1) (by omega) (by omega)) ?_
      refine ob r3 ?_
      refine ifp rfl ?_
      refine ob (wrT (lnT3 ht) (by omega) (by omega)) ?_
      refine ob (a := nI c) ?_ rfl
      refine (T_part_raw (i := 0) ht (by omega) (by omega)).trans ?_
      rw [mput_ne _ (by omega)]
      have := ((l2 m (by omega)).2.2.1 0 (by rw [uf_s]; simp)).2
      rw [this, uf_s]; rfl
    · intro i hi; exact ⟨uf_n hi, uf_n hi, uf_n hi⟩
  · have hl2 : 2 ≤ (fE st S (ch node) q).length := by rw [hL]; simp
    rw [← hL]
    refine ⟨m, nI m, τ, _, _, _, m1, m2, m3, ?_, l2, ?_, hF1.tr l3, Or.inr (Or.inr ⟨hl2, rfl, uf_s, uf_s, uf_s⟩)⟩
    · unfold T_bundle
      refine ob e1 ?_
      refine ob w1 ?_
      refine ob w2 ?_
      refine ob l1 ?_
      refine ob r3 ?_
      refine ifn (nI_ne0 (by omega) (by omega)) ?_
      refine ob r3 ?_
      exact ifn (nI_ne (b := 1) (by omega) (by omega) (by omega)) rfl
    · intro i hi; exact ⟨uf_n hi, uf_n hi, uf_n hi⟩
def rvA (f : Nat → Int32) (lo hi : Nat) : Nat → Int32 := fun i => if lo ≤ i ∧ i ≤ hi then f (lo + hi - i) else f i
def rvJ (f : Nat → Int32) (lo hi j : Nat) : Nat → Int32 := fun i => if (lo ≤ i ∧ i < lo + j) ∨ (hi - j < i ∧ i ≤ hi) then f (lo + hi - i) else f i
theorem T_turn_eq {a : Nat} {N : Nat} (hN : lenOf a = N) (hN2 : N < 1000) {lo hi : Nat} (hl : lo ≤ hi) (hh : hi < N) : T_turn a (nI lo) (nI hi) σ = some (mset σ a (rvA (σ a) lo hi)) := by
  have key : ∃ r, lp (fun s => T_turn_b1 a s.1 s.2.1 s.2.2) fuel (nI lo, nI hi, σ) = some r ∧ r = mset σ a (rvA (σ a) lo hi) := by
    refine lp_for ((hi - lo + 1) / 2) (fun j s => s = (nI (lo + j), nI (hi - j), mset σ a (rvJ (σ a) lo hi j))) _ _ 0 (by omega) ?_ (by omega) ?_ ?_
    · have : mset σ a (rvJ (σ a) lo hi 0) = σ := by
        have e : rvJ (σ a) lo hi 0 = σ a := by funext i; unfold rvJ; rw [if_neg (by omega)]
        rw [e, mset_self]
      rw [this]; rfl
    · intro j s hj hs
      subst hs
      left
      have c1 : lo + j < hi - j := by omega
      refine ⟨(nI (lo + (j + 1)), nI (hi - (j + 1)), mset σ a (rvJ (σ a) lo hi (j + 1))), ?_, rfl⟩
      unfold T_turn_b1
      refine ifn (nI_ge c1 (by omega)) ?_
      refine ob (a := σ a (lo + j)) ?_ ?_
      · rw [rdT hN (by omega) (by omega)]; show some (mset σ a _ a _) = _; rw [mset_eq]; unfold rvJ; rw [if_neg (by omega)]
      refine ob (a := σ a (hi - j)) ?_ ?_
      · rw [rdT hN (by omega) (by omega)]; show some (mset σ a _ a _) = _; rw [mset_eq]; unfold rvJ; rw [if_neg (by omega)]
      refine ob (wrT hN (by omega) (by omega)) ?_
      refine ob (wrT hN (by omega) (by omega)) ?_
      refine lti (nI_1 _) ?_
      refine lti (curr_dec (by omega)) ?_
      have e : mput (mput (mset σ a (rvJ (σ a) lo hi j)) a (lo + j) (σ a (hi - j))) a (hi - j) (σ a (lo + j)) = mset σ a (rvJ (σ a) lo hi (j + 1)) := by
        rw [mput_mset, mput_mset]
        congr 1
        funext i
        rw [upd_at, upd_at]
        unfold rvJ
        by_cases e1 : i = hi - j
        · rw [if_pos e1, if_pos (by omega)]; congr 1; omega
        · rw [if_neg e1]
          by_cases e2 : i = lo + j
          · rw [if_pos e2, if_pos (by omega)]; congr 1; omega
          · rw [if_neg e2]
            by_cases e3 : (lo ≤ i ∧ i < lo + j) ∨ (hi - j < i ∧ i ≤ hi)
            · rw [if_pos e3, if_pos (by omega)]
            · rw [if_neg e3, if_neg (by omega)]
      rw [e]; rfl
    · intro s hs
      subst hs
      refine ⟨mset σ a (rvJ (σ a) lo hi ((hi - lo + 1) / 2)), ?_, ?_⟩
      · unfold T_turn_b1
        exact ifp (nI_le (by omega) (by omega)) rfl
      · congr 1
        funext i
        unfold rvJ rvA
        by_cases e3 : lo ≤ i ∧ i ≤ hi
        · rw [if_pos e3]
          by_cases e4 : (lo ≤ i ∧ i < lo + (hi - lo + 1) / 2) ∨ (hi - (hi - lo + 1) / 2 < i ∧ i ≤ hi)
          · rw [if_pos e4]
          · rw [if_neg e4]; congr 1; omega
        · rw [if_neg e3, if_neg (by omega)]
  obtain ⟨r, k1, k2⟩ := key
  unfold T_turn
  refine ob k1 ?_
  rw [k2]
theorem rev_getD {C : List Nat} {i : Nat} (h : i < C.length) : C.reverse.getD i 0 = C.getD (C.length - 1 - i) 0 := by
  rw [List.getD_eq_getElem?_getD, List.getD_eq_getElem?_getD, List.getElem?_reverse h]
theorem AT.turnP (h : AT σ t kd ch st) (ht : isT t) {node : Nat} (hn : node < 24) (hne : 1 ≤ (ch node).length) : T_turn (t + 4) (nI node * 8) (nI node * 8 + (nI (ch node).length - 1)) σ = some (mset σ (t + 4) (rvA (σ (t + 4)) (node * 8) (node * 8 + ((ch node).length - 1)))) ∧ AT (mset σ (t + 4) (rvA (σ (t + 4)) (node * 8) (node * 8 + ((ch node).length - 1)))) t kd (uf ch node (ch node).reverse) st := by
  have h8 := (h node hn).1
  refine ⟨?_, ?_⟩
  · have e1 : nI node * 8 = nI (node * 8) := by rw [L_8, xI_mul]
    rw [e1, zz_dec hne, nI_add]
    exact T_turn_eq (lnT4 ht) (by omega) (by omega) (by omega)
  · intro id hid
    obtain ⟨a1, a2, a3, a4, a5⟩ := h id hid
    rw [mset_ne (j := t + 1) (by omega), mset_ne (j := t + 2) (by omega), mset_ne (j := t + 3) (by omega), mset_eq]
    have hU : Us (uf ch node (ch node).reverse) id → Us ch id := fun hu => by
      rcases hu with hu | hu
      · exact Or.inl hu
      · right
        by_cases e : id = node
        · subst e; rw [uf_s] at hu; exact fun q => hu (by rw [q]; rfl)
        · rw [uf_n e] at hu; exact hu
    by_cases e : id = node
    · subst e
      rw [uf_s]
      refine ⟨by rw [List.length_reverse]; exact a1, by rw [List.length_reverse]; exact a2, ?_, fun hu => a4 (hU hu), fun hu => a5 (fun q => hu (by rw [q]; rfl))⟩
      intro i hi
      rw [List.length_reverse] at hi
      rw [rev_getD hi]
      unfold rvA
      rw [if_pos (by omega)]
      have : id * 8 + (id * 8 + ((ch id).length - 1)) - (id * 8 + i) = id * 8 + ((ch id).length - 1 - i) := by omega
      rw [this]
      exact a3 _ (by omega)
    · rw [uf_n e]
      refine ⟨a1, a2, ?_, fun hu => a4 (hU hu), a5⟩
      intro i hi
      unfold rvA
      rw [if_neg (by omega)]
      exact a3 i hi
end

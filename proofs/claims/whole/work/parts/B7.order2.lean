section
variable {σ : Mem} {t : Nat} {kd : Nat → Bool} {ch : Nat → List Nat} {st : Nat → Nat}
theorem upd_same_mset {f : Nat → Int32} : σ = mset σ (t + 4) (σ (t + 4)) := (mset_self σ (t + 4)).symm
theorem T_order_ok (h : AT σ t kd ch st) (ht : isT t) {node : Nat} (hn : node < 24) (h2 : 2 ≤ (ch node).length) (hnd : (ch node).Nodup) (hC : ∀ c ∈ ch node, c < 24 ∧ Us ch c ∧ st c ≠ 0) (hinj : ∀ c ∈ ch node, ∀ e ∈ ch node, lst (st c) = lst (st e) → c = e) : ∃ (C : List Nat) (f : Nat → Int32), T_order t (nI node) σ = some (mset σ (t + 4) f) ∧ OrdR (kd node) (ch node) C ∧ CanL (kd node) st C ∧ AT (mset σ (t + 4) f) t kd (uf ch node C) st := by
  have hlen := (h node hn).1
  have hne : ch node ≠ [] := fun e => by rw [e] at h2; simp at h2
  have rs := h.size ht hn
  have rk := h.kind ht hn hne
  by_cases ck : kd node = true
  · rw [if_pos ck] at rk
    have q0 := h.part (i := 0) ht hn (by omega)
    have qL := h.part (i := (ch node).length - 1) ht hn (by omega)
    have m0 := getD_mem (C := ch node) (i := 0) (by omega)
    have mL := getD_mem (C := ch node) (i := (ch node).length - 1) (by omega)
    obtain ⟨a1, a2, a3⟩ := hC _ m0
    obtain ⟨b1, b2, b3⟩ := hC _ mL
    have l0 := h.least ht a1 a2 a3
    have lL := h.least ht b1 b2 b3
    have s0 := lst8 _ ((h _ a1).2.2.2.1 a2).1 a3
    have sL := lst8 _ ((h _ b1).2.2.2.1 b2).1 b3
    have hne2 : lst (st ((ch node).getD 0 0)) ≠ lst (st ((ch node).getD ((ch node).length - 1) 0)) := fun e => by
      have e2 := hinj _ m0 _ mL e
      unfold List.Nodup at hnd
      rw [List.pairwise_iff_getElem] at hnd
      refine hnd 0 ((ch node).length - 1) (by omega) (by omega) (by omega) ?_
      rw [List.getD_eq_getElem?_getD, List.getD_eq_getElem?_getD, List.getElem?_eq_getElem (by omega), List.getElem?_eq_getElem (by omega)] at e2
      exact e2
    by_cases c : lst (st ((ch node).getD 0 0)) ≤ lst (st ((ch node).getD ((ch node).length - 1) 0))
    · refine ⟨ch node, σ (t + 4), ?_, OrdR_self _ _, ?_, ?_⟩
      · unfold T_order
        refine ob rs ?_
        refine lti (zz_dec (by omega)) ?_
        refine ob rk ?_
        refine ifp rfl ?_
        refine ob q0 ?_
        refine ob l0 ?_
        refine ob qL ?_
        refine ob lL ?_
        refine ob (a := σ) (ifp ((pow_le s0 sL).mpr c) rfl) ?_
        rw [mset_self]
      · unfold CanL; rw [if_pos ck]; omega
      · rw [mset_self, uf_self]; exact h
    · obtain ⟨w1, w2⟩ := h.turnP ht hn (by omega)
      refine ⟨(ch node).reverse, _, ?_, ?_, ?_, w2⟩
      · unfold T_order
        refine ob rs ?_
        refine lti (zz_dec (by omega)) ?_
        refine ob rk ?_
        refine ifp rfl ?_
        refine ob q0 ?_
        refine ob l0 ?_
        refine ob qL ?_
        refine ob lL ?_
        refine ob (a := _) (ifn (fun e => c ((pow_le s0 sL).mp e)) ?_) rfl
        rw [zz_dec (by omega)] at w1
        exact ob w1 rfl
      · unfold OrdR; rw [if_pos ck]; exact Or.inr rfl
      · unfold CanL
        rw [if_pos ck, List.length_reverse, rev_getD (by omega), rev_getD (by omega)]
        have e1 : (ch node).length - 1 - ((ch node).length - 1) = 0 := by omega
        have e2 : (ch node).length - 1 - 0 = (ch node).length - 1 := by omega
        rw [e1, e2]; omega
  · rw [if_neg ck] at rk
    have key : ∃ r, lp (fun s => T_order_b2 t (nI node) (nI ((ch node).length - 1)) s.1 s.2) fuel (1, σ) = some r ∧ ∃ (C : List Nat) (f : Nat → Int32), r = mset σ (t + 4) f ∧ C.Perm (ch node) ∧ C.Pairwise (fun a b => lst (st a) ≤ lst (st b)) ∧ (∀ k, k < C.length → f (node * 8 + k) = nI (C.getD k 0)) ∧ ∀ q, (q < node * 8 ∨ node * 8 + 8 ≤ q) → f q = σ (t + 4) q := by
      refine lp_for (ch node).length (fun i s => 1 ≤ i ∧ s.1 = nI i ∧ ∃ (C : List Nat) (f : Nat → Int32), s.2 = mset σ (t + 4) f ∧ C.Perm (ch node) ∧ (C.take i).Pairwise (fun a b => lst (st a) ≤ lst (st b)) ∧ (∀ k, k < C.length → f (node * 8 + k) = nI (C.getD k 0)) ∧ ∀ q, (q < node * 8 ∨ node * 8 + 8 ≤ q) → f q = σ (t + 4) q) _ _ 1 (by omega) ⟨by omega, rfl, ch node, σ (t + 4), (mset_self _ _).symm, List.Perm.refl _, ?_, fun k hk => ((h node hn).2.2.1 k hk).2, fun _ _ => rfl⟩ (by omega) ?_ ?_
      · rcases hc : ch node with _ | ⟨a, L⟩
        · simp
        · simp
      · intro i s hi ⟨hi1, e1, C, f, e2, hp, hs, hf, hq⟩
        obtain ⟨s1, τ⟩ := s
        simp only at e1 e2
        subst e1 e2
        left
        have hl := hp.length_eq
        have hiC : i < C.length := by omega
        obtain ⟨p, g, k1, k2, k3, k4, k5, k6⟩ := ord_inner h ht hn (by omega) hi1 hiC (fun c hc => hC c (hp.mem_iff.mp hc)) hs hf
        have hpC : p < C.length := by omega
        refine ⟨(nI (i + 1), mset σ (t + 4) (upd g (node * 8 + p) (nI (C.getD i 0)))), ?_, by omega, rfl, Wl C i p, _, rfl, (Wl_perm hiC k2).trans hp, ?_, ?_, ?_⟩
        · unfold T_order_b2
          refine ifn (nI_nlt (by omega) (by omega)) ?_
          refine ob (a := nI (C.getD i 0)) ?_ ?_
          · show T_part t (nI node) (nI i) (mset σ (t + 4) f) = _
            rw [T_part_raw ht hn (by omega), mset_eq, hf i hiC]
          · refine ob k1 ?_
            refine lti rfl ?_
            refine lti rfl ?_
            refine ob (a := mset σ (t + 4) (upd g (node * 8 + p) (nI (C.getD i 0)))) ?_ (lti (nI_1 _) rfl)
            show T_setPart t (nI node) (nI p) (nI (C.getD i 0)) (mset σ (t + 4) g) = _
            rw [T_setPart_raw ht hn (by omega), mput_mset]
        · have et : (Wl C i p).take (i + 1) = C.take p ++ C.getD i 0 :: (C.take i).drop p := by
            unfold Wl
            rw [List.take_append_of_le_length (by simp; omega)]
            rw [List.take_of_length_le (by simp; omega)]
          rw [et, List.pairwise_append, List.pairwise_cons]
          have e3 : C.take p = (C.take i).take p := by rw [List.take_take, Nat.min_eq_left k2]
          have hs2 : ((C.take i).take p ++ (C.take i).drop p).Pairwise (fun a b => lst (st a) ≤ lst (st b)) := by rw [List.take_append_drop]; exact hs
          rw [List.pairwise_append] at hs2
          have hlo : ∀ x ∈ C.take p, lst (st x) ≤ lst (st (C.getD i 0)) := fun x hx => by
            obtain ⟨k, hk, e⟩ := List.mem_iff_getElem.mp hx
            rw [List.length_take] at hk
            rw [List.getElem_take] at e
            have := k5 k (by omega)
            rw [List.getD_eq_getElem?_getD, List.getElem?_eq_getElem (by omega)] at this
            rw [← e]; exact this
          have hhi : ∀ x ∈ (C.take i).drop p, lst (st (C.getD i 0)) ≤ lst (st x) := fun x hx => by
            obtain ⟨k, hk, e⟩ := List.mem_iff_getElem.mp hx
            rw [List.length_drop, List.length_take] at hk
            rw [List.getElem_drop, List.getElem_take] at e
            have := k6 (p + k) (by omega) (by omega)
            have eg : C.getD (p + k) 0 = C[p + k]'(by omega) := by rw [List.getD_eq_getElem?_getD, List.getElem?_eq_getElem (by omega)]; rfl
            rw [eg, e] at this
            exact this
          refine ⟨by rw [e3]; exact hs2.1, ⟨hhi, hs2.2.1⟩, ?_⟩
          intro x hx y hy
          rw [List.mem_cons] at hy
          rcases hy with hy | hy
          · rw [hy]; exact hlo x hx
          · exact Nat.le_trans (hlo x hx) (hhi y hy)
        · intro k hk
          rw [Wl_len hiC k2] at hk
          rw [upd_at]
          by_cases q : k = p
          · rw [if_pos (by omega), Wl_get hiC k2 hk, if_neg (by omega), if_pos q]
          · rw [if_neg (by omega)]; exact k3 k hk q
        · intro q hqq
          rw [upd_at, if_neg (by omega), k4 q hqq]; exact hq q hqq
      · intro s ⟨hi1, e1, C, f, e2, hp, hs, hf, hq⟩
        obtain ⟨s1, τ⟩ := s
        simp only at e1 e2
        subst e1 e2
        rw [List.take_of_length_le (by rw [hp.length_eq]; exact Nat.le_refl _)] at hs
        refine ⟨_, ?_, C, f, rfl, hp, hs, hf, hq⟩
        unfold T_order_b2
        exact ifp (nI_lt (by omega) (by omega)) rfl
    obtain ⟨r, l1, C, f, e, hp, hs, hf, hq⟩ := key
    refine ⟨C, f, ?_, ?_, ?_, h.newC hp hn hf hq⟩
    · unfold T_order
      refine ob rs ?_
      refine lti (zz_dec (by omega)) ?_
      refine ob rk ?_
      refine ifn (by decide) ?_
      rw [← e]
      exact ob l1 rfl
    · unfold OrdR; rw [if_neg ck]; exact hp
    · unfold CanL
      rw [if_neg ck]
      have hnd2 : C.Nodup := hp.nodup_iff.mpr hnd
      refine List.Pairwise.imp_of_mem ?_ (hs.and hnd2)
      intro x y hx hy ⟨h1, h2⟩
      have h3 : lst (st x) ≠ lst (st y) := fun e => h2 (hinj x (hp.mem_iff.mp hx) y (hp.mem_iff.mp hy) e)
      have h1 : lst (st x) ≤ lst (st y) := h1
      show lst (st x) < lst (st y)
      omega
end

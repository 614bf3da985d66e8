def LnS (t : Nat) (kd0 : Nat → Bool) (ch0 : Nat → List Nat) (st0 : Nat → Nat) (S d : Nat) (σ : Mem) (L : List Nat) (τ : Mem) (X : List Nat) (items : List (List Nat)) (kd : Nat → Bool) (ch : Nat → List Nat) (st : Nat → Nat) (hd sp nw : List Nat) : Prop :=
  RS τ t kd ch st X hd sp ∧ RF t σ τ ∧ XI kd0 ch0 st0 kd ch st sp nw ∧ ItL kd ch st st0 nw X items ∧ X.length ≤ pcs st0 L ∧ 2 * nw.length ≤ pcs st0 L ∧ sp.length ≤ pcs st0 L ∧ (∀ i ∈ nw, i ∈ X) ∧ (∀ i ∈ sp, 8 ≤ i ∧ i < 24) ∧ (∀ i ∈ sp, stt st0 S i = 1 ∧ ∃ p ∈ L, i ∈ ndD ch0 d p) ∧ ∀ p ∈ L, ∀ i ∈ ndD ch0 d p, stt st0 S i = 1 → i ∈ sp
section
variable {σ0 σ τ : Mem} {t : Nat} {kd0 kd : Nat → Bool} {ch0 ch : Nat → List Nat} {st0 st : Nat → Nat} {S d : Nat} {L X hd sp nw : List Nat} {items : List (List Nat)}
theorem pcs_one {c : Nat} : pcs st0 [c] = pc8 (st0 c) := by simp [pcs]
theorem LnS.wk (h : LnS t kd0 ch0 st0 S d σ L τ X items kd ch st hd sp nw) : WK t ch0 st0 τ := wk_of h.1 h.2.2.1 h.2.2.2.2.2.2.2.2.1
theorem LnS.append (h : LnS t kd0 ch0 st0 S d σ L τ X items kd ch st hd sp nw) (ht : isT t) {c : Nat} (hc : Chd kd0 ch0 st0 d c) (hs : stt st0 S c ≠ 1) (hb : pcs st0 L + pc8 (st0 c) ≤ 8) : ∃ τ2, T_append t (nI c) τ = some τ2 ∧ LnS t kd0 ch0 st0 S d σ (L ++ [c]) τ2 (X ++ [c]) (items ++ [[c]]) kd ch st hd sp nw := by
  obtain ⟨h1, h2, h3, h4, h5, h6, h7, h8, h9, h10, h11⟩ := h
  have hp := pc_pos _ hc.2.2.2.1 hc.2.2.2.2
  obtain ⟨τ2, k1, k2, k3⟩ := h1.append ht hc.2.1 (by omega)
  refine ⟨τ2, k1, k2, h2.tr k3, h3, h4.app ⟨Or.inl rfl, trivial⟩, ?_, ?_, ?_, fun i hi => by simp [h8 i hi], h9, ?_, ?_⟩
  · rw [pcs_app, pcs_one, List.length_append]; simp; omega
  · rw [pcs_app, pcs_one]; omega
  · rw [pcs_app, pcs_one]; omega
  · intro i hi
    obtain ⟨a, p, hp, b⟩ := h10 i hi
    exact ⟨a, p, by simp [hp], b⟩
  · intro p hp i hi h1
    rw [List.mem_append, List.mem_singleton] at hp
    rcases hp with hp | hp
    · exact h11 p hp i hi h1
    · subst hp
      exact absurd (stt_up (nd_sub d p hc.1 i hi).1 hc.2.2.2.2 h1) hs
theorem LnS.split (h : LnS t kd0 ch0 st0 S d σ L τ X items kd ch st hd sp nw) (hA0 : AT σ0 t kd0 ch0 st0) (ht : isT t) {U0 : List Nat} (hU : ∀ i, 8 ≤ i → i < 24 → ch0 i ≠ [] → i ∈ U0) (hU7 : U0.length ≤ 7) {c : Nat} (hc : Chd kd0 ch0 st0 d c) (h8 : 8 ≤ c) (hs : stt st0 S c = 1) (hb : pcs st0 L + pc8 (st0 c) ≤ 8) (hL : ∀ p ∈ L, WfD kd0 ch0 st0 d p ∧ st0 p &&& st0 c = 0) (wl : Bool) (x3 : Int32) (hx3 : x3 = if wl = true then 1 else 0) :
    (splitA kd0 ch0 st0 S d c = none ∧ ∃ τ2, T_splitToLine t (nI c) (nI S) x3 τ = some (0, τ2) ∧ WK t ch0 st0 τ2 ∧ RF t σ τ2) ∨
    ∃ x X2 τ2 kd2 ch2 st2 hd2 sp2 nw2, splitA kd0 ch0 st0 S d c = some x ∧ T_splitToLine t (nI c) (nI S) x3 τ = some (1, τ2) ∧ LnS t kd0 ch0 st0 S d σ (L ++ [c]) τ2 (X ++ X2) (items ++ (if wl = true then x else x.reverse)) kd2 ch2 st2 hd2 sp2 nw2 := by
  obtain ⟨h1, h2, h3, h4, h5, h6, h7, h8', h9, h10, h11⟩ := h
  have hns : ∀ i ∈ ndD ch0 d c, i ∉ sp := fun i hi hq => by
    obtain ⟨-, p, hp, hi2⟩ := h10 i hq
    exact nd_disj (hL p hp).1 hc.1 (hL p hp).2 hi2 hi
  rcases sl_ok (u := pcs st0 L) hA0 ht hU hU7 h1 h3 hc.1 h8 hc.2.1 hs hns h9 h5 h6 h7 hb wl x3 hx3 with ⟨e, τ2, g1, g2, g3⟩ | ⟨x, X2, τ2, kd2, ch2, st2, hd2, sp2, nw2, g1, g2, g3, g4, g5, g6, g7, g8, g9, g10, g11, g12, g13, g14, g15⟩
  · exact Or.inl ⟨e, τ2, g1, g2, h2.tr g3⟩
  · right
    refine ⟨x, if wl = true then X2 else X2.reverse, τ2, kd2, ch2, st2, hd2, sp2, nw2, g1, g2, g3, h2.tr g4, g5, ?_, ?_, ?_, ?_, ?_, g12, ?_, ?_⟩
    · refine (h4.mono g7).app ?_
      by_cases cw : wl = true
      · rw [if_pos cw, if_pos cw]; exact g6
      · rw [if_neg cw, if_neg cw]; exact g6.rev
    · rw [pcs_app, pcs_one, List.length_append]
      by_cases cw : wl = true
      · rw [if_pos cw]; omega
      · rw [if_neg cw, List.length_reverse]; omega
    · rw [pcs_app, pcs_one]; omega
    · rw [pcs_app, pcs_one]; omega
    · intro i hi
      rw [List.mem_append]
      rcases g11 i hi with q | q
      · exact Or.inl (h8' i q)
      · right
        by_cases cw : wl = true
        · rw [if_pos cw]; exact q
        · rw [if_neg cw]; exact List.mem_reverse.mpr q
    · intro i hi
      rcases g13 i hi with q | ⟨q1, q2⟩
      · obtain ⟨a, p, hp, b⟩ := h10 i q
        exact ⟨a, p, by simp [hp], b⟩
      · exact ⟨q2, c, by simp, q1⟩
    · intro p hp i hi hst
      rw [List.mem_append, List.mem_singleton] at hp
      rcases hp with hp | hp
      · exact g14 i (h11 p hp i hi hst)
      · subst hp; exact g15 i hi hst
theorem LnS.notin (h : LnS t kd0 ch0 st0 S d σ L τ X items kd ch st hd sp nw) {N : Nat} (hw : WfD kd0 ch0 st0 (d + 1) N) (h8 : 8 ≤ N) (hL : ∀ p ∈ L, p ∈ ch0 N) : N ∉ sp := fun hq => by
  obtain ⟨-, p, hp, hi2⟩ := h.2.2.2.2.2.2.2.2.2.1 N hq
  exact nd_notin hw h8 (hL p hp) hi2
theorem LnS.bundle (h : LnS t kd0 ch0 st0 S d σ L τ X items kd ch st hd sp nw) (hA0 : AT σ0 t kd0 ch0 st0) (ht : isT t) {U0 : List Nat} (hU : ∀ i, 8 ≤ i → i < 24 → ch0 i ≠ [] → i ∈ U0) (hU7 : U0.length ≤ 7) {N : Nat} (hw : WfD kd0 ch0 st0 (d + 1) N) (h8 : 8 ≤ N) (hn : N < 24) (hLN : ∀ p ∈ L, p ∈ ch0 N) (hb : pcs st0 L + pcs st0 (fE st0 S (ch0 N) 2) ≤ 8) : ∃ r τ2 τ3 x kd2 ch2 st2 nw2, T_bundle t (nI N) (nI S) 2 τ = some (r, τ2) ∧ T_append t r τ2 = some τ3 ∧ LnS t kd0 ch0 st0 S d σ (L ++ fE st0 S (ch0 N) 2) τ3 (X ++ x) (items ++ bun (fE st0 S (ch0 N) 2)) kd2 ch2 st2 hd sp nw2 := by
  have hNs := h.notin hw h8 hLN
  obtain ⟨h1, h2, h3, h4, h5, h6, h7, h8', h9, h10, h11⟩ := h
  obtain ⟨hne, hl2, hl8, hs256, hD, hor, d', hd', hch⟩ := node_ok hA0 hw h8 hn
  have hdd : d' = d := by omega
  subst hdd
  obtain ⟨r, τ2, kd2, ch2, st2, nw2, x, a1, a2, a3, a4, a5, a6, a7, a8, a9, a10⟩ := bundle_step (S := S) (q := 2) h1 ht h3 hU hU7 (by omega) h8 hn hNs (fun c hc => (hch c hc).2.2) hne (by omega)
  have hcap : x = [] ∨ X.length < 8 := by
    rcases a7 with ⟨e, -⟩ | ⟨c, e, -⟩
    · exact Or.inl e
    · right; rw [e] at a9; simp at a9; omega
  have hap : ∃ τ3, T_append t r τ2 = some τ3 ∧ RS τ3 t kd2 ch2 st2 (X ++ x) hd sp ∧ RF t τ2 τ3 := by
    rcases a7 with ⟨e1, e2⟩ | ⟨c, e1, e2, e3⟩
    · subst e1 e2
      exact ⟨τ2, T_append_none, by simpa using a2, RF.rf⟩
    · subst e1 e2
      refine a2.append ht e3 ?_
      rcases hcap with q | q
      · exact absurd q (by simp)
      · exact q
  obtain ⟨τ3, k1, k2, k3⟩ := hap
  refine ⟨r, τ2, τ3, x, kd2, ch2, st2, nw2, a1, k1, k2, (h2.tr a3).tr k3, a4, (h4.mono a5).app a6, ?_, ?_, ?_, ?_, h9, ?_, ?_⟩
  · rw [pcs_app, List.length_append]; omega
  · rw [pcs_app]; omega
  · rw [pcs_app]; omega
  · intro i hi
    rw [List.mem_append]
    rcases a10 i hi with q | q
    · exact Or.inl (h8' i q)
    · exact Or.inr q
  · intro i hi
    obtain ⟨a, p, hp, b⟩ := h10 i hi
    exact ⟨a, p, by simp [hp], b⟩
  · intro p hp i hi hst
    rw [List.mem_append] at hp
    rcases hp with hp | hp
    · exact h11 p hp i hi hst
    · exfalso
      have hpm := fE_mem.mp hp
      have := stt_up (nd_sub d' p (hch p hpm.1).1 i hi).1 (hch p hpm.1).2.2.2.2 hst
      omega
end

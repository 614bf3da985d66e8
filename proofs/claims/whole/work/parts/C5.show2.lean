def M2 (σ : Mem) (t : Nat) (g h : Nat → Int32) : Mem := mset (mset σ (t + 8) g) 3 h
section
variable {σ : Mem} {t : Nat} {kd : Nat → Bool} {ch : Nat → List Nat} {st : Nat → Nat} {root : Nat} {T : List Nat}
theorem T3 (ht : isT t) : ∀ a, t + a ≠ 3 := fun a => by unfold isT at ht; omega
theorem T30 (ht : isT t) : t ≠ 3 := by unfold isT at ht; omega
theorem M2_8 (ht : isT t) {g h : Nat → Int32} : M2 σ t g h (t + 8) = g := by unfold M2; rw [mset_ne (T3 ht 8), mset_eq]
theorem M2_3 {g h : Nat → Int32} : M2 σ t g h 3 = h := mset_eq
theorem M2_ne {g h : Nat → Int32} {k : Nat} (h3 : k ≠ 3) (h8 : k ≠ t + 8) : M2 σ t g h k = σ k := by unfold M2; rw [mset_ne h3, mset_ne h8]
theorem M2_p8 (ht : isT t) {g h : Nat → Int32} {i : Nat} {v : Int32} : mput (M2 σ t g h) (t + 8) i v = M2 σ t (upd g i v) h := by
  unfold M2; rw [mset_comm (T3 ht 8), mput_mset, mset_comm (T3 ht 8).symm]
theorem M2_p3 {g h : Nat → Int32} {i : Nat} {v : Int32} : mput (M2 σ t g h) 3 i v = M2 σ t g (upd h i v) := by
  unfold M2; rw [mput_mset]
theorem M2_at (ht : isT t) (hA : AT σ t kd ch st) {g h : Nat → Int32} : AT (M2 σ t g h) t kd ch st :=
  hA.same (M2_ne (T3 ht 1) (by omega)) (M2_ne (T3 ht 2) (by omega)) (M2_ne (T3 ht 3) (by omega)) (M2_ne (T3 ht 4) (by omega))
def Gd8 (T : List Nat) (h : Nat → Int32) (q : Nat) : Prop := h q = nI (T.getD q 0)
theorem gd_upd {h : Nat → Int32} {p q : Nat} {v : Nat} (hv : T.getD p 0 = v) (hq : Gd8 T h q ∨ q = p) : Gd8 T (upd h p (nI v)) q := by
  unfold Gd8 at hq ⊢
  rw [upd_at]
  by_cases e : q = p
  · rw [if_pos e, e, hv]
  · rw [if_neg e]; exact hq.resolve_right e
theorem show_in (hA : AT σ t kd ch st) (ht : isT t) {id s : Nat} (h8 : 8 ≤ id) (hid : id < 24) (hw : WfD kd ch st 8 id) (hk24 : ∀ e ∈ ch id, e < 24) (hcl : (ch id).length ≤ 8) (hnd : (ch id).Nodup) (hln : ∀ e ∈ ch id, σ (t + 9) e = nI (lnT kd ch e)) (hL : Loc T (txD kd ch 8) id s) (hT : T.length ≤ 40) (g h : Nat → Int32) : ∃ g' h', lp (fun s => T_show_b3 t 3 (nI id) s.1 s.2.1 s.2.2) fuel (nI (s + 1), 0, M2 σ t g h) = some (nI (s + 1 + ((ch id).map (lnT kd ch)).sum), M2 σ t g' h') ∧ (∀ k, k < (ch id).length → g' ((ch id).getD k 0) = nI (s + 1 + ofs (lnT kd ch) (ch id) k)) ∧ (∀ x, x ∉ ch id → g' x = g x) ∧ (∀ q, Gd8 T h q → Gd8 T h' q) ∧ ∀ k, k < (ch id).length → (ch id).getD k 0 < 8 → Gd8 T h' (s + 1 + ofs (lnT kd ch) (ch id) k) := by
  have key : ∃ r, lp (fun s => T_show_b3 t 3 (nI id) s.1 s.2.1 s.2.2) fuel (nI (s + 1), 0, M2 σ t g h) = some r ∧ ∃ g' h', r = (nI (s + 1 + ((ch id).map (lnT kd ch)).sum), M2 σ t g' h') ∧ (∀ k, k < (ch id).length → g' ((ch id).getD k 0) = nI (s + 1 + ofs (lnT kd ch) (ch id) k)) ∧ (∀ x, x ∉ ch id → g' x = g x) ∧ (∀ q, Gd8 T h q → Gd8 T h' q) ∧ ∀ k, k < (ch id).length → (ch id).getD k 0 < 8 → Gd8 T h' (s + 1 + ofs (lnT kd ch) (ch id) k) := by
    refine lp_for (ch id).length (fun i z => ∃ g' h', z = (nI (s + 1 + ofs (lnT kd ch) (ch id) i), nI i, M2 σ t g' h') ∧ (∀ k, k < i → g' ((ch id).getD k 0) = nI (s + 1 + ofs (lnT kd ch) (ch id) k)) ∧ (∀ x, x ∉ ch id → g' x = g x) ∧ (∀ q, Gd8 T h q → Gd8 T h' q) ∧ ∀ k, k < i → (ch id).getD k 0 < 8 → Gd8 T h' (s + 1 + ofs (lnT kd ch) (ch id) k)) _ _ 0 (by omega) ⟨g, h, rfl, fun k hk => by omega, fun _ _ => rfl, fun _ q => q, fun k hk => by omega⟩ (by omega) ?_ ?_
    · intro i z hi ⟨g', h', e, a1, a2, a3, a4⟩
      subst e
      left
      have hm := getD_mem hi
      have h24 := hk24 _ hm
      have hLc := loc_kid hw h8 hL hi
      have hne : ∀ k, k < i → (ch id).getD k 0 ≠ (ch id).getD i 0 := fun k hk e => by
        unfold List.Nodup at hnd
        rw [List.pairwise_iff_getElem] at hnd
        refine hnd k i (by omega) hi hk ?_
        rw [List.getD_eq_getElem?_getD, List.getD_eq_getElem?_getD, List.getElem?_eq_getElem (by omega), List.getElem?_eq_getElem hi] at e
        exact e
      have hA2 := M2_at (g := g') (h := h') ht hA
      have w1 : wr (M2 σ t g' h') (t + 8) (nI ((ch id).getD i 0)) (nI (s + 1 + ofs (lnT kd ch) (ch id) i)) = some (M2 σ t (upd g' ((ch id).getD i 0) (nI (s + 1 + ofs (lnT kd ch) (ch id) i))) h') := by
        rw [wrT (lnT8 ht) h24 (by omega), M2_p8 ht]
      have rl : ∀ g2 h2, rd (M2 σ t g2 h2) (t + 9) (nI ((ch id).getD i 0)) = some (nI (lnT kd ch ((ch id).getD i 0))) := fun g2 h2 => by
        rw [rdT (lnT9 ht) h24 (by omega), M2_ne (T3 ht 9) (by omega), hln _ hm]
      by_cases q : (ch id).getD i 0 < 8
      · obtain ⟨l1, l2⟩ := loc_leaf q hLc
        refine ⟨_, ?_, upd g' ((ch id).getD i 0) (nI (s + 1 + ofs (lnT kd ch) (ch id) i)), upd h' (s + 1 + ofs (lnT kd ch) (ch id) i) (nI (97 + (ch id).getD i 0)), rfl, ?_, ?_, ?_, ?_⟩
        · unfold T_show_b3
          refine ob (hA2.size ht hid) ?_
          refine ifn (nI_ge hi (by omega)) ?_
          refine ob (hA2.part ht hid hi) ?_
          refine ob w1 ?_
          refine ob (a := M2 σ t (upd g' ((ch id).getD i 0) (nI (s + 1 + ofs (lnT kd ch) (ch id) i))) (upd h' (s + 1 + ofs (lnT kd ch) (ch id) i) (nI (97 + (ch id).getD i 0)))) ?_ ?_
          · refine ifn (nI_ge (b := 8) q (by omega)) ?_
            refine ob (a := _) ?_ rfl
            rw [L_97, nI_add, T_setAt_eq (N := 40) rfl (by omega) (by omega), M2_p3]
          · refine ob (rl _ _) ?_
            refine lti (nI_add _ _) ?_
            refine lti (nI_1 _) ?_
            rw [ofs_s hi, Nat.add_assoc (s + 1)]
        · intro k hk
          rw [upd_at]
          by_cases qk : k = i
          · rw [if_pos (by rw [qk]), qk]
          · rw [if_neg (hne k (by omega))]; exact a1 k (by omega)
        · intro x hx
          rw [upd_at, if_neg (fun e => hx (by rw [e]; exact hm))]; exact a2 x hx
        · intro q2 hq2; exact gd_upd l1 (Or.inl (a3 q2 hq2))
        · intro k hk hk8
          by_cases qk : k = i
          · subst qk; exact gd_upd l1 (Or.inr rfl)
          · exact gd_upd l1 (Or.inl (a4 k (by omega) hk8))
      · refine ⟨_, ?_, upd g' ((ch id).getD i 0) (nI (s + 1 + ofs (lnT kd ch) (ch id) i)), h', rfl, ?_, ?_, a3, ?_⟩
        · unfold T_show_b3
          refine ob (hA2.size ht hid) ?_
          refine ifn (nI_ge hi (by omega)) ?_
          refine ob (hA2.part ht hid hi) ?_
          refine ob w1 ?_
          refine ob (a := M2 σ t (upd g' ((ch id).getD i 0) (nI (s + 1 + ofs (lnT kd ch) (ch id) i))) h') ?_ ?_
          · exact ifp (nI_le (a := 8) (by omega) (by omega)) rfl
          · refine ob (rl _ _) ?_
            refine lti (nI_add _ _) ?_
            refine lti (nI_1 _) ?_
            rw [ofs_s hi, Nat.add_assoc (s + 1)]
        · intro k hk
          rw [upd_at]
          by_cases qk : k = i
          · rw [if_pos (by rw [qk]), qk]
          · rw [if_neg (hne k (by omega))]; exact a1 k (by omega)
        · intro x hx
          rw [upd_at, if_neg (fun e => hx (by rw [e]; exact hm))]; exact a2 x hx
        · intro k hk hk8
          by_cases qk : k = i
          · subst qk; exact absurd hk8 q
          · exact a4 k (by omega) hk8
    · intro z ⟨g', h', e, a1, a2, a3, a4⟩
      subst e
      have hA2 := M2_at (g := g') (h := h') ht hA
      refine ⟨_, ?_, g', h', rfl, a1, a2, a3, a4⟩
      unfold T_show_b3
      refine ob (hA2.size ht hid) ?_
      refine ifp (nI_le (Nat.le_refl _) (by omega)) ?_
      rw [ofs_all]
  obtain ⟨r, k1, g', h', k2, k3⟩ := key
  exact ⟨g', h', by rw [k1, k2], k3⟩
/- of a node whose signs stand -/
def Ndn (kd : Nat → Bool) (ch : Nat → List Nat) (T : List Nat) (g h : Nat → Int32) (p : Nat) : Prop := ∃ s, g p = nI s ∧ Loc T (txD kd ch 8) p s ∧ (∀ k, k < (ch p).length → g ((ch p).getD k 0) = nI (s + 1 + ofs (lnT kd ch) (ch p) k)) ∧ Gd8 T h s ∧ Gd8 T h (s + 1 + ((ch p).map (lnT kd ch)).sum) ∧ ∀ k, k < (ch p).length → (ch p).getD k 0 < 8 → Gd8 T h (s + 1 + ofs (lnT kd ch) (ch p) k)
theorem show_out (h : DR σ t kd ch st root) (ht : isT t) (h8 : 8 ≤ root) (hT : T = txD kd ch 8 root) (hln : ∀ i, i < 8 + (ndD ch 8 root).length → σ (t + 9) i = nI (lnT kd ch i)) (g0 h0 : Nat → Int32) (hg0 : g0 root = nI 0) : ∃ g h', lp (fun s => T_show_b4 t 3 s.1 s.2) fuel (8, M2 σ t g0 h0) = some (M2 σ t g h') ∧ ∀ q, q < T.length → Gd8 T h' q := by
  obtain ⟨c, e1, f1, f2, f3, f4, f5, f6⟩ := h.facts
  rw [← e1] at hln
  have hA := h.1.1
  have hwr := h.2.1
  obtain ⟨hr8, hc1⟩ := f5 h8
  have hTl : T.length ≤ 40 := by
    have h1 := nd_lv 8 root hwr
    have h2 := lv_le8 hwr
    rw [hT, h1.2]; omega
  have hnd : ∀ p, 8 ≤ p → p < 8 + c → (ch p).Nodup := fun p q1 q2 => by
    have hw : Wf kd ch st p := ⟨_, (f6 p q1 q2).1⟩
    exact Dj_nodup ((Wf_node q1).mp hw).2.2.2.1 (fun x hx => (((f6 p q1 q2).2.2.2.2.2 x hx).2.2.2.1))
  have key : ∃ r, lp (fun s => T_show_b4 t 3 s.1 s.2) fuel (8, M2 σ t g0 h0) = some r ∧ ∃ g h', r = M2 σ t g h' ∧ ∀ p, 8 ≤ p → p < 8 + c → Ndn kd ch T g h' p := by
    refine lp_for c (fun j z => ∃ g h', z = (nI (8 + j), M2 σ t g h') ∧ (∀ i, 8 ≤ i → i < 8 + c → (i = root ∨ ∃ p, 8 ≤ p ∧ p < 8 + j ∧ i ∈ ch p) → ∃ s, g i = nI s ∧ Loc T (txD kd ch 8) i s) ∧ ∀ p, 8 ≤ p → p < 8 + j → Ndn kd ch T g h' p) _ _ 0 (by omega) ⟨g0, h0, rfl, ?_, fun p q1 q2 => by omega⟩ (by omega) ?_ ?_
    · intro i q1 q2 q3
      rcases q3 with q3 | ⟨p, p1, p2, -⟩
      · subst q3; exact ⟨0, hg0, [], [], by rw [hT]; simp, rfl⟩
      · omega
    · intro j z hj ⟨g, h', e, a1, a2⟩
      subst e
      left
      obtain ⟨w1, w2, w3, w4, w5, w6⟩ := f6 (8 + j) (by omega) (by omega)
      have hset : (8 + j = root ∨ ∃ p, 8 ≤ p ∧ p < 8 + j ∧ 8 + j ∈ ch p) := by
        rcases nd_parent 8 root (8 + j) ((f3 _).mpr ⟨by omega, by omega⟩) with q | ⟨p, hp, q⟩
        · exact Or.inl q
        · right
          obtain ⟨p1, p2⟩ := (f3 p).mp hp
          refine ⟨p, p1, ?_, q⟩
          rcases ((f6 p p1 p2).2.2.2.2.2 _ q).2.2.2.2 with u | u
          · omega
          · exact u.1
      obtain ⟨s, hs, hL⟩ := a1 (8 + j) (by omega) (by omega) hset
      obtain ⟨t1, t2, t3⟩ := loc_end w1 (by omega) hL
      have hlnd := lnT_node w1 (by omega : 8 ≤ 8 + j)
      have hk24 : ∀ e ∈ ch (8 + j), e < 24 ∧ σ (t + 9) e = nI (lnT kd ch e) := fun e he => by
        rcases (w6 e he).2.2.2.2 with u | u
        · exact ⟨by omega, hln e (by omega)⟩
        · exact ⟨by omega, hln e (by omega)⟩
      obtain ⟨g', h2, b1, b2, b3, b4, b5⟩ := show_in (T := T) hA ht (by omega) (by omega) w1 (fun e he => (hk24 e he).1) w4 (hnd _ (by omega) (by omega)) (fun e he => (hk24 e he).2) hL hTl g (upd h' s (nI (opS (kd (8 + j)))))
      have hA1 : ∀ x y, AT (M2 σ t x y) t kd ch st := fun x y => M2_at ht hA
      have hself : 8 + j ∉ ch (8 + j) := fun q => by
        rcases (w6 _ q).2.2.2.2 with u | u <;> omega
      have hg' : g' (8 + j) = nI s := by rw [b3 _ hself]; exact hs
      have ekind : ∀ x y, rd (M2 σ t x y) (t + 1) (nI (8 + j)) = some (if kd (8 + j) = true then 1 else 0) := fun x y => (hA1 x y).kind ht (by omega) w2
      have eo : (if (if kd (8 + j) = true then (1 : Int32) else 0) = 0 then (40 : Int32) else 91) = nI (opS (kd (8 + j))) := by cases kd (8 + j) <;> rfl
      have ec : (if (if kd (8 + j) = true then (1 : Int32) else 0) = 0 then (41 : Int32) else 93) = nI (clS (kd (8 + j))) := by cases kd (8 + j) <;> rfl
      have e5 : ∀ x y, (M2 σ t x y) t 5 = nI c := fun x y => by rw [M2_ne (T30 ht) (by omega)]; exact f2
      refine ⟨(nI (8 + (j + 1)), M2 σ t g' (upd h2 (s + 1 + ((ch (8 + j)).map (lnT kd ch)).sum) (nI (clS (kd (8 + j)))))), ?_, _, _, rfl, ?_, ?_⟩
      · unfold T_show_b4
        refine ifn (by show ¬ (8 + (M2 σ t g h') t 5) ≤ nI (8 + j); rw [e5, L_8, nI_add]; exact nI_ge (by omega) (by omega)) ?_
        refine ob (a := nI s) ?_ ?_
        · show rd (M2 σ t g h') _ _ = _
          rw [rdT (lnT8 ht) (by omega) (by omega), M2_8 ht, hs]
        refine ob (ekind _ _) ?_
        refine lti eo ?_
        refine ob (a := M2 σ t g (upd h' s (nI (opS (kd (8 + j)))))) ?_ ?_
        · show T_setAt 3 (nI s) _ (M2 σ t g h') = _
          rw [T_setAt_eq (N := 40) rfl (by omega) (by omega), M2_p3]
        refine lti (nI_1 _) ?_
        refine ob b1 ?_
        refine lti rfl ?_
        refine lti rfl ?_
        refine ob (ekind _ _) ?_
        refine lti ec ?_
        refine ob (a := M2 σ t g' (upd h2 (s + 1 + ((ch (8 + j)).map (lnT kd ch)).sum) (nI (clS (kd (8 + j)))))) ?_ ?_
        · show T_setAt 3 (nI (s + 1 + ((ch (8 + j)).map (lnT kd ch)).sum)) _ (M2 σ t g' h2) = _
          rw [T_setAt_eq (N := 40) rfl (by omega) (by omega), M2_p3]
        · exact lti (nI_1 _) rfl
      · intro i q1 q2 q3
        by_cases qi : i ∈ ch (8 + j)
        · obtain ⟨k, hk, ek⟩ := List.mem_iff_getElem.mp qi
          have ek2 : (ch (8 + j)).getD k 0 = i := by rw [List.getD_eq_getElem?_getD, List.getElem?_eq_getElem hk, ← ek]; rfl
          refine ⟨s + 1 + ofs (lnT kd ch) (ch (8 + j)) k, by rw [← ek2]; exact b2 k hk, ?_⟩
          rw [← ek2]; exact loc_kid w1 (by omega) hL hk
        · rw [b3 i qi]
          refine a1 i q1 q2 ?_
          rcases q3 with q3 | ⟨p, p1, p2, p3⟩
          · exact Or.inl q3
          · right
            refine ⟨p, p1, ?_, p3⟩
            by_cases qp : p = 8 + j
            · subst qp; exact absurd p3 qi
            · omega
      · intro p q1 q2
        have hg2 : ∀ q, Gd8 T (upd h' s (nI (opS (kd (8 + j))))) q → Gd8 T (upd h2 (s + 1 + ((ch (8 + j)).map (lnT kd ch)).sum) (nI (clS (kd (8 + j))))) q := fun q hq => gd_upd t2 (Or.inl (b4 q hq))
        by_cases qp : p = 8 + j
        · subst qp
          refine ⟨s, hg', hL, b2, hg2 s (gd_upd t1 (Or.inr rfl)), gd_upd t2 (Or.inr rfl), fun k hk hk8 => gd_upd t2 (Or.inl (b5 k hk hk8))⟩
        · obtain ⟨s', z1, z2, z3, z4, z5, z6⟩ := a2 p q1 (by omega)
          have hpn : p ∉ ch (8 + j) := fun q => by rcases (w6 _ q).2.2.2.2 with u | u <;> omega
          have hg3 : ∀ q, Gd8 T h' q → Gd8 T (upd h2 (s + 1 + ((ch (8 + j)).map (lnT kd ch)).sum) (nI (clS (kd (8 + j))))) q := fun q hq => hg2 q (gd_upd t1 (Or.inl hq))
          refine ⟨s', by rw [b3 p hpn]; exact z1, z2, fun k hk => ?_, hg3 _ z4, hg3 _ z5, fun k hk hk8 => hg3 _ (z6 k hk hk8)⟩
          have hkn : (ch p).getD k 0 ∉ ch (8 + j) := fun q => qp (par_uniq 8 root hwr p ((f3 p).mpr ⟨q1, by omega⟩) (8 + j) ((f3 _).mpr ⟨by omega, by omega⟩) _ (getD_mem hk) q)
          rw [b3 _ hkn]; exact z3 k hk
    · intro z ⟨g, h', e, a1, a2⟩
      subst e
      refine ⟨_, ?_, g, h', rfl, a2⟩
      unfold T_show_b4
      refine ifp ?_ rfl
      show (8 + (M2 σ t g h') t 5) ≤ nI (8 + c)
      have e5 : (M2 σ t g h') t 5 = nI c := by rw [M2_ne (T30 ht) (by omega)]; exact f2
      rw [e5, L_8, nI_add]; exact nI_le (Nat.le_refl _) (by omega)
  obtain ⟨r, k1, g, h', k2, k3⟩ := key
  refine ⟨g, h', by rw [k1, k2], ?_⟩
  have cov : ∀ n p, 8 ≤ p → p < 8 + c → 8 + c - p ≤ n → ∃ s, g p = nI s ∧ Loc T (txD kd ch 8) p s ∧ ∀ q, s ≤ q → q < s + lnT kd ch p → Gd8 T h' q := by
    intro n
    induction n with
    | zero => intro p q1 q2 q3; omega
    | succ n ih =>
      intro p q1 q2 q3
      obtain ⟨s, z1, z2, z3, z4, z5, z6⟩ := k3 p q1 q2
      obtain ⟨w1, w2, w3, w4, w5, w6⟩ := f6 p q1 q2
      have hlnd := lnT_node w1 q1
      refine ⟨s, z1, z2, fun q u1 u2 => ?_⟩
      by_cases v1 : q = s
      · rw [v1]; exact z4
      by_cases v2 : q = s + 1 + ((ch p).map (lnT kd ch)).sum
      · rw [v2]; exact z5
      obtain ⟨k, m1, m2, m3⟩ := ofs_find (f := lnT kd ch) (C := ch p) (ch p).length (q - (s + 1)) (Nat.le_refl _) (by rw [ofs_all]; omega)
      have hm := getD_mem m1
      by_cases v3 : (ch p).getD k 0 < 8
      · rw [(lnT_leaf v3).1] at m3
        rw [show q = s + 1 + ofs (lnT kd ch) (ch p) k by omega]
        exact z6 k m1 v3
      · rcases (w6 _ hm).2.2.2.2 with u | u
        · exact absurd u v3
        · obtain ⟨s', y1, y2, y3⟩ := ih _ (by omega) u.2 (by omega)
          have hb : s' < 2 ^ 31 ∧ s + 1 + ofs (lnT kd ch) (ch p) k < 2 ^ 31 := by
            obtain ⟨pre, post, e, hs⟩ := y2
            have h1 : T.length = pre.length + ((txD kd ch 8 ((ch p).getD k 0)).length + post.length) := by rw [e, List.length_append, List.length_append]
            have h2 := (loc_end w1 q1 z2).2.2
            have h3 := ofs_le (f := lnT kd ch) m1
            omega
          have hse : s' = s + 1 + ofs (lnT kd ch) (ch p) k := (nI_eq hb.1 hb.2).mp (by rw [← y1]; exact z3 k m1)
          exact y3 q (by omega) (by omega)
  obtain ⟨s, c1, c2, c3⟩ := cov c root h8 (by omega) (by omega)
  intro q hq
  have hlr : lnT kd ch root = T.length := by rw [hT]; rfl
  have hs0 : s = 0 := by
    obtain ⟨pre, post, e, hs⟩ := c2
    have h1 : T.length = pre.length + ((txD kd ch 8 root).length + post.length) := by rw [e, List.length_append, List.length_append]
    have h2 : T.length = (txD kd ch 8 root).length := by rw [hT]
    omega
  exact c3 q (by omega) (by omega)
theorem T_show_ok (h : DR σ t kd ch st root) (ht : isT t) : ∃ τ, T_show t 3 σ = some (nI (txD kd ch 8 root).length, τ) ∧ SgAt (τ 3) (txD kd ch 8 root) ∧ DR τ t kd ch st root ∧ ∀ k, k ≠ 3 → k ≠ t + 8 → k ≠ t + 9 → τ k = σ k := by
  obtain ⟨c, e1, f1, f2, f3, f4, f5, f6⟩ := h.facts
  have keep : ∀ τ : Mem, (∀ k, k ≠ 3 → k ≠ t + 8 → k ≠ t + 9 → τ k = σ k) → (∀ i, i < 8 → τ (t + 9) i = σ (t + 9) i) → DR τ t kd ch st root := fun τ hk h9 => by
    obtain ⟨⟨b1, b2, b3, b4, b5, b6, hd, b7⟩, b8, b9, b10, b11⟩ := h
    have ek : ∀ a, a ≤ 7 → τ (t + a) = σ (t + a) := fun a ha => hk _ (T3 ht a) (by omega) (by omega)
    refine ⟨⟨b1.same (ek 1 (by omega)) (ek 2 (by omega)) (ek 3 (by omega)) (ek 4 (by omega)), ?_, b3, b4, fun i hi => ?_, b6, hd, ?_, ?_⟩, b8, b9, ?_, b11⟩
    · rw [hk t (T30 ht) (by omega) (by omega)]; exact b2
    · obtain ⟨x1, x2, x3⟩ := b5 i hi; exact ⟨x1, x2, by rw [h9 i hi]; exact x3⟩
    · rw [hk t (T30 ht) (by omega) (by omega)]; exact b7.1
    · rw [ek 6 (by omega)]; exact b7.2
    · rw [hk t (T30 ht) (by omega) (by omega)]; exact b10
  by_cases h8 : root < 8
  · have hc := f4 h8
    have htx := (lnT_leaf (kd := kd) (ch := ch) h8).2
    refine ⟨mput σ 3 0 (nI (97 + root)), ?_, ?_, keep _ (fun k q _ _ => mput_ne k q) (fun i hi => by rw [mput_ne _ (T3 ht 9)]), fun k q _ _ => mput_ne k q⟩
    · rw [htx]
      unfold T_show
      refine ifp (by rw [f2, hc]; rfl) ?_
      refine ob (a := mput σ 3 0 (nI (97 + root))) ?_ rfl
      rw [h.1.2.1, L_97, nI_add]
      exact T_setAt_eq (N := 40) (p := 0) rfl (by omega) (by omega)
    · rw [htx]
      intro i hi
      simp at hi
      subst hi
      rw [mput_2, pk_us]; rfl
  · have h8 : 8 ≤ root := by omega
    obtain ⟨hr8, hc1⟩ := f5 h8
    obtain ⟨f, l1, l2, l3⟩ := show_len h ht h8 e1
    have hD1 : DR (mset σ (t + 9) f) t kd ch st root := keep _ (fun k _ _ q => mset_ne q) (fun i hi => by rw [mset_eq]; exact l3 i hi)
    have em : M2 (mset σ (t + 9) f) t (upd (σ (t + 8)) root 0) (σ 3) = mput (mset σ (t + 9) f) (t + 8) root 0 := by
      unfold M2
      have e8 : (mset σ (t + 9) f) (t + 8) = σ (t + 8) := mset_ne (by omega)
      have e3 : (mset (mset σ (t + 9) f) (t + 8) (upd (σ (t + 8)) root 0)) 3 = σ 3 := by rw [mset_ne (T3 ht 8).symm, mset_ne (T3 ht 9).symm]
      unfold mput
      rw [e8]
      conv => lhs; arg 3; rw [← e3]
      rw [mset_self]
    obtain ⟨g, h', m1, m2⟩ := show_out hD1 ht h8 rfl (fun i hi => by rw [mset_eq]; exact l2 i (by rw [e1]; exact hi)) (upd (σ (t + 8)) root 0) (σ 3) (by rw [pk_us]; rfl)
    have hfr : ∀ k, k ≠ 3 → k ≠ t + 8 → k ≠ t + 9 → M2 (mset σ (t + 9) f) t g h' k = σ k := fun k q1 q2 q3 => by rw [M2_ne q1 q2, mset_ne q3]
    refine ⟨M2 (mset σ (t + 9) f) t g h', ?_, ?_, keep _ hfr (fun i hi => by rw [M2_ne (T3 ht 9) (by omega), mset_eq]; exact l3 i hi), hfr⟩
    · unfold T_show
      refine ifn (by rw [f2]; exact nI_ne0 (by omega) (by omega)) ?_
      refine lti (b := nI (8 + c - 1)) (by rw [f2, L_8, nI_add, zz_dec (by omega)]) ?_
      refine ob l1 ?_
      have hr4 : (mset σ (t + 9) f) t 4 = nI root := by rw [mset_ne (by omega)]; exact h.1.2.1
      refine ob (a := mput (mset σ (t + 9) f) (t + 8) root 0) ?_ ?_
      · rw [hr4]; exact wrT (lnT8 ht) (by omega) (by omega)
      · rw [← em]
        refine ob m1 ?_
        refine ob (a := nI (lnT kd ch root)) ?_ rfl
        have e4 : (M2 (mset σ (t + 9) f) t g h') t 4 = nI root := by rw [M2_ne (T30 ht) (by omega)]; exact hr4
        rw [e4, rdT (lnT9 ht) (by omega) (by omega), M2_ne (T3 ht 9) (by omega), mset_eq, l2 root (by omega)]
    · rw [M2_3]
      intro i hi
      exact m2 i hi
end

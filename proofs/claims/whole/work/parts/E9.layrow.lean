def rsW (W : Nat → Nat) (c num : Nat) : Nat → Nat
  | 0 => num
  | j + 1 => rsW W c num j / W (8 + c - 1 - j)
def dgF (W : Nat → Nat) (c num id : Nat) : Nat := rsW W c num (8 + c - 1 - id) % W id
theorem rsW_le {W : Nat → Nat} {c num : Nat} : ∀ j, rsW W c num j ≤ num
  | 0 => Nat.le_refl _
  | j + 1 => Nat.le_trans (Nat.div_le_self _ _) (rsW_le j)
def wyF (kd : Nat → Bool) (ch : Nat → List Nat) (i : Nat) : Nat := wys (kd i) (ch i).length
theorem wyF_pos {kd : Nat → Bool} {ch : Nat → List Nat} {i : Nat} : 0 < wyF kd ch i := by
  unfold wyF wys
  by_cases c : kd i = true
  · rw [if_pos c]; omega
  · rw [if_neg c]; exact fac_pos _
theorem wyF_lt {kd : Nat → Bool} {ch : Nat → List Nat} {i : Nat} (h : (ch i).length ≤ 8) : wyF kd ch i < 2 ^ 31 := by
  unfold wyF wys
  by_cases c : kd i = true
  · rw [if_pos c]; omega
  · rw [if_neg c]; exact fac_lt _ h
section
variable {σ : Mem} {t : Nat} {kd : Nat → Bool} {ch : Nat → List Nat} {st : Nat → Nat} {root : Nat}
theorem lay_digits (h : DR σ t kd ch st root) (ht : isT t) {c num : Nat} (hc : c = (ndD ch 8 root).length) (hnum : num < 2 ^ 31) : ∃ f, lp (fun s => T_layRow_b1 t s.1 s.2.1 s.2.2) fuel (nI num, nI (8 + c - 1), σ) = some (mset σ (t + 10) f) ∧ ∀ i, 8 ≤ i → i < 8 + c → f i = nI (dgF (wyF kd ch) c num i) := by
  obtain ⟨c', e1, f1, f2, f3, f4, f5, f6⟩ := h.facts
  have e1 : c' = c := by rw [e1, hc]
  subst e1
  have hA := h.1.1
  have key : ∃ r, lp (fun s => T_layRow_b1 t s.1 s.2.1 s.2.2) fuel (nI num, nI (8 + c' - 1), σ) = some r ∧ ∃ f, r = mset σ (t + 10) f ∧ ∀ i, 8 ≤ i → i < 8 + c' → f i = nI (dgF (wyF kd ch) c' num i) := by
    refine lp_for c' (fun j s => ∃ f, s = (nI (rsW (wyF kd ch) c' num j), nI (8 + c' - 1 - j), mset σ (t + 10) f) ∧ ∀ i, 8 + c' - 1 - j < i → i < 8 + c' → f i = nI (dgF (wyF kd ch) c' num i)) _ _ 0 (by omega) ⟨σ (t + 10), by rw [mset_self]; rfl, fun i q1 q2 => by omega⟩ (by omega) ?_ ?_
    · intro j s hj ⟨f, e, hf⟩
      subst e
      left
      obtain ⟨id, hide⟩ : ∃ id, id = 8 + c' - 1 - j := ⟨_, rfl⟩
      have hid : 8 ≤ id ∧ id < 8 + c' := by omega
      rw [← hide] at hf ⊢
      obtain ⟨w1, w2, w3, w4, w5, w6⟩ := f6 id hid.1 hid.2
      have hAm : AT (mset σ (t + 10) f) t kd ch st := hA.same (mset_ne (by omega)) (mset_ne (by omega)) (mset_ne (by omega)) (mset_ne (by omega))
      have hW : T_ways t (nI id) (mset σ (t + 10) f) = some (nI (wyF kd ch id)) := hAm.ways ht (by omega) w2
      have hp := wyF_pos (kd := kd) (ch := ch) (i := id)
      have hl := wyF_lt (kd := kd) (ch := ch) (i := id) w4
      have hr : rsW (wyF kd ch) c' num j < 2 ^ 31 := Nat.lt_of_le_of_lt (rsW_le j) hnum
      have hdg : rsW (wyF kd ch) c' num j % wyF kd ch id = dgF (wyF kd ch) c' num id := by
        unfold dgF; rw [show 8 + c' - 1 - id = j by omega]
      refine ⟨(nI (rsW (wyF kd ch) c' num (j + 1)), nI (id - 1), mset σ (t + 10) (upd f id (nI (dgF (wyF kd ch) c' num id)))), ?_, _, by rw [show 8 + c' - 1 - (j + 1) = id - 1 by omega], fun i q1 q2 => ?_⟩
      · unfold T_layRow_b1
        refine ifn (nI_nlt (b := 8) (by omega) (by omega)) ?_
        refine ob hW ?_
        refine lti (if_neg (show ¬ nI (wyF kd ch id) < 1 from nI_nlt (b := 1) (by omega) hl)) ?_
        refine ob (rm_eq hr hp hl) ?_
        refine ob (a := mset σ (t + 10) (upd f id (nI (dgF (wyF kd ch) c' num id)))) ?_ ?_
        · show wr (mset σ (t + 10) f) (t + 10) (nI id) _ = _
          rw [wrT (lnT10 ht) (by omega) (by omega), mput_mset, hdg]
        refine ob (dv_eq hr hp hl) ?_
        refine lti (curr_dec (by omega)) ?_
        show some (Sum.inl (nI (rsW (wyF kd ch) c' num j / wyF kd ch id), _, _)) = some (Sum.inl (nI (rsW (wyF kd ch) c' num j / wyF kd ch (8 + c' - 1 - j)), _, _))
        rw [← hide]
      · rw [upd_at]
        by_cases q : i = id
        · rw [if_pos q, q]
        · rw [if_neg q]; exact hf i (by omega) q2
    · intro s ⟨f, e, hf⟩
      subst e
      refine ⟨_, ?_, f, rfl, fun i q1 q2 => hf i (by omega) q2⟩
      unfold T_layRow_b1
      exact ifp (nI_lt (b := 8) (by omega) (by omega)) rfl
  obtain ⟨r, k1, f, k2, k3⟩ := key
  exact ⟨f, by rw [k1, k2], k3⟩
theorem leaf_par : ∀ (d id : Nat), WfD kd ch st d id → ∀ x, (st id).testBit x = true → x = id ∨ ∃ p ∈ ndD ch d id, x ∈ ch p
  | 0, _, h, _, _ => h.elim
  | d + 1, id, h, x, hx => by
    have hw := h
    unfold WfD at hw
    by_cases h8 : id < 8
    · rw [if_pos h8] at hw
      rw [hw, Nat.testBit_two_pow, decide_eq_true_iff] at hx
      exact Or.inl hx.symm
    · rw [if_neg h8] at hw
      rw [hw.2.2.1] at hx
      obtain ⟨c, hc, hb⟩ := (orL_bit st _ x).mp hx
      right
      rcases leaf_par d c (hw.2.2.2.2 c hc) x hb with q | ⟨p, hp, q⟩
      · subst q; exact ⟨id, (nd_in h8).mpr (Or.inl rfl), hc⟩
      · exact ⟨p, (nd_in h8).mpr (Or.inr ⟨c, hc, hp⟩), q⟩
theorem lay_starts (h : DR σ t kd ch st root) (ht : isT t) {c : Nat} (hc : c = (ndD ch 8 root).length) {dg : Nat → Nat} (hdg : ∀ i, 8 ≤ i → i < 8 + c → σ (t + 10) i = nI (dg i) ∧ dg i < wyF kd ch i) (g0 : Nat → Int32) (hg0 : g0 root = nI 0) {R : List Nat} (hR : R = rwD kd ch dg 8 root) : ∃ g, lp (fun s => T_layRow_b2 t s.1 s.2) fuel (8, mset σ (t + 8) g0) = some (mset σ (t + 8) g) ∧ ∀ i, (i = root ∨ ∃ p ∈ ndD ch 8 root, i ∈ ch p) → ∃ s, g i = nI s ∧ Loc R (rwD kd ch dg 8) i s := by
  obtain ⟨c', e1, f1, f2, f3, f4, f5, f6⟩ := h.facts
  have e1 : c' = c := by rw [e1, hc]
  subst e1
  have hA := h.1.1
  have hwr := h.2.1
  have hdall : ∀ i, 8 ≤ i → i < 8 + c' → ∀ j ∈ ndD ch 8 i, (ch j).length ≤ 8 ∧ dg j < wys (kd j) (ch j).length := fun i q1 q2 j hj => by
    have hin : j ∈ ndD ch 8 root := Rc.nd hwr (Rc.tr 8 root i ((f3 i).mpr ⟨q1, q2⟩) ⟨8, hj⟩)
    obtain ⟨u1, u2⟩ := (f3 j).mp hin
    exact ⟨(f6 j u1 u2).2.2.2.1, (hdg j u1 u2).2⟩
  have h256r : st root < 256 := ((hA root h.1.2.2.1).2.2.2.1 (us_wf h.1.2.2.2.1)).1
  have key : ∃ r, lp (fun s => T_layRow_b2 t s.1 s.2) fuel (8, mset σ (t + 8) g0) = some r ∧ ∃ g, r = mset σ (t + 8) g ∧ ∀ i, (i = root ∨ ∃ p, 8 ≤ p ∧ p < 8 + c' ∧ i ∈ ch p) → ∃ s, g i = nI s ∧ Loc R (rwD kd ch dg 8) i s := by
    refine lp_for c' (fun j z => ∃ g, z = (nI (8 + j), mset σ (t + 8) g) ∧ ∀ i, (i = root ∨ ∃ p, 8 ≤ p ∧ p < 8 + j ∧ i ∈ ch p) → ∃ s, g i = nI s ∧ Loc R (rwD kd ch dg 8) i s) _ _ 0 (by omega) ⟨g0, rfl, fun i hi => ?_⟩ (by omega) ?_ ?_
    · rcases hi with q | ⟨p, p1, p2, -⟩
      · subst q; exact ⟨0, hg0, [], [], by rw [hR]; simp, rfl⟩
      · omega
    · intro j z hj ⟨g, e, hI⟩
      subst e
      left
      obtain ⟨w1, w2, w3, w4, w5, w6⟩ := f6 (8 + j) (by omega) (by omega)
      have hset : (8 + j = root ∨ ∃ p, 8 ≤ p ∧ p < 8 + j ∧ 8 + j ∈ ch p) := by
        rcases nd_parent 8 root (8 + j) ((f3 _).mpr ⟨by omega, by omega⟩) with q | ⟨p, hp, q⟩
        · exact Or.inl q
        · right
          obtain ⟨p1, p2⟩ := (f3 p).mp hp
          refine ⟨p, p1, ?_, q⟩
          rcases ((f6 p p1 p2).2.2.2.2.2 _ q).2.2.2.2 with u | u
          · omega
          · exact u.1
      obtain ⟨s, hs, hL⟩ := hI (8 + j) hset
      obtain ⟨d1, d2⟩ := hdg (8 + j) (by omega) (by omega)
      have hAm : AT (mset σ (t + 8) g) t kd ch st := M8_at hA
      have hs8 : s ≤ 8 := by
        obtain ⟨pre, post, e, hs2⟩ := hL
        have hRl : R.length = pc8 (st root) := by
          rw [hR]
          refine (rwD_len hwr ?_ h256r).1
          intro i hi
          obtain ⟨u1, u2⟩ := (f3 i).mp hi
          exact ⟨(f6 i u1 u2).2.2.2.1, (hdg i u1 u2).2⟩
        have := pc_le _ h256r
        have h2 := congrArg List.length e
        rw [List.length_append] at h2
        omega
      have hself : 8 + j ∉ ch (8 + j) := fun q => by rcases (w6 _ q).2.2.2.2 with u | u <;> omega
      have hnod : (ch (8 + j)).Nodup := Dj_nodup ((Wf_node (by omega)).mp ⟨_, w1⟩).2.2.2.1 (fun x hx => (w6 x hx).2.2.2.1)
      obtain ⟨g', l1, l2, l3⟩ := T_layParts_eq (way := dg (8 + j)) (s := s) hAm ht (by omega) w2 (fun e he => ⟨(w6 e he).2.1, fun q => hself (by rw [q] at he; exact he)⟩) hnod d2 (by rw [mset_eq]; exact hs) hs8
      have hmm : mset (mset σ (t + 8) g) (t + 8) g' = mset σ (t + 8) g' := mset_mset
      rw [hmm] at l1
      have hO := chO_ord (ch := ch) (nd := 8 + j) (b := kd (8 + j)) (way := dg (8 + j)) w4 d2
      have hwc : ∀ e ∈ ch (8 + j), WfD kd ch st 7 e := fun e he => by
        have := w1; unfold WfD at this; rw [if_neg (by omega)] at this; exact this.2.2.2.2 e he
      have hdc : ∀ e ∈ ch (8 + j), ∀ i ∈ ndD ch 7 e, (ch i).length ≤ 8 ∧ dg i < wys (kd i) (ch i).length := fun e he i hi => hdall (8 + j) (by omega) (by omega) i (by rw [ndD_node (by omega)]; exact List.mem_cons_of_mem _ (List.mem_flatMap.mpr ⟨e, he, hi⟩))
      have hrw : rwD kd ch dg 8 (8 + j) = (chO ch (8 + j) (ordL (kd (8 + j)) (ch (8 + j)).length (dg (8 + j)))).flatMap (rwD kd ch dg 8) := by
        rw [show (8 : Nat) = 7 + 1 from rfl, rwD_node (by omega)]
        refine flatMap_congr' (fun e he => ?_)
        have he2 := (OrdR_mem hO).mp he
        rcases rwD_fuel (dg := dg) 7 e (hwc e he2) with q | q
        · exact q.symm
        · exact absurd (hdc e he2) q
      have hlenc : ∀ e ∈ chO ch (8 + j) (ordL (kd (8 + j)) (ch (8 + j)).length (dg (8 + j))), (rwD kd ch dg 8 e).length = pc8 (st e) := fun e he => by
        have he2 := (OrdR_mem hO).mp he
        have hw8 := (w6 e he2).1
        refine (rwD_len hw8 ?_ (w6 e he2).2.2.1).1
        rw [(fuel_e (hwc e he2) (by omega : 7 ≤ 8)).1]
        exact hdc e he2
      have e5 : (mset σ (t + 8) g) t 5 = nI c' := by rw [mset_ne (by omega)]; exact f2
      refine ⟨(nI (8 + (j + 1)), mset σ (t + 8) g'), ?_, g', rfl, fun i hi => ?_⟩
      · unfold T_layRow_b2
        refine ifn (by show ¬ (8 + (mset σ (t + 8) g) t 5) ≤ nI (8 + j); rw [e5, L_8, nI_add]; exact nI_ge (by omega) (by omega)) ?_
        refine ob (a := nI (dg (8 + j))) ?_ ?_
        · show rd (mset σ (t + 8) g) _ _ = _
          rw [rdT (lnT10 ht) (by omega) (by omega), mset_ne (by omega), d1]
        refine ob l1 ?_
        exact lti (nI_1 _) rfl
      · by_cases qi : i ∈ ch (8 + j)
        · have hi2 := (OrdR_mem hO).mpr qi
          obtain ⟨k, hk, ek⟩ := List.mem_iff_getElem.mp hi2
          have hkl : k < (ch (8 + j)).length := by rw [(OrdR_perm hO).length_eq] at hk; exact hk
          have ek2 : (chO ch (8 + j) (ordL (kd (8 + j)) (ch (8 + j)).length (dg (8 + j)))).getD k 0 = i := by rw [List.getD_eq_getElem?_getD, List.getElem?_eq_getElem hk, ← ek]; rfl
          refine ⟨s + pcs st ((chO ch (8 + j) (ordL (kd (8 + j)) (ch (8 + j)).length (dg (8 + j)))).take k), by rw [← ek2]; exact l2 k hkl, ?_⟩
          rw [← ek2]
          exact loc_part hrw hL hk hlenc
        · rw [l3 i qi, mset_eq]
          refine hI i ?_
          rcases hi with q | ⟨p, p1, p2, p3⟩
          · exact Or.inl q
          · right
            refine ⟨p, p1, ?_, p3⟩
            by_cases qp : p = 8 + j
            · subst qp; exact absurd p3 qi
            · omega
    · intro z ⟨g, e, hI⟩
      subst e
      refine ⟨_, ?_, g, rfl, hI⟩
      unfold T_layRow_b2
      refine ifp ?_ rfl
      show (8 + (mset σ (t + 8) g) t 5) ≤ nI (8 + c')
      have e5 : (mset σ (t + 8) g) t 5 = nI c' := by rw [mset_ne (by omega)]; exact f2
      rw [e5, L_8, nI_add]; exact nI_le (Nat.le_refl _) (by omega)
  obtain ⟨r, k1, g, k2, k3⟩ := key
  refine ⟨g, by rw [k1, k2], fun i hi => k3 i ?_⟩
  rcases hi with q | ⟨p, hp, q⟩
  · exact Or.inl q
  · obtain ⟨u1, u2⟩ := (f3 p).mp hp
    exact Or.inr ⟨p, u1, u2, q⟩
end

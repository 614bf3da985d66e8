section
variable {τ : Mem} {kd : Nat → Bool} {ch : Nat → List Nat} {st : Nat → Nat} {root c : Nat} {dg : Nat → Nat}
theorem rwD_self {N : Nat} (hw : WfD kd ch st 8 N) (h8 : 8 ≤ N) (hd : ∀ i ∈ ndD ch 8 N, (ch i).length ≤ 8 ∧ dg i < wys (kd i) (ch i).length) : rwD kd ch dg 8 N = (chO ch N (ordL (kd N) (ch N).length (dg N))).flatMap (rwD kd ch dg 8) := by
  have hself : N ∈ ndD ch 8 N := by rw [ndD_node (by omega)]; exact List.mem_cons_self
  obtain ⟨w4, d2⟩ := hd N hself
  have hO := chO_ord (ch := ch) (nd := N) (b := kd N) (way := dg N) w4 d2
  have hwc : ∀ e ∈ ch N, WfD kd ch st 7 e := fun e he => by
    have := hw; unfold WfD at this; rw [if_neg (by omega)] at this; exact this.2.2.2.2 e he
  have hdc : ∀ e ∈ ch N, ∀ i ∈ ndD ch 7 e, (ch i).length ≤ 8 ∧ dg i < wys (kd i) (ch i).length := fun e he i hi => hd i (by rw [ndD_node (by omega)]; exact List.mem_cons_of_mem _ (List.mem_flatMap.mpr ⟨e, he, hi⟩))
  rw [show (8 : Nat) = 7 + 1 from rfl, rwD_node (by omega)]
  refine flatMap_congr' (fun e he => ?_)
  have he2 := (OrdR_mem hO).mp he
  rcases rwD_fuel (dg := dg) 7 e (hwc e he2) with q | q
  · exact q.symm
  · exact absurd (hdc e he2) q
def RFI (τ σ : Mem) (kd : Nat → Bool) (ch : Nat → List Nat) (st : Nat → Nat) (dg : Nat → Nat) (root : Nat) (T R : List Nat) : Prop := (∀ k, k ≠ 55 → k ≠ 57 → k ≠ 58 → σ k = τ k) ∧ SgAt (σ 57) T ∧ SgAt (σ 55) (R.map st) ∧ T ++ R.reverse.flatMap (rwD kd ch dg 8) = rwD kd ch dg 8 root ∧ ∀ x ∈ R, WfD kd ch st 8 x ∧ st x < 256 ∧ st x ≠ 0 ∧ ∀ i ∈ ndD ch 8 x, i ∈ ndD ch 8 root
def rfm (kd : Nat → Bool) (ch : Nat → List Nat) (R : List Nat) : Nat := (R.reverse.flatMap (txD kd ch 8)).length
theorem RFI.len {σ : Mem} {T R : List Nat} (hN : NF kd ch st root c) (hdg : ∀ i ∈ ndD ch 8 root, dg i < wyF kd ch i) (h : RFI τ σ kd ch st dg root T R) : T.length + R.length ≤ 8 := by
  obtain ⟨n1, n2, n3, n4, n5, n6⟩ := hN
  obtain ⟨-, -, -, h4, h5⟩ := h
  have hall : ∀ i ∈ ndD ch 8 root, (ch i).length ≤ 8 ∧ dg i < wys (kd i) (ch i).length := fun i hi => ⟨(n6 i hi).2.2.2.1, hdg i hi⟩
  have e := congrArg List.length h4
  rw [List.length_append, (rwD_len n1 hall n2).1] at e
  have hp := pc_le _ n2
  have : ∀ R : List Nat, (∀ x ∈ R, WfD kd ch st 8 x ∧ st x < 256 ∧ st x ≠ 0 ∧ ∀ i ∈ ndD ch 8 x, i ∈ ndD ch 8 root) → R.length ≤ (R.flatMap (rwD kd ch dg 8)).length := by
    intro R
    induction R with
    | nil => intro _; simp
    | cons x R ih =>
      intro hR
      obtain ⟨a1, a2, a3, a4⟩ := hR x (by simp)
      have := ih (fun y hy => hR y (by simp [hy]))
      have l := (rwD_len a1 (fun i hi => hall i (a4 i hi)) a2).1
      have := pc_pos _ a2 a3
      rw [List.flatMap_cons, List.length_append, List.length_cons]
      omega
  have := this R.reverse (fun x hx => h5 x (by simpa using hx))
  rw [List.length_reverse] at this
  omega
theorem fr_stepT {σ : Mem} {T R : List Nat} {x : Nat} (hx : x < 8) (h : RFI τ σ kd ch st dg root T (R ++ [x])) (hl : T.length + R.length < 8) : ∃ σ2, M_findsRow_b3 (nI (R.length + 1)) (nI T.length) σ = some (.inl (nI R.length, nI (T.length + 1), σ2)) ∧ RFI τ σ2 kd ch st dg root (T ++ [x]) R := by
  obtain ⟨h1, h2, h3, h4, h5⟩ := h
  obtain ⟨a1, a2, a3, a4⟩ := h5 x (by simp)
  have hst : st x = 2 ^ x := by unfold WfD at a1; rw [if_pos hx] at a1; exact a1
  rw [List.map_append] at h3
  obtain ⟨p1, p2⟩ := SgAt.pop (T := R.map st) (x := st x) h3
  rw [List.length_map, hst] at p2
  obtain ⟨b1, b2, b3⟩ := lst_pow x hx
  refine ⟨mput σ 57 T.length (nI x), ?_, fun k q1 q2 q3 => by unfold mput; rw [mset_ne q2]; exact h1 k q1 q2 q3, ?_, ?_, ?_, fun y hy => h5 y (by simp [hy])⟩
  · unfold M_findsRow_b3
    refine ifn (zz_pos (by omega)) ?_
    refine lti (b := nI R.length) (by rw [curr_dec (by omega), Nat.add_sub_cancel]) ?_
    refine ob (a := nI (2 ^ x)) (by rw [rdT (N := 64) rfl (by omega) (by omega), p2]) ?_
    refine ob (M_many_eq b2) ?_
    refine ob (a := (nI R.length, nI (T.length + 1), mput σ 57 T.length (nI x))) ?_ rfl
    refine ifp (by rw [L_1, (many_one _ b2).mpr ⟨x, hx, rfl⟩]) ?_
    refine ob (a := nI x) (by rw [M_least_eq b2 b3, b1]) ?_
    refine ob (a := mput σ 57 T.length (nI x)) (by rw [wrT (N := 8) rfl (by omega) (by omega)]) ?_
    exact lti (nI_1 _) rfl
  · rw [mput_eq]; exact h2.push
  · have : mput σ 57 T.length (nI x) 55 = σ 55 := by unfold mput; rw [mset_ne (by omega)]
    rw [this]; exact p1
  · rw [rev_split] at h4
    have : rwD kd ch dg 8 x = [x] := by unfold rwD; rw [if_pos hx]
    rw [this] at h4
    rw [List.append_assoc]; exact h4
theorem fr_stepN {σ : Mem} {T R : List Nat} {x : Nat} (hx : 8 ≤ x) (hN : NF kd ch st root c) (hA : NdA τ kd ch st (ndD ch 8 root)) (h7 : τ 43 7 = nI c) (hdg : ∀ i ∈ ndD ch 8 root, dg i < wyF kd ch i) (h56 : ∀ j, j < c → τ 56 j = nI (dg (8 + j))) (h : RFI τ σ kd ch st dg root T (R ++ [x])) (hl : T.length + R.length < 8) : ∃ σ2 R2, M_findsRow_b3 (nI (R.length + 1)) (nI T.length) σ = some (.inl (nI R2.length, nI T.length, σ2)) ∧ RFI τ σ2 kd ch st dg root T R2 ∧ rfm kd ch R2 < rfm kd ch (R ++ [x]) := by
  obtain ⟨h1, h2, h3, h4, h5⟩ := h
  obtain ⟨a1, a2, a3, a4⟩ := h5 x (by simp)
  obtain ⟨n1, n2, n3, n4, n5, n6⟩ := hN
  have hself : x ∈ ndD ch 8 x := by rw [ndD_node (by omega)]; exact List.mem_cons_self
  obtain ⟨m1, m2, m3, m4, m5, m6⟩ := n6 x (a4 x hself)
  obtain ⟨at_, hat⟩ : ∃ at_, x = 8 + at_ := ⟨x - 8, by omega⟩
  have hatc : at_ < c := by omega
  have hg := n5 at_ hatc
  rw [← hat] at hg
  rw [List.map_append] at h3
  obtain ⟨p1, p2⟩ := SgAt.pop (T := R.map st) (x := st x) h3
  rw [List.length_map] at p2
  have hAs : NdA σ kd ch st (ndD ch 8 root) := hA.same (h1 _ (by omega) (by omega) (by omega)) (h1 _ (by omega) (by omega) (by omega)) (h1 _ (by omega) (by omega) (by omega)) (h1 _ (by omega) (by omega) (by omega))
  obtain ⟨g1, g2, g3, g4⟩ := hAs at_ (by omega)
  rw [hg] at g1 g2 g3 g4
  have hno : M_nodeOf (nI (st x)) σ = some (nI at_) := by
    have := M_nodeOf_eq hAs (by rw [h1 43 (by omega) (by omega) (by omega), h7, n3]) (by omega) (fun y hy => (n6 y hy).2.2.2.2.1) (nd_st_inj n1) (by
      have e : ndD ch 8 root = List.range' 8 c := by
        apply List.ext_getElem?
        intro i
        by_cases hi : i < c
        · have q := n5 i hi
          rw [List.getD_eq_getElem?_getD, List.getElem?_eq_getElem (by omega)] at q
          rw [List.getElem?_eq_getElem (by omega), List.getElem?_range' hi]
          simp at q ⊢; exact q
        · rw [List.getElem?_eq_none (by omega), List.getElem?_eq_none (by rw [List.length_range']; omega)]
      rw [e]; exact List.nodup_range') (j := at_) (by omega)
    rw [hg] at this
    exact this
  have hdx := hdg x (a4 x hself)
  obtain ⟨f, o1, o2, o3, o4⟩ := M_orders_eq (τ := σ) (at_ := at_) (n := (ch x).length) (way := dg x) (b := kd x) (by omega) m4 g2 g3 (by rw [h1 56 (by omega) (by omega) (by omega), h56 at_ hatc, ← hat]) hdx
  obtain ⟨p, q1, q2⟩ := fr_push (τ := mset σ 58 f) (st := st) (ch := ch) (at_ := at_) (r := R.length) (m := (ch x).length) (N := x) (O := ordL (kd x) (ch x).length (dg x)) (S := R.map st) o3 o4 (fun i hi => by rw [mset_eq]; exact o2 i hi) (by rw [mset_ne (by omega)]; exact g4) m4 (by omega) (by omega) (by rw [mset_ne (by omega)]; exact p1) (by rw [List.length_map])
  have hO := chO_ord (ch := ch) (nd := x) (b := kd x) (way := dg x) m4 hdx
  have hclen : (chO ch x (ordL (kd x) (ch x).length (dg x))).length = (ch x).length := (OrdR_perm hO).length_eq
  obtain ⟨t1, t2, t3⟩ := tx_node a1 hx
  refine ⟨mset (mset σ 58 f) 55 p, R ++ (chO ch x (ordL (kd x) (ch x).length (dg x))).reverse, ?_, ⟨fun k u1 u2 u3 => by rw [mset_ne u1, mset_ne u3]; exact h1 k u1 u2 u3, ?_, ?_, ?_, ?_⟩, ?_⟩
  · rw [List.length_append, List.length_reverse, hclen]
    unfold M_findsRow_b3
    refine ifn (zz_pos (by omega)) ?_
    refine lti (b := nI R.length) (by rw [curr_dec (by omega), Nat.add_sub_cancel]) ?_
    refine ob (a := nI (st x)) (by rw [rdT (N := 64) rfl (by omega) (by omega), p2]) ?_
    refine ob (M_many_eq a2) ?_
    refine ob (a := (nI (R.length + (ch x).length), nI T.length, mset (mset σ 58 f) 55 p)) ?_ rfl
    refine ifn (zz_ne a2 (many_two a1 hx a2)) ?_
    refine ob hno ?_
    refine ob o1 ?_
    refine ob (a := nI (ch x).length) (by rw [rdT (N := 8) rfl (by omega) (by omega), mset_ne (by omega), g3]) ?_
    refine lti rfl ?_
    refine ob q1 ?_
    rfl
  · rw [mset_ne (by omega), mset_ne (by omega)]; exact h2
  · rw [mset_eq, List.map_append]; exact q2
  · rw [rev_split] at h4
    rw [List.reverse_append, List.reverse_reverse, List.flatMap_append, ← rwD_self a1 hx (fun i hi => ⟨(n6 i (a4 i hi)).2.2.2.1, hdg i (a4 i hi)⟩)]
    exact h4
  · intro y hy
    rw [List.mem_append, List.mem_reverse] at hy
    rcases hy with w | w
    · exact h5 y (by simp [w])
    · have w2 := (OrdR_mem hO).mp w
      refine ⟨t3 y w2, (m6 y w2).1, (m6 y w2).2, fun i hi => a4 i ?_⟩
      rw [t2]
      exact List.mem_cons_of_mem _ (List.mem_flatMap.mpr ⟨y, w2, hi⟩)
  · unfold rfm
    rw [rev_split, List.reverse_append, List.reverse_reverse, List.flatMap_append, List.length_append, List.length_append, t1]
    have := ((OrdR_perm hO).flatMap_right (txD kd ch 8)).length_eq
    rw [this]
    simp only [List.length_cons, List.length_append]
    omega
theorem M_findsRow_ok (hN : NF kd ch st root c) (hA : NdA τ kd ch st (ndD ch 8 root)) (h7 : τ 43 7 = nI c) {n : Nat} (hn : τ 43 0 = nI n) (hn8 : n ≤ 8) (hroot : st root = fullM n) (hr0 : st root ≠ 0) {num : Nat} (hnum : num < 2 ^ 31) : ∃ τ', M_findsRow (nI num) τ = some τ' ∧ PubM τ τ' ∧ SgAt (τ' 57) (rwD kd ch (dgF (wyF kd ch) c num) 8 root) := by
  obtain ⟨f, d1, d2⟩ := fr_digits hN hA hnum
  have hN' := hN
  obtain ⟨n1, n2, n3, n4, n5, n6⟩ := hN'
  obtain ⟨τ1, hτ1⟩ : ∃ τ1, τ1 = mset τ 56 f := ⟨_, rfl⟩
  have hdg : ∀ i ∈ ndD ch 8 root, dgF (wyF kd ch) c num i < wyF kd ch i := fun i _ => Nat.mod_lt _ wyF_pos
  have hA1 : NdA τ1 kd ch st (ndD ch 8 root) := by rw [hτ1]; exact hA.same (mset_ne (by omega)) (mset_ne (by omega)) (mset_ne (by omega)) (mset_ne (by omega))
  have h71 : τ1 43 7 = nI c := by rw [hτ1, mset_ne (by omega)]; exact h7
  have h56 : ∀ j, j < c → τ1 56 j = nI (dgF (wyF kd ch) c num (8 + j)) := fun j hj => by rw [hτ1, mset_eq]; exact d2 j hj
  have hS : RFI τ1 (mput τ1 55 0 (nI (fullM n))) kd ch st (dgF (wyF kd ch) c num) root [] [root] := by
    refine ⟨fun k q1 _ _ => by unfold mput; rw [mset_ne q1], fun i hi => by simp at hi, ?_, by simp, fun x hx => ?_⟩
    · rw [mput_eq]
      intro i hi
      have : i = 0 := by simp at hi; exact hi
      subst this
      rw [pk_us]
      show nI (fullM n) = nI (st root)
      rw [hroot]
    · rw [List.mem_singleton] at hx; subst hx; exact ⟨n1, n2, hr0, fun i hi => hi⟩
  have key : ∃ r, lp (fun s => M_findsRow_b3 s.1 s.2.1 s.2.2) fuel (1, 0, mput τ1 55 0 (nI (fullM n))) = some r ∧ RFI τ1 r kd ch st (dgF (wyF kd ch) c num) root (rwD kd ch (dgF (wyF kd ch) c num) 8 root) [] := by
    refine lp_dn (fun m s => ∃ T R σ, s = (nI R.length, nI T.length, σ) ∧ RFI τ1 σ kd ch st (dgF (wyF kd ch) c num) root T R ∧ m = rfm kd ch R) _ ?_ (rfm kd ch [root]) _ ⟨[], [root], _, rfl, hS, rfl⟩ ?_
    · rintro m s ⟨T, R, σ, rfl, h, rfl⟩
      have hlen := h.len hN hdg
      rcases List.eq_nil_or_concat R with e | ⟨R0, x, e⟩
      · right
        subst e
        refine ⟨σ, ?_, ?_⟩
        · show M_findsRow_b3 (nI 0) _ σ = _
          unfold M_findsRow_b3
          exact ifp (by decide) rfl
        · have h4 := h.2.2.2.1
          simp at h4
          rw [h4] at h
          exact h
      · left
        rw [List.concat_eq_append] at e
        subst e
        rw [List.length_append, List.length_singleton] at hlen
        rw [List.length_append, List.length_singleton]
        by_cases hx : x < 8
        · obtain ⟨σ2, e1, e2⟩ := fr_stepT hx h (by omega)
          refine ⟨_, rfm kd ch R0, ?_, e1, T ++ [x], R0, σ2, by rw [List.length_append, List.length_singleton], e2, rfl⟩
          unfold rfm
          rw [rev_split, List.length_append]
          have : txD kd ch 8 x = [97 + x] := by unfold txD; rw [if_pos hx]
          rw [this, List.length_singleton]
          omega
        · obtain ⟨σ2, R2, e1, e2, e3⟩ := fr_stepN (by omega) hN hA1 h71 hdg h56 h (by omega)
          exact ⟨_, rfm kd ch R2, e3, e1, T, R2, σ2, rfl, e2, rfl⟩
    · have : rfm kd ch [root] = (txD kd ch 8 root).length := by unfold rfm; simp
      rw [this]
      obtain ⟨d, e⟩ := nd_lv 8 root n1
      have := lv_le8 n1
      omega
  obtain ⟨r, k1, k2⟩ := key
  refine ⟨r, ?_, ?_, k2.2.1⟩
  · unfold M_findsRow
    refine lti (b := nI c - 1) (by rw [h7]) ?_
    refine ob d1 ?_
    rw [← hτ1]
    refine ob (a := mput τ1 55 0 (nI (fullM n))) ?_ ?_
    · rw [M_all_eq (by rw [hτ1, mset_ne (by omega)]; exact hn) hn8]
      exact wrT (N := 64) (i := 0) rfl (by omega) (by omega)
    exact ob k1 rfl
  · have hk : ∀ k, k ≠ 55 → k ≠ 57 → k ≠ 58 → k ≠ 56 → r k = τ k := fun k u1 u2 u3 u4 => by rw [k2.1 k u1 u2 u3, hτ1, mset_ne u4]
    exact PubM.of (fun i hi => by rw [hk 43 (by omega) (by omega) (by omega) (by omega)]) (fun k hk' => hk k (by omega) (by omega) (by omega) (by omega))
end

section
variable {t t1 : Nat} {kd1 : Nat → Bool} {st1 : Nat → Nat}
theorem flat_perm {f : Nat → List Nat} {A B : List Nat} (h : A.Perm B) : (A.flatMap f).length = (B.flatMap f).length := by
  rw [len_flat, len_flat]; exact (h.map _).sum_nat
theorem place_end {d id m : Nat} {σ : Mem} {ch1 : Nat → List Nat} {kd : Nat → Bool} {ch : Nat → List Nat} {st : Nat → Nat} {C : List Nat} (hw : WfD kd1 ch1 st1 (d + 1) id) (h8 : 8 ≤ id) (hlt : st1 id < 256) (hO : OrdR (kd1 id) (ch1 id) C) (hCan : CanL (kd1 id) st1 C) (hcl : C.length ≤ 8) {τ : Mem} (h : PlI t t1 kd1 st1 d id m σ ch1 kd ch st C C.length τ) (hm7 : m + 1 + (C.flatMap (ndD ch1 d)).length ≤ 7) : PlR t t1 kd1 st1 (d + 1) id m σ ch1 kd ch st (some (nI (8 + m), τ)) := by
  obtain ⟨ch1', kd', ch', st', L, mj, a1, a2, a3, a4, a5, a6, a7, a8, a9, a10, a11, a12, a13, a14, a15, a16, a17, a18⟩ := h
  rw [List.take_length] at a3 a4 a7 a10 a16
  have hC : C.Perm (ch1 id) := OrdR_perm hO
  have hwf : Wf kd1 ch1 st1 id := ⟨_, hw⟩
  obtain ⟨g1, g2, g3, gD, gW⟩ := (Wf_node h8).mp hwf
  have hcnt : (ndD ch1 (d + 1) id).length = 1 + (C.flatMap (ndD ch1 d)).length := by
    rw [flat_perm hC]
    unfold ndD; rw [if_neg (by omega), List.length_cons]; omega
  have hmj : mj = m + (ndD ch1 (d + 1) id).length := by rw [hcnt]; omega
  have hLl := hC.length_eq
  have hor1 : orL st1 C = st1 id := by rw [g3]; exact orL_perm (fun c => hC.mem_iff)
  have hLst : ∀ e ∈ L, uf st' (8 + m) (st1 id) e = st' e := fun e he => uf_n (a17 e he).2.1
  have hmapF : C.map st1 = L.map (uf st' (8 + m) (st1 id)) := by rw [a16.map]; exact (List.map_congr_left hLst).symm
  have hkeep : ∀ e ∈ L, WfD (uf kd' (8 + m) (kd1 id)) (uf ch' (8 + m) L) (uf st' (8 + m) (st1 id)) d e ∧ (∀ r, Fr kd' ch' e r ↔ Fr (uf kd' (8 + m) (kd1 id)) (uf ch' (8 + m) L) e r) ∧ ndD (uf ch' (8 + m) L) d e = ndD ch' d e := fun e he => by
    obtain ⟨y1, y2, y3⟩ := a17 e he
    have hs : ∀ i ∈ ndD ch' d e, uf kd' (8 + m) (kd1 id) i = kd' i ∧ uf ch' (8 + m) L i = ch' i ∧ uf st' (8 + m) (st1 id) i = st' i := fun i hi => by
      have := (y3 i hi).1
      exact ⟨uf_n (by omega), uf_n (by omega), uf_n (by omega)⟩
    exact ⟨WfD_same d e y1 hs (fun i hi => uf_n (by omega)), fun r => ((Fr_same d e y1 (fun i hi => ⟨(hs i hi).1, (hs i hi).2.1⟩)) r).symm, nd_same d e (fun i hi => (hs i hi).2.1)⟩
  have kids : ∀ i, 8 + m < i → i < 8 + mj → 1 ≤ (ch' i).length ∧ ∀ c ∈ ch' i, c ≠ 8 + m := fun i h1 h2 => by
    have hm : i ∈ L.flatMap (ndD ch' d) := by rw [a18, List.mem_range'_1]; omega
    obtain ⟨e, he, hi⟩ := List.mem_flatMap.mp hm
    obtain ⟨y1, y2, y3⟩ := a17 e he
    obtain ⟨-, g2, g3⟩ := nd_sub d e y1 i hi
    refine ⟨by have := ((Wf_node g3).mp g2).1; omega, fun c hc => ?_⟩
    by_cases q : c < 8
    · omega
    · have := (y3 c (nd_child d e y1 i hi c hc (by omega))).1; omega
  have hPR : PR (Fr kd1 ch1) (Fr (uf kd' (8 + m) (kd1 id)) (uf ch' (8 + m) L)) st1 (uf st' (8 + m) (st1 id)) C L := a16.congr (fun e he => ⟨(hkeep e he).2.1, (hLst e he).symm⟩)
  have hLne : L ≠ [] := fun e => by rw [e] at a12; simp at a12; omega
  refine ⟨τ, 8 + m, ch1', uf kd' (8 + m) (kd1 id), uf ch' (8 + m) L, uf st' (8 + m) (st1 id), rfl, a1, ?_, ?_, a5, by rw [← hmj]; exact a6, by rw [← hmj]; exact a8, ?_, ?_, fun q => by omega, fun _ => rfl, ?_, uf_s, ?_, ?_⟩
  · intro i hi
    rw [nd_in (by omega), not_or] at hi
    exact a3 i hi.1 (fun c hc hq => hi.2 ⟨c, hC.mem_iff.mp hc, hq⟩)
  · intro i hi
    rw [nd_in (by omega)] at hi
    rcases hi with hi | ⟨c, hc, hi⟩
    · subst hi; rw [a2]; exact ⟨hO, hCan⟩
    · exact a4 c (hC.mem_iff.mpr hc) i hi
  · intro i hi
    obtain ⟨y1, y2, y3⟩ := a14 i hi
    exact ⟨by rw [uf_n (by omega)]; exact y1, by rw [uf_n (by omega)]; exact y2, by rw [uf_n (by omega)]; exact y3⟩
  · intro i h1 h2
    by_cases q : i = 8 + m
    · subst q
      unfold NA
      rw [uf_s, uf_s, uf_s]
      refine ⟨⟨by omega, by rw [a11, a12], fun k hk => ?_, fun _ => ⟨hlt, by rw [a10, hor1]⟩, fun _ => a9⟩, CanL_map hmapF (by omega) hCan⟩
      exact a13 k (by omega)
    · obtain ⟨y1, y2⟩ := a15 i (by omega) (by omega)
      refine ⟨y1.keep (m := 24) (by omega) (fun _ _ => ⟨rfl, rfl, rfl⟩) (fun _ _ => rfl) ⟨uf_n q, uf_n q, uf_n q⟩, ?_⟩
      rw [uf_n q, uf_n q]
      exact CanL_congr (fun c hc => (uf_n ((kids i (by omega) (by omega)).2 c hc)).symm) (kids i (by omega) (by omega)).1 y2
  · unfold WfD
    rw [if_neg (by omega), uf_s, uf_s, uf_s]
    refine ⟨by omega, fun q => by have := g2 q; omega, ?_, Dj_map hmapF (Dj_perm hC gD), fun e he => (hkeep e he).1⟩
    rw [← hor1]; exact orL_map (by rw [hor1]; exact hmapF)
  · intro r
    rw [Fr_node (by omega), uf_s, uf_s, Fr_node h8]
    constructor
    · intro q
      obtain ⟨M, h1, h2⟩ := hPR.sym.ord q
      exact ⟨M, (OrdR_tr hO).mpr h1, h2⟩
    · rintro ⟨M, h1, h2⟩
      exact hPR.ord ⟨M, (OrdR_tr hO).mp h1, h2⟩
  · have e1 : ndD (uf ch' (8 + m) L) (d + 1) (8 + m) = (8 + m) :: L.flatMap (ndD (uf ch' (8 + m) L) d) := by
      conv => lhs; unfold ndD
      rw [if_neg (by omega), uf_s]
    rw [e1, flatMap_congr' (fun e he => (hkeep e he).2.2), a18, hcnt]
    have e2 : mj - (m + 1) = (C.flatMap (ndD ch1 d)).length := by omega
    rw [e2, Nat.add_comm 1, List.range'_succ]
theorem place_ok (ht1 : isT t1) (ht : isT t) (hne : t ≠ t1) : ∀ (d fu id m dep : Nat) (σ : Mem) (ch1 : Nat → List Nat) (kd : Nat → Bool) (ch : Nat → List Nat) (st : Nat → Nat), d ≤ fu → WfD kd1 ch1 st1 d id → id < 24 → AT σ t1 kd1 ch1 st1 → (∀ i, i < 8 → st i = 2 ^ i) → (∀ i, i < 8 → σ (t + 2) i = nI (2 ^ i)) → σ t 5 = nI m → m + (ndD ch1 d id).length ≤ 7 → dep + pc8 (st1 id) ≤ 8 → Fsh t m σ → PlR t t1 kd1 st1 d id m σ ch1 kd ch st (T_place fu t1 (nI id) t (nI dep) σ)
  | 0, _, _, _, _, _, _, _, _, _, _, hw, _, _, _, _, _, _, _, _ => hw.elim
  | d + 1, 0, _, _, _, _, _, _, _, _, hf, _, _, _, _, _, _, _, _, _ => by omega
  | d + 1, fu + 1, id, m, dep, σ, ch1, kd, ch, st, hfu, hw, hid, hA, hst, hσ, h5, hm, hdep, hF => by
    by_cases h8 : id < 8
    · exact place_leaf ht1 ht hw h8 hA hst h5 hF
    have h8 : 8 ≤ id := by omega
    obtain ⟨hneC, hl2, hl8, hs256, hD, hor, d', hd', hch⟩ := node_ok hA hw h8 hid
    have hdd : d' = d := by omega
    subst hdd
    have hwf : Wf kd1 ch1 st1 id := ⟨_, hw⟩
    have hcnt1 : (ndD ch1 (d' + 1) id).length = 1 + ((ch1 id).flatMap (ndD ch1 d')).length := by
      unfold ndD; rw [if_neg (by omega), List.length_cons]; omega
    have hpc2 : 2 ≤ pc8 (st1 id) := by
      have := (pc_two (S := 0) hA hw h8 hid).1; omega
    have x1 : ∀ a, a ≤ 10 → ∀ b, b ≤ 10 → t1 + a ≠ t + b := fun a ha b hb => isT_ne ht ht1 hne a b ha hb
    have rk := hA.kind ht1 hid hneC
    generalize hkv : (if kd1 id = true then (1 : Int32) else 0) = kv at *
    let σ18 := mput (mput σ t 5 (nI (m + 1))) (t + 1) (8 + m) kv
    have e18 : ∀ k, k ≠ t → k ≠ t + 1 → σ18 k = σ k := fun k q0 q1 => by show mput _ _ _ _ _ = _; rw [mput_ne _ q1, mput_ne _ q0]
    have hA18 : AT σ18 t1 kd1 ch1 st1 := hA.same (e18 _ (x1 1 (by omega) 0 (by omega)) (x1 1 (by omega) 1 (by omega))) (e18 _ (x1 2 (by omega) 0 (by omega)) (x1 2 (by omega) 1 (by omega))) (e18 _ (x1 3 (by omega) 0 (by omega)) (x1 3 (by omega) 1 (by omega))) (e18 _ (x1 4 (by omega) 0 (by omega)) (x1 4 (by omega) 1 (by omega)))
    obtain ⟨C, f, o1, o2, o3, o4⟩ := T_order_ok hA18 ht1 hid hl2 (Dj_nodup hD (fun c hc => (hch c hc).2.2.2.2)) (fun c hc => ⟨(hch c hc).2.1, (hch c hc).2.2.1, (hch c hc).2.2.2.2⟩) (lst_inj2 h8 hwf (fun c hc => (hch c hc).2.2.2.1))
    have hC : C.Perm (ch1 id) := OrdR_perm o2
    have hCl := hC.length_eq
    have z1 : ∀ b, b ≤ 10 → t + b ≠ t1 + 4 := fun b hb e => x1 4 (by omega) b hb e.symm
    have e20 : ∀ k, k ≠ t → k ≠ t + 1 → k ≠ t1 + 4 → mset σ18 (t1 + 4) f k = σ k := fun k q0 q1 q2 => by rw [mset_ne q2, e18 k q0 q1]
    have e20t : ∀ i, mset σ18 (t1 + 4) f t i = if i = 5 then nI (m + 1) else σ t i := fun i => by
      have zt : t ≠ t1 + 4 := z1 0 (by omega)
      rw [mset_ne zt]
      show mput _ _ _ _ _ _ = _
      rw [mput_ne _ (by omega), mput_at]
      by_cases q : i = 5
      · rw [if_pos ⟨rfl, q⟩, if_pos q]
      · rw [if_neg (fun e => q e.2), if_neg q]
    have e20k : mset σ18 (t1 + 4) f (t + 1) = upd (σ (t + 1)) (8 + m) kv := by
      rw [mset_ne (z1 1 (by omega))]
      show mput _ _ _ _ _ = _
      rw [mput_2, mput_ne _ (by omega)]
    have hI0 : PlI t t1 kd1 st1 d' id m σ ch1 kd ch st C 0 (mset σ18 (t1 + 4) f) := by
      refine ⟨uf ch1 id C, kd, ch, st, [], m + 1, o4, uf_s, fun i hi _ => uf_n hi, by simp, ?_, by rw [e20t, if_pos rfl], by simp, ?_, ?_, ?_, ?_, rfl, fun i hi => by omega, fun _ _ => ⟨rfl, rfl, rfl⟩, fun i h1 h2 => by omega, by simp; exact trivial, by simp, by simp⟩
      · refine ⟨fun k q0 q1 _ _ _ q5 => e20 k q0 q1 q5, fun i hi => by rw [e20t, if_neg hi], fun i hi => ⟨by rw [e20k, pk_un (by omega)], by rw [e20 (t + 2) (by omega) (by omega) (z1 2 (by omega))], by rw [e20 (t + 3) (by omega) (by omega) (z1 3 (by omega))]⟩, fun q hq => by rw [e20 (t + 4) (by omega) (by omega) (z1 4 (by omega))]⟩
      · intro i h1 h2
        rw [e20 (t + 2) (by omega) (by omega) (z1 2 (by omega)), e20 (t + 3) (by omega) (by omega) (z1 3 (by omega))]
        exact hF i (by omega) h2
      · rw [e20k, pk_us]; exact hkv.symm
      · rw [e20 (t + 2) (by omega) (by omega) (z1 2 (by omega)), (hF (8 + m) (by omega) (by omega)).1]; rfl
      · rw [e20 (t + 3) (by omega) (by omega) (z1 3 (by omega)), (hF (8 + m) (by omega) (by omega)).2]; rfl
    have hfl := flat_perm (f := ndD ch1 d') hC
    have key : ∃ r, lp (fun s => T_place_b1 (T_place fu) t1 (nI id) t (nI dep) (nI (8 + m)) s.1 s.2) fuel (0, mset σ18 (t1 + 4) f) = some r ∧ PlI t t1 kd1 st1 d' id m σ ch1 kd ch st C C.length r := by
      refine lp_for C.length (fun j s => s.1 = nI j ∧ PlI t t1 kd1 st1 d' id m σ ch1 kd ch st C j s.2) _ _ 0 (by omega) ⟨rfl, hI0⟩ (by omega) ?_ ?_
      · intro j s hj ⟨e, hI⟩
        obtain ⟨s1, τ⟩ := s
        simp only at e hI
        subst e
        left
        obtain ⟨τ2, q1, q2⟩ := place_step ht1 ht hne hw h8 hid hC (fun c hc => ⟨(hch c (hC.mem_iff.mp hc)).2.1, (hch c (hC.mem_iff.mp hc)).2.2.2.1⟩) hst hσ (by omega) hdep (by omega) (fun c m σ ch1 kd ch st y1 y2 y3 y4 y5 y6 y7 y8 y9 => place_ok ht1 ht hne d' fu c m (dep + 1) σ ch1 kd ch st (by omega) y1 y2 y3 y4 y5 y6 y7 y8 y9) hj hI
        exact ⟨_, q1, rfl, q2⟩
      · intro s ⟨e, hI⟩
        obtain ⟨s1, τ⟩ := s
        simp only at e hI
        subst e
        refine ⟨τ, ?_, hI⟩
        obtain ⟨ch1', kd', ch', st', L, mj, a1, a2, -⟩ := hI
        have r1 : rd τ (t1 + 3) (nI id) = some (nI C.length) := by have := a1.size ht1 hid; rwa [a2] at this
        unfold T_place_b1
        refine ob r1 ?_
        exact ifp (nI_le (Nat.le_refl _) (by omega)) rfl
    obtain ⟨r, l1, l2⟩ := key
    have hend := place_end hw h8 hs256 o2 o3 (by omega) l2 (by omega)
    have e : T_place (fu + 1) t1 (nI id) t (nI dep) σ = some (nI (8 + m), r) := by
      show T_placeB (T_place fu) t1 (nI id) t (nI dep) σ = _
      unfold T_placeB
      refine ifp (nI_le (a := 8) h8 (by omega)) ?_
      refine lti (b := false) ?_ ?_
      · rw [h5, if_neg (show ¬ (8 : Int32) ≤ nI dep from nI_ge (b := 8) (by omega) (by omega))]
        exact if_pos (nI_lt (b := 7) (by omega) (by omega))
      · refine ifn (by decide) ?_
        refine lti (b := nI (8 + m)) (by rw [h5, L_8, nI_add]) ?_
        refine lti (b := mput σ t 5 (nI (m + 1))) (by rw [h5, nI_1]) ?_
        refine ob (a := kv) ?_ ?_
        · have zt : t1 + 1 ≠ t := x1 1 (by omega) 0 (by omega)
          rw [rdT (lnT1 ht1) hid (by omega), mput_ne _ zt]
          rw [rdT (lnT1 ht1) hid (by omega)] at rk
          exact rk
        refine ob (a := σ18) (wrT (lnT1 ht) (by omega) (by omega)) ?_
        refine ob o1 ?_
        exact ob l1 rfl
    rw [e]; exact hend
end

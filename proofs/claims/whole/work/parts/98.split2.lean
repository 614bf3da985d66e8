def WK (t : Nat) (ch0 : Nat → List Nat) (st0 : Nat → Nat) (τ : Mem) : Prop := ∃ kd ch st ln hd sp, RS τ t kd ch st ln hd sp ∧ (∀ i, i < 8 → st i = st0 i ∧ ch i = ch0 i) ∧ ∀ i ∈ sp, 8 ≤ i ∧ i < 24
section
variable {σ0 σ : Mem} {t : Nat} {kd0 kd : Nat → Bool} {ch0 ch : Nat → List Nat} {st0 st : Nat → Nat} {ln hd sp nw : List Nat}
theorem RS.appendO (h : RS σ t kd ch st ln hd sp) (ht : isT t) {r : Int32} {x : List Nat} (hx : (x = [] ∧ r = -1) ∨ ∃ c, x = [c] ∧ r = nI c ∧ c < 24) (hl : ln.length < 8) : ∃ τ, T_append t r σ = some τ ∧ RS τ t kd ch st (ln ++ x) hd sp ∧ RF t σ τ := by
  rcases hx with ⟨e1, e2⟩ | ⟨c, e1, e2, e3⟩
  · subst e1 e2
    exact ⟨σ, T_append_none, by simpa using h, RF.rf⟩
  · subst e1 e2
    exact h.append ht e3 hl
theorem RS.holdO (h : RS σ t kd ch st ln hd sp) (ht : isT t) {r : Int32} {x : List Nat} (hx : (x = [] ∧ r = -1) ∨ ∃ c, x = [c] ∧ r = nI c ∧ c < 24) (hl : hd.length < 8) : ∃ τ, T_hold t r σ = some τ ∧ RS τ t kd ch st ln (hd ++ x) sp ∧ RF t σ τ := by
  rcases hx with ⟨e1, e2⟩ | ⟨c, e1, e2, e3⟩
  · subst e1 e2
    exact ⟨σ, T_hold_none, by simpa using h, RF.rf⟩
  · subst e1 e2
    exact h.hold ht e3 hl
theorem wk_of (hR : RS σ t kd ch st ln hd sp) (hX : XI kd0 ch0 st0 kd ch st sp nw) (hsp : ∀ i ∈ sp, 8 ≤ i ∧ i < 24) : WK t ch0 st0 σ := by
  refine ⟨kd, ch, st, ln, hd, sp, hR, ?_, hsp⟩
  intro i hi
  obtain ⟨-, b, c⟩ := hX.1 i (Or.inl hi)
  exact ⟨b, c (fun q => by have := (hsp i q).1; omega)⟩
theorem mid0 {f : Nat → Option (List (List Nat))} {L : List Nat} : midA f L = midA f (L[0]?).toList := by
  cases L <;> rfl
theorem sl_step (hA0 : AT σ0 t kd0 ch0 st0) (ht : isT t) {U0 : List Nat} (hU : ∀ i, 8 ≤ i → i < 24 → ch0 i ≠ [] → i ∈ U0) (hU7 : U0.length ≤ 7) (hR : RS σ t kd ch st ln hd sp) (hX : XI kd0 ch0 st0 kd ch st sp nw) {d node S dep u : Nat} (hw : WfD kd0 ch0 st0 (d + 1) node) (h8 : 8 ≤ node) (hn : node < 24) (hns : node ∉ sp) (hsp : ∀ i ∈ sp, 8 ≤ i ∧ i < 24) (b1 : ln.length + hd.length ≤ u) (b2 : 2 * nw.length ≤ u) (b3 : sp.length ≤ u) (b4 : u + pc8 (st0 node) ≤ 8) (hdep : dep < 8) :
    (splitA kd0 ch0 st0 S (d + 1) node = none ∧ ∃ τ2, T_splitToLine_b1 t (nI S) (nI node) (nI dep) σ = some (.inr (.inr (0, τ2))) ∧ WK t ch0 st0 τ2 ∧ RF t σ τ2) ∨
    ((fE st0 S (ch0 node) 1).length ≤ 1 ∧ ∃ x1 y1 I1 I2 τ2 kd2 ch2 st2 nw2, splitA kd0 ch0 st0 S (d + 1) node = (midA (splitA kd0 ch0 st0 S d) ((fE st0 S (ch0 node) 1)[0]?).toList).map (fun m => I1 ++ m ++ I2) ∧ T_splitToLine_b1 t (nI S) (nI node) (nI dep) σ = some (.inl (optI (fE st0 S (ch0 node) 1)[0]?, nI (dep + 1), τ2)) ∧ RS τ2 t kd2 ch2 st2 (ln ++ x1) (hd ++ y1) (sp ++ [node]) ∧ RF t σ τ2 ∧ XI kd0 ch0 st0 kd2 ch2 st2 (sp ++ [node]) nw2 ∧ SmN kd ch st nw kd2 ch2 st2 nw2 ∧ ItL kd2 ch2 st2 st0 nw2 x1 I1 ∧ ItL kd2 ch2 st2 st0 nw2 y1.reverse I2 ∧ 2 * nw2.length ≤ 2 * nw.length + pcs st0 (fE st0 S (ch0 node) 0) + pcs st0 (fE st0 S (ch0 node) 2) ∧ x1.length + y1.length ≤ pcs st0 (fE st0 S (ch0 node) 0) + pcs st0 (fE st0 S (ch0 node) 2) ∧ ∀ i ∈ nw2, i ∈ nw ∨ i ∈ x1 ∨ i ∈ y1) := by
  obtain ⟨hne, hl2, hl8, hs256, hD, hor, d', hd', hch⟩ := node_ok hA0 hw h8 hn
  obtain ⟨p1, p2, p3, p4⟩ := pc_two (S := S) hA0 hw h8 hn
  obtain ⟨x1, x2, x3⟩ := hX.1 node (Or.inr hne)
  have hcn : ch node = ch0 node := x3 hns
  have hCu : ∀ c ∈ ch node, Us ch c := fun c hc => hX.us (hch c (by rw [← hcn]; exact hc)).2.2.1
  have hstc : ∀ c ∈ ch0 node, st c = st0 c := fun c hc => (hX.1 c (hch c hc).2.2.1).2.1
  have hfE : ∀ q, fE st S (ch node) q = fE st0 S (ch0 node) q := fun q => by rw [hcn]; exact fE_same hstc
  have r0 : T_partIn t (nI node) (nI S) 1 0 σ = some (optI (fE st0 S (ch0 node) 1)[0]?) := by
    have := hR.1.partIn (S := S) (q := 1) (nth := 0) ht hn hCu (by omega) (by omega); rwa [hfE] at this
  have r1 : T_partIn t (nI node) (nI S) 1 1 σ = some (optI (fE st0 S (ch0 node) 1)[1]?) := by
    have := hR.1.partIn (S := S) (q := 1) (nth := 1) ht hn hCu (by omega) (by omega); rwa [hfE] at this
  have rk : rd σ (t + 1) (nI node) = some (if kd0 node = true then 1 else 0) := by
    have := hR.1.kind ht hn (by rw [hcn]; exact hne); rwa [x1] at this
  have hb : (if 8 ≤ nI dep then false else if nI node = -1 then false else true : Bool) = true := by
    rw [if_neg (show ¬ (8 : Int32) ≤ nI dep from nI_ge (b := 8) hdep (by omega)), if_neg (nI_nm1 (by omega))]
  have hspA : splitA kd0 ch0 st0 S (d + 1) node = if 1 < (fE st0 S (ch0 node) 1).length then none
    else if kd0 node = true then
      (if ori st0 S (ch0 node) = fE st0 S (ori st0 S (ch0 node)) 0 ++ fE st0 S (ori st0 S (ch0 node)) 1 ++ fE st0 S (ori st0 S (ch0 node)) 2 then
        (midA (splitA kd0 ch0 st0 S d) (fE st0 S (ch0 node) 1)).map (fun m => (fE st0 S (ori st0 S (ch0 node)) 0).map (fun c => [c]) ++ m ++ (fE st0 S (ori st0 S (ch0 node)) 2).map (fun c => [c]))
       else none)
    else (midA (splitA kd0 ch0 st0 S d) (fE st0 S (ch0 node) 1)).map (fun m => bun (fE st0 S (ch0 node) 0) ++ m ++ bun (fE st0 S (ch0 node) 2)) := rfl
  by_cases c1 : 1 < (fE st0 S (ch0 node) 1).length
  · left
    rw [if_pos c1] at hspA
    refine ⟨hspA, σ, ?_, wk_of hR hX hsp, RF.rf⟩
    have eg : (fE st0 S (ch0 node) 1)[1]? = some ((fE st0 S (ch0 node) 1)[1]) := List.getElem?_eq_getElem c1
    rw [eg] at r1
    have h24 : (fE st0 S (ch0 node) 1)[1] < 24 := (hch _ (fE_mem.mp (List.getElem_mem c1)).1).2.1
    unfold T_splitToLine_b1
    refine lti hb ?_
    refine ifp rfl ?_
    refine ob r0 ?_
    refine ob r1 ?_
    exact ifn (nI_nm1 (by omega)) rfl
  · rw [if_neg c1] at hspA
    have r1' : T_partIn t (nI node) (nI S) 1 1 σ = some (-1) := by rw [r1, List.getElem?_eq_none (by omega)]; rfl
    have hp2 : 2 ≤ pc8 (st0 node) := by omega
    have hone : 1 ≤ pcs st0 (fE st0 S (ch0 node) 0) + pcs st0 (fE st0 S (ch0 node) 2) := by
      have := p4 0; have := p4 2; omega
    by_cases ck : kd0 node = true
    · rw [if_pos ck] at hspA
      rw [if_pos ck] at rk
      obtain ⟨r, τ, ln', hd2, e1, e2, e3, e4⟩ := hR.splitTurning (S := S) ht hn hCu (by rw [hcn]; omega) (by rw [hcn]; omega) (by rw [hcn]; omega)
      have ho : ori st S (ch node) = ori st0 S (ch0 node) := by
        rw [hcn]
        unfold ori
        have a1 : st ((ch0 node).headD 0) = st0 ((ch0 node).headD 0) := by rw [headD_g]; exact hstc _ (getD_mem (by omega))
        have a2 : st ((ch0 node).getLastD 0) = st0 ((ch0 node).getLastD 0) := by rw [lastD_g (by omega)]; exact hstc _ (getD_mem (by omega))
        unfold stt
        rw [a1, a2]
      rw [ho] at e2 e4
      have hfo : ∀ q, fE st S (ori st0 S (ch0 node)) q = fE st0 S (ori st0 S (ch0 node)) q := fun q => fE_same (fun c hc => hstc c (ori_mem.mp hc))
      have hsrt : srt st S (ori st0 S (ch0 node)) ↔ srt st0 S (ori st0 S (ch0 node)) := by
        unfold srt; rw [hfo, hfo, hfo]
      rw [hsrt, hfo, hfo] at e4
      have hone' : ori st0 S (ch0 node) ≠ [] := fun e => by have := ori_len (st := st0) (S := S) (C := ch0 node); rw [e] at this; simp at this; omega
      rcases e4 with ⟨f1, f2, f3, f4⟩ | ⟨f1, f2⟩
      · right
        refine ⟨by omega, ?_⟩
        obtain ⟨τ2, k1, k2, k3⟩ := e2.mark (c := node) ht (by omega)
        subst f3 f4
        have hpo : ∀ q, pcs st0 (fE st0 S (ori st0 S (ch0 node)) q) = pcs st0 (fE st0 S (ch0 node) q) := fun q => pcs_perm (fE_perm ori_perm)
        have hlo : ∀ q, (fE st0 S (ori st0 S (ch0 node)) q).length = (fE st0 S (ch0 node) q).length := fun q => (fE_perm ori_perm).length_eq
        have hspA2 : splitA kd0 ch0 st0 S (d + 1) node = (midA (splitA kd0 ch0 st0 S d) (fE st0 S (ch0 node) 1)).map (fun m => (fE st0 S (ori st0 S (ch0 node)) 0).map (fun c => [c]) ++ m ++ (fE st0 S (ori st0 S (ch0 node)) 2).map (fun c => [c])) := hspA.trans (if_pos f1)
        rw [mid0] at hspA2
        refine ⟨fE st0 S (ori st0 S (ch0 node)) 0, (fE st0 S (ori st0 S (ch0 node)) 2).reverse, _, _, τ2, _, _, _, nw, hspA2, ?_, k2, e3.tr k3, hX.mark hne hone', ?_, ItL.sing _, ?_, by omega, ?_, fun i hi => Or.inl hi⟩
        · unfold T_splitToLine_b1
          refine lti hb ?_
          refine ifp rfl ?_
          refine ob r0 ?_
          refine ob r1' ?_
          refine ifp rfl ?_
          refine ob rk ?_
          refine ob (a := .inl τ) ?_ ?_
          · refine ifn (by decide) ?_
            refine ob e1 ?_
            refine lti f2 ?_
            refine lti rfl ?_
            exact ifn (by decide) rfl
          · show (T_markSplit t (nI node) τ).bind _ = _
            refine ob k1 ?_
            exact lti (nI_1 _) rfl
        · intro i hi
          have : i ≠ node := fun e => hne (by rw [← e]; exact (hX.2.2.1 i hi).2.2.1)
          exact ⟨rfl, uf_n this, rfl, hi⟩
        · rw [List.reverse_reverse]; exact ItL.sing _
        · rw [List.length_reverse, hlo, hlo]
          have := p4 0; have := p4 2; omega
      · left
        refine ⟨hspA.trans (if_neg f1), τ, ?_, ?_, e3⟩
        · unfold T_splitToLine_b1
          refine lti hb ?_
          refine ifp rfl ?_
          refine ob r0 ?_
          refine ob r1' ?_
          refine ifp rfl ?_
          refine ob rk ?_
          refine ob (a := .inr (.inr (.inr (0, τ)))) ?_ rfl
          refine ifn (by decide) ?_
          refine ob e1 ?_
          refine lti f2 ?_
          refine lti rfl ?_
          exact ifp rfl rfl
        · refine ⟨_, _, _, _, _, _, e2, ?_, hsp⟩
          intro i hi
          obtain ⟨-, b, c⟩ := hX.1 i (Or.inl hi)
          rw [uf_n (by omega)]
          exact ⟨b, c (fun q => by have := (hsp i q).1; omega)⟩
    · rw [if_neg ck] at hspA
      rw [if_neg ck] at rk
      right
      refine ⟨by omega, ?_⟩
      have hC0 : ∀ c ∈ ch0 node, Us ch0 c ∧ st0 c < 256 ∧ st0 c ≠ 0 := fun c hc => (hch c hc).2.2
      obtain ⟨ra, τa, kda, cha, sta, nwa, xa, a1, a2, a3, a4, a5, a6, a7, a8, a9, a10⟩ := bundle_step (S := S) (q := 0) hR ht hX hU hU7 (by omega) h8 hn hns hC0 hne (by omega)
      obtain ⟨τb, c1, c2, c3⟩ := a2.appendO ht a7 (by omega)
      obtain ⟨rc, τc, kdc, chc, stc, nwc, xc, g1, g2, g3, g4, g5, g6, g7, g8, g9, g10⟩ := bundle_step (S := S) (q := 2) c2 ht a4 hU hU7 (by omega) h8 hn hns hC0 hne (by omega)
      obtain ⟨τd, m1, m2, m3⟩ := g2.holdO ht g7 (by omega)
      obtain ⟨τe, k1, k2, k3⟩ := m2.mark (c := node) ht (by omega)
      rw [mid0] at hspA
      have hcc : chc node = ch0 node := (g4.1 node (Or.inr hne)).2.2 hns
      have hXm := g4.mark (node := node) (C := chc node) hne (by rw [hcc]; exact hne)
      rw [uf_self] at hXm
      refine ⟨xa, xc, _, _, τe, kdc, chc, stc, nwc, hspA, ?_, k2, (((a3.tr c3).tr g3).tr m3).tr k3, hXm, a5.tr g5, a6.mono g5, ?_, by omega, by omega, ?_⟩
      · unfold T_splitToLine_b1
        refine lti hb ?_
        refine ifp rfl ?_
        refine ob r0 ?_
        refine ob r1' ?_
        refine ifp rfl ?_
        refine ob rk ?_
        refine ob (a := .inl τd) ?_ ?_
        · refine ifp rfl ?_
          refine ob a1 ?_
          refine lti rfl ?_
          refine lti rfl ?_
          refine ob c1 ?_
          refine ob g1 ?_
          refine lti rfl ?_
          refine lti rfl ?_
          exact ob m1 rfl
        · show (T_markSplit t (nI node) τd).bind _ = _
          refine ob k1 ?_
          exact lti (nI_1 _) rfl
      · have := g6.rev
        have e : (bun (fE st0 S (ch0 node) 2)).reverse = bun (fE st0 S (ch0 node) 2) := by unfold bun; by_cases q : fE st0 S (ch0 node) 2 = [] <;> simp [q]
        rwa [e] at this
      · intro i hi
        rcases g10 i hi with q | q
        · rcases a10 i q with q | q
          · exact Or.inl q
          · exact Or.inr (Or.inl q)
        · exact Or.inr (Or.inr q)
end

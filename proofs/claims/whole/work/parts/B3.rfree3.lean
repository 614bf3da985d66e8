section
variable {σ0 σ τ : Mem} {t : Nat} {kd0 kd : Nat → Bool} {ch0 ch : Nat → List Nat} {st0 st : Nat → Nat} {S d N : Nat} {L X hd sp nw : List Nat} {items : List (List Nat)}
noncomputable def freeRest (t : Nat) (x1 x2 vq5 : Int32) (σ16 : Mem) : Option (Int32 × Mem) := (T_bundle t x1 x2 2 σ16).bind (fun q => lt q.1 (fun vq30 => lt q.2 (fun σ31 => (T_append t vq30 σ31).bind (fun σ35 => ((if vq5 = (-1) then some (false, σ35) else (T_splitToLine t vq5 x2 0 σ35).bind (fun q => lt q.1 (fun vq45 => lt q.2 (fun σ46 => if vq45 = 0 then some (true, σ46) else some (false, σ46)))) : Option (Bool × Mem))).bind (fun q => lt q.1 (fun bq39 => lt q.2 (fun σ40 => if bq39 = true then some (0, σ40) else freeTail t x1 x2 σ40)))))))
theorem rfree_unf {x1 x2 : Int32} : T_reduceFree t x1 x2 σ = (T_partIn t x1 x2 1 0 σ).bind (fun vq1 => (T_partIn t x1 x2 1 1 σ).bind (fun vq5 => (T_partIn t x1 x2 1 2 σ).bind (fun vq9 => if vq9 = (-1) then ((if vq1 = (-1) then some (false, σ) else (T_splitToLine t vq1 x2 1 σ).bind (fun q => lt q.1 (fun vq21 => lt q.2 (fun σ22 => if vq21 = 0 then some (true, σ22) else some (false, σ22)))) : Option (Bool × Mem))).bind (fun q => lt q.1 (fun bq15 => lt q.2 (fun σ16 => if bq15 = true then some (0, σ16) else freeRest t x1 x2 vq5 σ16))) else some (0, σ)))) := rfl
theorem rfree_ok (hA0 : AT σ0 t kd0 ch0 st0) (ht : isT t) {U0 : List Nat} (hU : ∀ i, 8 ≤ i → i < 24 → ch0 i ≠ [] → i ∈ U0) (hU7 : U0.length ≤ 7) (hw : WfD kd0 ch0 st0 (d + 1) N) (h8 : 8 ≤ N) (hn : N < 24) (hk : kd0 N = false) (hs : subM S (st0 N)) (h0 : S ≠ 0) (hno : ∀ c ∈ ch0 N, ¬ subM S (st0 c)) (hn2 : stt st0 S N ≠ 2) (hR : RS σ t kd0 ch0 st0 [] hd []) : RX t kd0 ch0 st0 S N σ (T_reduceFree t (nI N) (nI S) σ) := by
  obtain ⟨hne, hl2, hl8, hs256, hD, hor, d', hd', hch⟩ := node_ok hA0 hw h8 hn
  have hdd : d' = d := by omega
  subst hdd
  have hwf : Wf kd0 ch0 st0 N := ⟨_, hw⟩
  have h2 := nE_two h8 hwf hs h0 hno
  have hP : ∀ c r, Fr kd0 ch0 c r → Fr kd0 ch0 c r.reverse := fun c r h => Fr_rev h
  obtain ⟨-, fk2⟩ := freeA_ok hP (spl := splitA kd0 ch0 st0 S d') (C := ch0 N) (S := S) (st := st0) (fun c hc => Wf_shw (S := S) ⟨_, (hch c hc).1⟩) (fun c hc h1 => spl_ok (hch c hc).1 h1) h2
  have hfail : freeA (splitA kd0 ch0 st0 S d') st0 S (ch0 N) = none → ∀ r, Fr kd0 ch0 N r → ¬ Cons S r := fun e r hr => fk2 e r ((frN_free h8 hk r).mp hr)
  have hCu : ∀ c ∈ ch0 N, Us ch0 c := fun c hc => (hch c hc).2.2.1
  have p0 : T_partIn t (nI N) (nI S) 1 0 σ = some (optI (fE st0 S (ch0 N) 1)[0]?) := hR.1.partIn (S := S) (q := 1) (nth := 0) ht hn hCu (by omega) (by omega)
  have p1 : T_partIn t (nI N) (nI S) 1 1 σ = some (optI (fE st0 S (ch0 N) 1)[1]?) := hR.1.partIn (S := S) (q := 1) (nth := 1) ht hn hCu (by omega) (by omega)
  have p2 : T_partIn t (nI N) (nI S) 1 2 σ = some (optI (fE st0 S (ch0 N) 1)[2]?) := hR.1.partIn (S := S) (q := 1) (nth := 2) ht hn hCu (by omega) (by omega)
  have hpc := pc_le _ hs256
  obtain ⟨pw1, pw2, pw3, pw4⟩ := pc_two (S := S) hA0 hw h8 hn
  have hF0 : freeA (splitA kd0 ch0 st0 S d') st0 S (ch0 N) = if 2 < (fE st0 S (ch0 N) 1).length then none else (midA (splitA kd0 ch0 st0 S d') (fE st0 S (ch0 N) 1)).bind (fun x => (midA (splitA kd0 ch0 st0 S d') (fE st0 S (ch0 N) 1).tail).map (fun y => x ++ bun (fE st0 S (ch0 N) 2) ++ y.reverse)) := rfl
  have h1m : ∀ c ∈ fE st0 S (ch0 N) 1, c ∈ ch0 N ∧ stt st0 S c = 1 ∧ 8 ≤ c ∧ c < 24 ∧ Chd kd0 ch0 st0 d' c := fun c hc => by
    have hm := fE_mem.mp hc
    exact ⟨hm.1, hm.2, part1_ok hA0 hw h8 hn hm.1 hm.2, (hch c hm.1).2.1, hch c hm.1⟩
  have hDp : Dj st0 (fE st0 S (ch0 N) 0 ++ fE st0 S (ch0 N) 1 ++ fE st0 S (ch0 N) 2) := Dj_perm (fE_part st0 S (ch0 N)) hD
  unfold Dj at hDp
  rw [List.pairwise_append, List.pairwise_append] at hDp
  obtain ⟨⟨-, dp1, -⟩, -, dp3⟩ := hDp
  by_cases c3 : 2 < (fE st0 S (ch0 N) 1).length
  · left
    rw [if_pos c3] at hF0
    refine ⟨hfail hF0, σ, ?_, (LnS.start (S := S) (d := d') hR).wk, RF.rf⟩
    rw [List.getElem?_eq_getElem c3] at p2
    rw [rfree_unf]
    refine ob p0 ?_
    refine ob p1 ?_
    refine ob p2 ?_
    exact ifn (nI_nm1 (by have := (h1m _ (List.getElem_mem c3)).2.2.2.1; omega)) rfl
  rw [if_neg c3] at hF0
  rw [List.getElem?_eq_none (by omega)] at p2
  have hS0 : LnS t kd0 ch0 st0 S d' σ [] σ [] [] kd0 ch0 st0 hd [] [] := LnS.start hR
  -- what comes behind the first part
  have rest : ∀ (L X : List Nat) (x : List (List Nat)) (σ1 : Mem) (kd : Nat → Bool) (ch : Nat → List Nat) (st : Nat → Nat) (hd sp nw : List Nat), L = (fE st0 S (ch0 N) 1).take 1 → midA (splitA kd0 ch0 st0 S d') (fE st0 S (ch0 N) 1) = some x → LnS t kd0 ch0 st0 S d' σ L σ1 X x kd ch st hd sp nw → RX t kd0 ch0 st0 S N σ (freeRest t (nI N) (nI S) (optI (fE st0 S (ch0 N) 1)[1]?) σ1) := by
    intro L X x σ1 kd ch st hd sp nw hL hx hI
    rw [hx] at hF0
    have hF1 : freeA (splitA kd0 ch0 st0 S d') st0 S (ch0 N) = (midA (splitA kd0 ch0 st0 S d') (fE st0 S (ch0 N) 1).tail).map (fun y => x ++ bun (fE st0 S (ch0 N) 2) ++ y.reverse) := hF0
    have hLN : ∀ p ∈ L, p ∈ ch0 N := fun p hp => by rw [hL] at hp; exact (h1m p (List.mem_of_mem_take hp)).1
    have hbL : pcs st0 L + pcs st0 (fE st0 S (ch0 N) 1).tail = pcs st0 (fE st0 S (ch0 N) 1) := by
      rw [hL, ← pcs_app]
      congr 1
      cases fE st0 S (ch0 N) 1 <;> simp
    obtain ⟨r, τ2, τ3, x2, kd2, ch2, st2, nw2, g1, g2, g3⟩ := hI.bundle hA0 ht hU hU7 hw h8 hn hLN (by omega)
    rcases hT : (fE st0 S (ch0 N) 1).tail with _ | ⟨q, T⟩
    · have e1 : (fE st0 S (ch0 N) 1)[1]? = none := by
        rw [List.getElem?_eq_none]
        have := congrArg List.length hT
        rw [List.length_tail] at this; simp at this; omega
      rw [hT] at hF1
      have hF2 : freeA (splitA kd0 ch0 st0 S d') st0 S (ch0 N) = some (x ++ bun (fE st0 S (ch0 N) 2)) := by rw [hF1]; show some _ = _; simp
      have hLm : ∀ p, p ∈ L ++ fE st0 S (ch0 N) 2 ↔ p ∈ fE st0 S (ch0 N) 1 ++ fE st0 S (ch0 N) 2 := fun p => by
        have : L = fE st0 S (ch0 N) 1 := by
          rw [hL]
          cases h : fE st0 S (ch0 N) 1 with
          | nil => rfl
          | cons a A => rw [h] at hT; simp at hT; subst hT; rfl
        rw [this]
      obtain ⟨τ4, kdE, chE, stE, m1, m2, m3, m4, m5, m6⟩ := free_tail hA0 ht hU hU7 hw h8 hn hk hs h0 hno hn2 hF2 hLm (by rw [pcs_app]; omega) g3
      right
      refine ⟨τ4, kdE, chE, stE, _, _, _, ?_, m2, m3, m4, m5, m6⟩
      rw [e1]
      unfold freeRest
      refine ob g1 ?_
      refine lti rfl ?_
      refine lti rfl ?_
      refine ob g2 ?_
      refine ob (a := (false, τ3)) (ifp rfl rfl) ?_
      refine lti rfl ?_
      refine lti rfl ?_
      refine ifn (show ¬ false = true by decide) ?_
      exact m1
    · have hT0 : T = [] := by
        have := congrArg List.length hT
        rw [List.length_tail] at this
        cases T with
        | nil => rfl
        | cons a T => simp at this; omega
      subst hT0
      obtain ⟨p, hp⟩ : ∃ p, fE st0 S (ch0 N) 1 = [p, q] := by
        cases h : fE st0 S (ch0 N) 1 with
        | nil => rw [h] at hT; simp at hT
        | cons a A => rw [h] at hT; simp at hT; subst hT; exact ⟨a, rfl⟩
      have e1 : (fE st0 S (ch0 N) 1)[1]? = some q := by rw [hp]; rfl
      obtain ⟨q1, q2, q3, q4, q5⟩ := h1m q (by rw [hp]; simp)
      have hLp : L = [p] := by rw [hL, hp]; rfl
      rw [hT] at hF1 hbL
      rw [pcs_one] at hbL
      have hF1 : freeA (splitA kd0 ch0 st0 S d') st0 S (ch0 N) = (splitA kd0 ch0 st0 S d' q).map (fun y => x ++ bun (fE st0 S (ch0 N) 2) ++ y.reverse) := hF1
      have hdj : ∀ e ∈ L ++ fE st0 S (ch0 N) 2, WfD kd0 ch0 st0 d' e ∧ st0 e &&& st0 q = 0 := fun e he => by
        rw [List.mem_append, hLp, List.mem_singleton] at he
        rcases he with he | he
        · subst he
          refine ⟨(h1m e (by rw [hp]; simp)).2.2.2.2.1, ?_⟩
          rw [hp, List.pairwise_cons] at dp1
          exact dp1.1 q (by simp)
        · refine ⟨(hch e (fE_mem.mp he).1).1, ?_⟩
          have := dp3 q (by rw [hp]; simp) e he
          rw [Nat.and_comm]; exact this
      rcases g3.split hA0 ht hU hU7 q5 q3 q2 (by rw [pcs_app]; omega) hdj false 0 rfl with ⟨z0, τ4, z1, z2, z3⟩ | ⟨y, X2, τ4, kd4, ch4, st4, hd4, sp4, nw4, z0, z1, z2⟩
      · left
        rw [z0] at hF1
        refine ⟨hfail hF1, τ4, ?_, z2, z3⟩
        rw [e1]
        unfold freeRest
        refine ob g1 ?_
        refine lti rfl ?_
        refine lti rfl ?_
        refine ob g2 ?_
        refine ob (a := (true, τ4)) ?_ ?_
        · refine ifn (nI_nm1 (by omega)) ?_
          refine ob z1 ?_
          refine lti rfl ?_
          refine lti rfl ?_
          exact ifp rfl rfl
        · refine lti rfl ?_
          refine lti rfl ?_
          exact ifp rfl rfl
      · right
        rw [z0] at hF1
        have hF2 : freeA (splitA kd0 ch0 st0 S d') st0 S (ch0 N) = some (x ++ bun (fE st0 S (ch0 N) 2) ++ y.reverse) := hF1
        have hLm : ∀ e, e ∈ L ++ fE st0 S (ch0 N) 2 ++ [q] ↔ e ∈ fE st0 S (ch0 N) 1 ++ fE st0 S (ch0 N) 2 := fun e => by
          rw [hLp, hp]
          simp only [List.mem_append, List.mem_singleton, List.mem_cons, List.not_mem_nil, or_false]
          constructor
          · rintro ((h | h) | h)
            · exact Or.inl (Or.inl h)
            · exact Or.inr h
            · exact Or.inl (Or.inr h)
          · rintro ((h | h) | h)
            · exact Or.inl (Or.inl h)
            · exact Or.inr h
            · exact Or.inl (Or.inr h)
        obtain ⟨τ5, kdE, chE, stE, m1, m2, m3, m4, m5, m6⟩ := free_tail hA0 ht hU hU7 hw h8 hn hk hs h0 hno hn2 hF2 hLm (by rw [pcs_app, pcs_app, pcs_one]; omega) z2
        refine ⟨τ5, kdE, chE, stE, _, _, _, ?_, m2, m3, m4, m5, m6⟩
        rw [e1]
        unfold freeRest
        refine ob g1 ?_
        refine lti rfl ?_
        refine lti rfl ?_
        refine ob g2 ?_
        refine ob (a := (false, τ4)) ?_ ?_
        · refine ifn (nI_nm1 (by omega)) ?_
          refine ob z1 ?_
          refine lti rfl ?_
          refine lti rfl ?_
          exact ifn (show ¬ (1 : Int32) = 0 by decide) rfl
        · refine lti rfl ?_
          refine lti rfl ?_
          refine ifn (show ¬ false = true by decide) ?_
          exact m1
  rcases hP1 : fE st0 S (ch0 N) 1 with _ | ⟨p, T⟩
  · have r := rest [] [] [] σ kd0 ch0 st0 hd [] [] (by rw [hP1]; rfl) (by rw [hP1]; rfl) hS0
    have e : T_reduceFree t (nI N) (nI S) σ = freeRest t (nI N) (nI S) (optI (fE st0 S (ch0 N) 1)[1]?) σ := by
      rw [rfree_unf]
      rw [hP1] at p0
      refine ob p0 ?_
      refine ob p1 ?_
      refine ob p2 ?_
      refine ifp rfl ?_
      refine ob (a := (false, σ)) (ifp rfl rfl) ?_
      refine lti rfl ?_
      refine lti rfl ?_
      exact ifn (show ¬ false = true by decide) rfl
    rw [e]; exact r
  · obtain ⟨q1, q2, q3, q4, q5⟩ := h1m p (by rw [hP1]; simp)
    have hp0 : T_partIn t (nI N) (nI S) 1 0 σ = some (nI p) := by rw [hP1] at p0; exact p0
    have hb1 : pcs st0 ([] : List Nat) + pc8 (st0 p) ≤ 8 := by
      have : pcs st0 (fE st0 S (ch0 N) 1) = pc8 (st0 p) + pcs st0 T := by rw [hP1]; rfl
      have e0 : pcs st0 ([] : List Nat) = 0 := rfl
      omega
    rcases hS0.split hA0 ht hU hU7 q5 q3 q2 hb1 (by simp) true 1 rfl with ⟨z0, τ4, z1, z2, z3⟩ | ⟨y, X2, τ4, kd4, ch4, st4, hd4, sp4, nw4, z0, z1, z2⟩
    · left
      have hF1 : freeA (splitA kd0 ch0 st0 S d') st0 S (ch0 N) = none := by
        rw [hF0, hP1]
        show (splitA kd0 ch0 st0 S d' p).bind _ = none
        rw [z0]; rfl
      refine ⟨hfail hF1, τ4, ?_, z2, z3⟩
      rw [rfree_unf]
      refine ob hp0 ?_
      refine ob p1 ?_
      refine ob p2 ?_
      refine ifp rfl ?_
      refine ob (a := (true, τ4)) ?_ ?_
      · refine ifn (nI_nm1 (by omega)) ?_
        refine ob z1 ?_
        refine lti rfl ?_
        refine lti rfl ?_
        exact ifp rfl rfl
      · refine lti rfl ?_
        refine lti rfl ?_
        exact ifp rfl rfl
    · have r := rest _ _ _ τ4 kd4 ch4 st4 hd4 sp4 nw4 (by rw [hP1]; rfl) (by rw [hP1]; exact z0) z2
      have e : T_reduceFree t (nI N) (nI S) σ = freeRest t (nI N) (nI S) (optI (fE st0 S (ch0 N) 1)[1]?) τ4 := by
        rw [rfree_unf]
        refine ob hp0 ?_
        refine ob p1 ?_
        refine ob p2 ?_
        refine ifp rfl ?_
        refine ob (a := (false, τ4)) ?_ ?_
        · refine ifn (nI_nm1 (by omega)) ?_
          refine ob z1 ?_
          refine lti rfl ?_
          refine lti rfl ?_
          exact ifn (show ¬ (1 : Int32) = 0 by decide) rfl
        · refine lti rfl ?_
          refine lti rfl ?_
          exact ifn (show ¬ false = true by decide) rfl
      rw [e]; exact r
end

section
variable {kd : Nat → Bool} {ch : Nat → List Nat} {st : Nat → Nat}
theorem sum_two {f : Nat → Nat} {d id c1 c2 : Nat} {X Y Z : List Nat} (h8 : ¬ id < 8) (e : ch id = X ++ c1 :: (Y ++ c2 :: Z)) (h : ∀ c, c ∈ X ∨ c ∈ Y ∨ c ∈ Z → ∀ N ∈ ndD ch d c, f N = 0) : sumN f (ndD ch (d + 1) id) = f id + (sumN f (ndD ch d c1) + sumN f (ndD ch d c2)) := by
  have z : ∀ W : List Nat, (∀ c ∈ W, ∀ N ∈ ndD ch d c, f N = 0) → sumN f (W.flatMap (ndD ch d)) = 0 := fun W hW => sumN_zero (fun N hN => by
    obtain ⟨c, hc, h2⟩ := List.mem_flatMap.mp hN
    exact hW c hc N h2)
  rw [ndD_node h8, sumN_cons, e, List.flatMap_append, List.flatMap_cons, List.flatMap_append, List.flatMap_cons, sumN_app, sumN_app, sumN_app, sumN_app, z X (fun c hc => h c (Or.inl hc)), z Y (fun c hc => h c (Or.inr (Or.inl hc))), z Z (fun c hc => h c (Or.inr (Or.inr hc)))]
  omega
theorem gap_ok {a b : Nat} {g : Bool} (hne : a ≠ b) : ∀ (d id : Nat), WfD kd ch st d id → st id < 256 → (st id).testBit a = true → (st id).testBit b = true → ∀ init, GpV kd ch id a b g (sumN (fG kd ch st a b g) (ndD ch d id) + btN kd ch st a b g (lwL st a b init (ndD ch d id)))
  | 0, _, h, _, _, _ => h.elim
  | d + 1, id, hw, h256, ha, hb => by
    intro init
    by_cases h8 : id < 8
    · exfalso
      have h1 : st id = 2 ^ id := by
        have := hw
        unfold WfD at this
        rw [if_pos h8] at this; exact this
      rw [h1, Nat.testBit_two_pow] at ha hb
      have := of_decide_eq_true ha
      have := of_decide_eq_true hb
      omega
    · have hWid : Wf kd ch st id := ⟨_, hw⟩
      obtain ⟨A, p, B, e, hp, hA, hB, hall, hnd⟩ := node_parts h8 hw h256 ha
      obtain ⟨A2, q, B2, e2, hq, hA2, hB2, -, -⟩ := node_parts h8 hw h256 hb
      have hpm : p ∈ ch id := by rw [e]; simp
      have hqm : q ∈ ch id := by rw [e2]; simp
      have na : ∀ c ∈ ch id, c ≠ p → ¬ (st c).testBit a = true := fun c hc hcp => by
        rw [e, List.mem_append, List.mem_cons] at hc
        rcases hc with h | h | h
        · exact hA c h
        · exact absurd h hcp
        · exact hB c h
      have nb : ∀ c ∈ ch id, c ≠ q → ¬ (st c).testBit b = true := fun c hc hcp => by
        rw [e2, List.mem_append, List.mem_cons] at hc
        rcases hc with h | h | h
        · exact hA2 c h
        · exact absurd h hcp
        · exact hB2 c h
      have hid : hasB st a b id = true := hasB_iff.mpr ⟨ha, hb⟩
      have fid : fG kd ch st a b g id = 0 := by unfold fG; rw [if_pos hid]
      have z0 : ∀ c ∈ ch id, c ≠ p → c ≠ q → ∀ N ∈ ndD ch d c, fG kd ch st a b g N = 0 := fun c hc h1 h2 N hN => by
        have hs := (nd_sub d c (hall c hc).1 N hN).1
        have n1 : ¬ (st N).testBit a = true := fun z => na c hc h1 (hs a z)
        have n2 : ¬ (st N).testBit b = true := fun z => nb c hc h2 (hs b z)
        unfold fG
        rw [if_neg (fun z => n1 (hasB_iff.mp z).1), if_neg n1, if_neg n2]
      have l0 : ∀ c ∈ ch id, c ≠ p ∨ c ≠ q → ∀ N ∈ ndD ch d c, ¬ hasB st a b N = true := fun c hc h1 N hN z => by
        have hs := (nd_sub d c (hall c hc).1 N hN).1
        rcases h1 with h1 | h1
        · exact na c hc h1 (hs a (hasB_iff.mp z).1)
        · exact nb c hc h1 (hs b (hasB_iff.mp z).2)
      have lid : ∀ R, lwL st a b init (id :: R) = lwL st a b id R := fun R => by
        show lwL st a b (if hasB st a b id = true then id else init) R = _
        rw [if_pos hid]
      by_cases hpq : p = q
      · subst hpq
        have neA : ∀ c ∈ A, c ≠ p := fun c hc z => hA c hc (by rw [z]; exact hp)
        have neB : ∀ c ∈ B, c ≠ p := fun c hc z => hB c hc (by rw [z]; exact hp)
        have mA : ∀ c ∈ A, c ∈ ch id := fun c hc => by rw [e]; simp [hc]
        have mB : ∀ c ∈ B, c ∈ ch id := fun c hc => by rw [e]; simp [hc]
        rw [sum_part h8 e (fun c hc => z0 c (mA c hc) (neA c hc) (neA c hc)) (fun c hc => z0 c (mB c hc) (neB c hc) (neB c hc)), fid, Nat.zero_add]
        have el : lwL st a b init (ndD ch (d + 1) id) = lwL st a b id (ndD ch d p) := by
          rw [ndD_node h8, lid, e, List.flatMap_append, List.flatMap_cons, lwL_app, lwL_app]
          rw [lwL_no (A := A.flatMap (ndD ch d)) (fun N hN => by
            obtain ⟨c, hc, h2⟩ := List.mem_flatMap.mp hN
            exact l0 c (mA c hc) (Or.inl (neA c hc)) N h2)]
          rw [lwL_no (A := B.flatMap (ndD ch d)) (fun N hN => by
            obtain ⟨c, hc, h2⟩ := List.mem_flatMap.mp hN
            exact l0 c (mB c hc) (Or.inl (neB c hc)) N h2)]
        rw [el]
        obtain ⟨p1, p2, p3⟩ := hall p hpm
        have ih := gap_ok (g := g) hne d p p1 p3 hp hq id
        have h1 := gap_one (kd := kd) (by omega) hWid e (fun c hc => (hall c hc).2.1) hp hq hne
        exact ⟨(h1 _).mpr ih.1, fun s hs => ih.2 s ((h1 s).mp hs)⟩
      · have el : lwL st a b init (ndD ch (d + 1) id) = id := by
          rw [ndD_node h8, lid]
          refine lwL_no (fun N hN => ?_)
          obtain ⟨c, hc, h2⟩ := List.mem_flatMap.mp hN
          refine l0 c hc ?_ N h2
          by_cases z : c = p
          · exact Or.inr (by rw [z]; exact hpq)
          · exact Or.inl z
        rw [el]
        obtain ⟨p1, p2, p3⟩ := hall p hpm
        obtain ⟨q1, q2, q3⟩ := hall q hqm
        have sa := side_ok (x := a) (b := g) d p p1 p3 hp
        have sb := side_ok (x := b) (b := g) d q q1 q3 hq
        have ea : sumN (fG kd ch st a b g) (ndD ch d p) = sumN (fS kd ch st a g) (ndD ch d p) := sumN_congr (fun N hN => by
          have n2 : ¬ (st N).testBit b = true := fun z => nb p hpm hpq ((nd_sub d p p1 N hN).1 b z)
          unfold fG fS
          rw [if_neg (fun z => n2 (hasB_iff.mp z).2), if_neg n2])
        have eb : sumN (fG kd ch st a b g) (ndD ch d q) = sumN (fS kd ch st b g) (ndD ch d q) := sumN_congr (fun N hN => by
          have n1 : ¬ (st N).testBit a = true := fun z => na q hqm (Ne.symm hpq) ((nd_sub d q q1 N hN).1 a z)
          unfold fG fS
          rw [if_neg (fun z => n1 (hasB_iff.mp z).1), if_neg n1])
        have hqx := hqm
        rw [e, List.mem_append, List.mem_cons] at hqx
        have hAll : ∀ c ∈ ch id, Wf kd ch st c ∧ st c < 256 := fun c hc => (hall c hc).2
        have hpA : hasA st a b p = true := hasA_iff.mpr (Or.inl hp)
        have hqA : hasA st a b q = true := hasA_iff.mpr (Or.inr hq)
        have nA : ∀ c ∈ ch id, c ≠ p → c ≠ q → ¬ hasA st a b c = true := fun c hc h1 h2 z => by
          rcases hasA_iff.mp z with z | z
          · exact na c hc h1 z
          · exact nb c hc h2 z
        rcases hqx with hqx | hqx | hqx
        · obtain ⟨X, Y, eX⟩ := List.append_of_mem hqx
          have e3 : ch id = X ++ q :: (Y ++ p :: B) := by rw [e, eX]; simp
          have hn3 := hnd
          rw [e3, List.nodup_append] at hn3
          have hn4 := List.nodup_cons.mp hn3.2.1
          have hn5 := List.nodup_append.mp hn4.2
          have hn6 := List.nodup_cons.mp hn5.2.1
          have nX : ∀ c ∈ X, c ∈ ch id ∧ c ≠ p ∧ c ≠ q := fun c hc => ⟨by rw [e3]; simp [hc], hn3.2.2 c hc p (by simp), hn3.2.2 c hc q (by simp)⟩
          have nY : ∀ c ∈ Y, c ∈ ch id ∧ c ≠ p ∧ c ≠ q := fun c hc => ⟨by rw [e3]; simp [hc], hn5.2.2 c hc p (by simp), fun z => hn4.1 (by rw [← z]; simp [hc])⟩
          have nB : ∀ c ∈ B, c ∈ ch id ∧ c ≠ p ∧ c ≠ q := fun c hc => ⟨by rw [e3]; simp [hc], fun z => hn6.1 (by rw [← z]; exact hc), fun z => hn4.1 (by rw [← z]; simp [hc])⟩
          rw [sum_two h8 e3 (fun c hc => by
            rcases hc with h | h | h
            · exact z0 c (nX c h).1 (nX c h).2.1 (nX c h).2.2
            · exact z0 c (nY c h).1 (nY c h).2.1 (nY c h).2.2
            · exact z0 c (nB c h).1 (nB c h).2.1 (nB c h).2.2), fid, Nat.zero_add, ea, eb, Nat.add_comm (sumN (fS kd ch st b g) (ndD ch d q))]
          have h2 := gap_two (kd := kd) (C := (ch id).reverse) (A := B.reverse) (M := Y.reverse) (B := X.reverse) (by omega) hWid (Or.inr rfl) (by rw [e3]; simp) hAll hnd hp hq sa sb
          have ev : btN kd ch st a b g id = (if kd id = true then pcs st Y.reverse else if g = true then pcs st B.reverse + pcs st Y.reverse + pcs st X.reverse else 0) := by
            unfold btN
            rw [e3, bt_val (fun c hc => nA c (nX c hc).1 (nX c hc).2.1 (nX c hc).2.2) (fun c hc => nA c (nY c hc).1 (nY c hc).2.1 (nY c hc).2.2) (fun c hc => nA c (nB c hc).1 (nB c hc).2.1 (nB c hc).2.2) hqA hpA]
            rw [pcs_perm (List.reverse_perm Y), pcs_perm (List.reverse_perm B), pcs_perm (List.reverse_perm X)]
            dsimp only
            rw [show pcs st B + pcs st Y + pcs st X = pcs st X + pcs st Y + pcs st B by omega]
          rw [ev]
          exact h2
        · exact absurd hqx.symm hpq
        · obtain ⟨Y, Z, eX⟩ := List.append_of_mem hqx
          have e3 : ch id = A ++ p :: (Y ++ q :: Z) := by rw [e, eX]
          have hn3 := hnd
          rw [e3, List.nodup_append] at hn3
          have hn4 := List.nodup_cons.mp hn3.2.1
          have hn5 := List.nodup_append.mp hn4.2
          have hn6 := List.nodup_cons.mp hn5.2.1
          have nX : ∀ c ∈ A, c ∈ ch id ∧ c ≠ p ∧ c ≠ q := fun c hc => ⟨by rw [e3]; simp [hc], hn3.2.2 c hc p (by simp), hn3.2.2 c hc q (by simp)⟩
          have nY : ∀ c ∈ Y, c ∈ ch id ∧ c ≠ p ∧ c ≠ q := fun c hc => ⟨by rw [e3]; simp [hc], fun z => hn4.1 (by rw [← z]; simp [hc]), hn5.2.2 c hc q (by simp)⟩
          have nB : ∀ c ∈ Z, c ∈ ch id ∧ c ≠ p ∧ c ≠ q := fun c hc => ⟨by rw [e3]; simp [hc], fun z => hn4.1 (by rw [← z]; simp [hc]), fun z => hn6.1 (by rw [← z]; exact hc)⟩
          rw [sum_two h8 e3 (fun c hc => by
            rcases hc with h | h | h
            · exact z0 c (nX c h).1 (nX c h).2.1 (nX c h).2.2
            · exact z0 c (nY c h).1 (nY c h).2.1 (nY c h).2.2
            · exact z0 c (nB c h).1 (nB c h).2.1 (nB c h).2.2), fid, Nat.zero_add, ea, eb]
          have h2 := gap_two (kd := kd) (C := ch id) (A := A) (M := Y) (B := Z) (by omega) hWid (Or.inl rfl) e3 hAll hnd hp hq sa sb
          have ev : btN kd ch st a b g id = (if kd id = true then pcs st Y else if g = true then pcs st A + pcs st Y + pcs st Z else 0) := by
            unfold btN
            rw [e3, bt_val (fun c hc => nA c (nX c hc).1 (nX c hc).2.1 (nX c hc).2.2) (fun c hc => nA c (nY c hc).1 (nY c hc).2.1 (nY c hc).2.2) (fun c hc => nA c (nB c hc).1 (nB c hc).2.1 (nB c hc).2.2) hpA hqA]
          rw [ev]
          exact h2
end

theorem nfree_nil {P : Nat → List Nat → Prop} {x : List (List Nat)} {r : List Nat} : NFree P [] x r ↔ (SeqR (FreeR P) x r ∨ SeqR (FreeR P) x r.reverse) := by
  constructor
  · rintro ⟨A, B, ra, rq, rb, hp, e, h1, h2, h3⟩
    have h0 := hp.length_eq
    rw [List.length_append] at h0
    have hA : A = [] := List.length_eq_zero_iff.mp (by simp at h0; simp [h0])
    have hB : B = [] := List.length_eq_zero_iff.mp (by simp at h0; simp [h0])
    subst hA hB
    have h1 : ra = [] := h1
    have h3 : rb = [] := h3
    subst h1 h3
    simp at e
    rw [e]; exact h2
  · intro h
    exact ⟨[], [], [], r, [], by simp, by simp, rfl, h, rfl⟩
theorem free_last {P Q : Nat → List Nat → Prop} {E : List Nat} {b : Nat} {x : List (List Nat)} {r : List Nat} (hE : ∀ e ∈ E, ∀ r, Q e r ↔ P e r) (hb : ∀ r, Q b r ↔ (SeqR (FreeR P) x r ∨ SeqR (FreeR P) x r.reverse)) : FreeR Q (E ++ [b]) r ↔ NFree P E x r := by
  constructor
  · rintro ⟨M, hM, hs⟩
    have hbM : b ∈ M := hM.mem_iff.mpr (by simp)
    obtain ⟨A, B, e⟩ := List.append_of_mem hbM
    subst e
    obtain ⟨ra, r2, e1, h1, h2⟩ := (SeqR_app A (b :: B) r).mp hs
    obtain ⟨rq, rb, e2, h3, h4⟩ := h2
    have hAB : (A ++ B).Perm E := by
      have h5 : (b :: (A ++ B)).Perm (b :: E) := by
        refine List.Perm.trans ?_ (hM.trans ?_)
        · exact List.perm_middle.symm
        · exact List.perm_append_comm
      exact List.Perm.cons_inv h5
    refine ⟨A, B, ra, rq, rb, hAB, by rw [e1, e2], ?_, (hb rq).mp h3, ?_⟩
    · exact (SeqR_congr (fun c hc r => hE c (hAB.mem_iff.mp (by simp [hc])) r)).mp h1
    · exact (SeqR_congr (fun c hc r => hE c (hAB.mem_iff.mp (by simp [hc])) r)).mp h4
  · rintro ⟨A, B, ra, rq, rb, hAB, e, h1, h2, h3⟩
    refine ⟨A ++ b :: B, ?_, (SeqR_app A (b :: B) r).mpr ⟨ra, rq ++ rb, e, ?_, rq, rb, rfl, (hb rq).mpr h2, ?_⟩⟩
    · refine List.Perm.trans List.perm_middle (List.Perm.trans (hAB.cons b) ?_)
      exact List.perm_append_comm (l₁ := [b])
    · exact (SeqR_congr (fun c hc r => hE c (hAB.mem_iff.mp (by simp [hc])) r)).mpr h1
    · exact (SeqR_congr (fun c hc r => hE c (hAB.mem_iff.mp (by simp [hc])) r)).mpr h3
section
variable {σ0 σ τ : Mem} {t : Nat} {kd0 kdF : Nat → Bool} {ch0 chF : Nat → List Nat} {st0 stF : Nat → Nat} {S d N : Nat} {X sp nw : List Nat} {items : List (List Nat)}
theorem frN_free (h8 : 8 ≤ N) {kd : Nat → Bool} {ch : Nat → List Nat} (hk : kd N = false) (r : List Nat) : Fr kd ch N r ↔ FreeR (Fr kd ch) (ch N) r := by
  rw [Fr_node h8, hk]
  unfold OrdR FreeR
  simp only [Bool.false_eq_true, if_false]
theorem frN_turn (h8 : 8 ≤ N) {kd : Nat → Bool} {ch : Nat → List Nat} (hk : kd N = true) {x : List (List Nat)} {P : Nat → List Nat → Prop} (hc : ∀ r, SeqR (Fr kd ch) (ch N) r ↔ SeqR (FreeR P) x r) (r : List Nat) : Fr kd ch N r ↔ (SeqR (FreeR P) x r ∨ SeqR (FreeR P) x r.reverse) := by
  rw [Fr_node h8, hk]
  unfold OrdR
  simp only [if_true]
  constructor
  · rintro ⟨L, hL | hL, h⟩
    · subst hL; exact Or.inl ((hc r).mp h)
    · subst hL
      right
      have := SeqR_rev (fun c _ r h => Fr_rev h) h
      rw [List.reverse_reverse] at this
      exact (hc _).mp this
  · rintro (h | h)
    · exact ⟨_, Or.inl rfl, (hc r).mpr h⟩
    · have := SeqR_rev (fun c _ r h => Fr_rev h) ((hc _).mpr h)
      rw [List.reverse_reverse] at this
      exact ⟨_, Or.inr rfl, this⟩
/- the node that was free -/
theorem free_fin (h8 : 8 ≤ N) (hwf : Wf kd0 ch0 st0 N) (hk : kd0 N = false) (hfr : ∀ r, NFree (Fr kd0 ch0) (fE st0 S (ch0 N) 0) items r ↔ (FreeR (Fr kd0 ch0) (ch0 N) r ∧ Cons S r)) (hE : ElB kd0 ch0 st0 S d (fE st0 S (ch0 N) 1 ++ fE st0 S (ch0 N) 2) items)
    (hch : ∀ c ∈ ch0 N, WfD kd0 ch0 st0 d c)
    (hcov : ∀ p ∈ fE st0 S (ch0 N) 1 ++ fE st0 S (ch0 N) 2, ∀ i ∈ ndD ch0 d p, stt st0 S i = 1 → i ∈ sp)
    (e7 : ∀ p ∈ ch0 N, stt st0 S p = 0 → EltK kd0 ch0 st0 kdF chF stF d p)
    (c1 : ∀ r, SeqR (Fr kdF chF) X r ↔ SeqR (FreeR (Fr kd0 ch0)) items r) (c2 : orL stF X = orL st0 items.flatten) (c3 : Dj stF X) (c4 : ∀ a ∈ X, WfD kdF chF stF (d + 1) a) (c5 : ∀ c ∈ items.flatten, ∀ i ∈ ndD ch0 d c, ∃ a ∈ X, Rc chF a i)
    (hsN : stF N = st0 N)
    (hcase : (fE st0 S (ch0 N) 0 = [] ∧ chF N = X ∧ kdF N = true ∧ 3 ≤ X.length ∧ ∀ i, 8 ≤ i → chF i ≠ [] → ch0 i = [] → i ∈ X) ∨
      (fE st0 S (ch0 N) 0 ≠ [] ∧ ∃ b, chF N = fE st0 S (ch0 N) 0 ++ [b] ∧ kdF N = false ∧ Wf kdF chF stF b ∧ stF b = orL st0 items.flatten ∧ (∀ r, Fr kdF chF b r ↔ (SeqR (FreeR (Fr kd0 ch0)) items r ∨ SeqR (FreeR (Fr kd0 ch0)) items r.reverse)) ∧ (∀ a ∈ X, ∀ i, Rc chF a i → Rc chF b i) ∧ ∀ i, 8 ≤ i → chF i ≠ [] → ch0 i = [] → i ∈ X ∨ i = b)) : NRes kd0 ch0 st0 S N sp kdF chF stF := by
  obtain ⟨g1, g2, g3, gD, gW⟩ := (Wf_node h8).mp hwf
  have hcovR : ∀ i, Rc ch0 N i → i ∉ sp → i = N ∨ (∃ a ∈ X, Rc chF a i) ∨ ∃ p ∈ fE st0 S (ch0 N) 0, Rc chF p i := fun i hi hs => by
    rcases rc_node hi with q | ⟨p, hp, q⟩
    · exact Or.inl q
    · right
      have hq := q.nd (hch p hp)
      rcases stt_3 st0 S p with hp0 | hp0 | hp0
      · exact Or.inr ⟨p, fE_mem.mpr ⟨hp, hp0⟩, (e7 p hp hp0).2.2.2 i hq⟩
      · left
        have hpm : p ∈ fE st0 S (ch0 N) 1 ++ fE st0 S (ch0 N) 2 := List.mem_append.mpr (Or.inl (fE_mem.mpr ⟨hp, hp0⟩))
        have hs1 : stt st0 S i ≠ 1 := fun q1 => hs (hcov p hpm i hq q1)
        obtain ⟨c, hc, hic⟩ := hE.2.2.2.2 p hpm i hq hs1
        exact c5 c hc i hic
      · left
        have hpm : p ∈ fE st0 S (ch0 N) 1 ++ fE st0 S (ch0 N) 2 := List.mem_append.mpr (Or.inr (fE_mem.mpr ⟨hp, hp0⟩))
        have hs1 : stt st0 S i ≠ 1 := fun q1 => hs (hcov p hpm i hq q1)
        obtain ⟨c, hc, hic⟩ := hE.2.2.2.2 p hpm i hq hs1
        exact c5 c hc i hic
  have hoA : st0 N = orL st0 (fE st0 S (ch0 N) 0) ||| orL st0 items.flatten := by
    rw [hE.2.2.2.1, ← orL_app, ← List.append_assoc, g3]
    exact orL_perm (fun c => (fE_part st0 S (ch0 N)).mem_iff.symm)
  rcases hcase with ⟨k0, k1, k2, k3, k4⟩ | ⟨k0, b, k1, k2, k3, k4, k5, k6, k7⟩
  · refine ⟨?_, hsN, ?_, ?_, ?_⟩
    · rw [Wf_node h8, k1, k2, hsN]
      refine ⟨by omega, fun _ => k3, ?_, c3, fun c hc => ⟨_, c4 c hc⟩⟩
      rw [c2, hoA, k0]
      show 0 ||| _ = _
      rw [Nat.zero_or]
    · intro r
      rw [frN_turn h8 k2 (x := items) (P := Fr kd0 ch0) (by rw [k1]; exact c1) r, ← nfree_nil, ← k0, hfr, frN_free h8 hk]
    · intro i hi hs
      rcases hcovR i hi hs with q | ⟨a, ha, q⟩ | ⟨p, hp, q⟩
      · subst q; exact Rc.self h8
      · exact Rc.child h8 (by rw [k1]; exact ha) q
      · rw [k0] at hp; simp at hp
    · intro i h8i hi h0
      exact Rc.child h8 (by rw [k1]; exact k4 i h8i hi h0) (Rc.self h8i)
  · have hEk : ∀ e ∈ fE st0 S (ch0 N) 0, EltK kd0 ch0 st0 kdF chF stF d e := fun e he => e7 e (fE_mem.mp he).1 (fE_mem.mp he).2
    have hDp : Dj st0 (fE st0 S (ch0 N) 0 ++ (fE st0 S (ch0 N) 1 ++ fE st0 S (ch0 N) 2)) := by
      rw [← List.append_assoc]; exact Dj_perm (fE_part st0 S (ch0 N)) gD
    unfold Dj at hDp
    rw [List.pairwise_append] at hDp
    obtain ⟨dp1, dp2, dp3⟩ := hDp
    have hoE : orL stF (fE st0 S (ch0 N) 0) = orL st0 (fE st0 S (ch0 N) 0) := orL_same (fun c hc => (hEk c hc).2.2.1)
    refine ⟨?_, hsN, ?_, ?_, ?_⟩
    · rw [Wf_node h8, k1, k2, hsN]
      refine ⟨?_, (fun e => (by cases e)), ?_, ?_, ?_⟩
      · rw [List.length_append]
        have := List.length_pos_iff.mpr k0
        simp; omega
      · rw [orL_snoc, k4, hoE]; exact hoA
      · unfold Dj
        rw [List.pairwise_append]
        refine ⟨?_, by simp, ?_⟩
        · refine List.Pairwise.imp_of_mem ?_ dp1
          intro x y hx hy hxy
          rw [(hEk x hx).2.2.1, (hEk y hy).2.2.1]; exact hxy
        · intro x hx y hy
          rw [List.mem_singleton] at hy
          subst hy
          rw [(hEk x hx).2.2.1, k4, and0_iff]
          intro j h1 h2
          rw [hE.2.2.2.1] at h2
          obtain ⟨c, hc, h3⟩ := (orL_bit st0 _ j).mp h2
          exact and0_iff.mp (dp3 x hx c hc) j h1 h3
      · intro c hc
        rw [List.mem_append, List.mem_singleton] at hc
        rcases hc with hc | hc
        · exact ⟨_, (hEk c hc).1⟩
        · subst hc; exact k3
    · intro r
      rw [frN_free h8 k2, k1, free_last (P := Fr kd0 ch0) (x := items) (fun e he r => (hEk e he).2.1 r) k5, hfr, frN_free h8 hk]
    · intro i hi hs
      rcases hcovR i hi hs with q | ⟨a, ha, q⟩ | ⟨p, hp, q⟩
      · subst q; exact Rc.self h8
      · exact Rc.child h8 (by rw [k1]; simp) (k6 a ha i q)
      · exact Rc.child h8 (by rw [k1]; simp [hp]) q
    · intro i h8i hi h0
      rcases k7 i h8i hi h0 with q | q
      · exact Rc.child h8 (by rw [k1]; simp) (k6 i q i (Rc.self h8i))
      · subst q; exact Rc.child h8 (by rw [k1]; simp) (Rc.self h8i)
end

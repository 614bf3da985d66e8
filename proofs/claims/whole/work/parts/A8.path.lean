theorem child_proper {kd : Nat → Bool} {ch : Nat → List Nat} {st : Nat → Nat} {id c : Nat} (h8 : 8 ≤ id) (hw : Wf kd ch st id) (hc : c ∈ ch id) : ¬ subM (st id) (st c) := by
  intro hs
  obtain ⟨g1, -, g3, gD, gW⟩ := (Wf_node h8).mp hw
  obtain ⟨e, he, hne⟩ := two_len g1 (Dj_nodup gD (fun x hx => Wf_ne0 x (gW x hx))) c
  have h0 : st e &&& st c = 0 := Classical.byContradiction (fun q => hne (Dj_uniq gD he hc q))
  obtain ⟨i, hi⟩ := Nat.exists_testBit_of_ne_zero (Wf_ne0 e (gW e he))
  have h1 : (st id).testBit i = true := by
    rw [g3]; exact (orL_bit st _ i).mpr ⟨e, he, hi⟩
  exact and0_iff.mp h0 i hi (hs i h1)
theorem child_sub {kd : Nat → Bool} {ch : Nat → List Nat} {st : Nat → Nat} {id c : Nat} (h8 : 8 ≤ id) (hw : Wf kd ch st id) (hc : c ∈ ch id) : subM (st c) (st id) := fun i hi => by
  rw [((Wf_node h8).mp hw).2.2.1]; exact (orL_bit st _ i).mpr ⟨c, hc, hi⟩
theorem subM.tr {a b c : Nat} (h1 : subM a b) (h2 : subM b c) : subM a c := fun i hi => h2 i (h1 i hi)
theorem Pth.sub {kd : Nat → Bool} {ch : Nat → List Nat} {st : Nat → Nat} {S N : Nat} : ∀ {k id : Nat}, Wf kd ch st id → Pth ch st S N k id → subM (st N) (st id)
  | 0, id, _, h => by have h : id = N := h; subst h; exact fun _ h => h
  | k + 1, id, hw, ⟨h8, c, hc, _, hp⟩ => (Pth.sub (((Wf_node h8).mp hw).2.2.2.2 c hc) hp).tr (child_sub h8 hw hc)
theorem Dj_ne {kd : Nat → Bool} {ch : Nat → List Nat} {st : Nat → Nat} {id c e : Nat} (h8 : 8 ≤ id) (hw : Wf kd ch st id) (hc : c ∈ ch id) (he : e ∈ ch id) (hne : e ≠ c) : st e &&& st c = 0 := Classical.byContradiction (fun q => hne (Dj_uniq ((Wf_node h8).mp hw).2.2.2.1 he hc q))
section
variable {kd0 kdF : Nat → Bool} {ch0 chF : Nat → List Nat} {st0 stF : Nat → Nat} {S N : Nat} {sp : List Nat}
theorem path_ok (hk : Kpt kd0 ch0 st0 kdF chF stF N sp) (h8N : 8 ≤ N) (hsp8 : ∀ i ∈ sp, 8 ≤ i) (hspN : ∀ i ∈ sp, subM (st0 i) (st0 N)) (hN0 : st0 N ≠ 0) (hWN : Wf kdF chF stF N) (hsN : stF N = st0 N) (hRN : ∀ i, Rc ch0 N i → i ∉ sp → Rc chF N i) : ∀ (k id : Nat), Wf kd0 ch0 st0 id → Pth ch0 st0 S N k id → Ab kd0 kdF ch0 chF st0 S N k id ∧ Wf kdF chF stF id ∧ stF id = st0 id ∧ ∀ i, Rc ch0 id i → i ∉ sp → Rc chF id i
  | 0, id, hw, hp => by
    have hp : id = N := hp
    subst hp
    exact ⟨rfl, hWN, hsN, hRN⟩
  | k + 1, id, hw, ⟨h8, c, hc, hSc, hp⟩ => by
    obtain ⟨g1, g2, g3, gD, gW⟩ := (Wf_node h8).mp hw
    obtain ⟨i1, i2, i3, i4⟩ := path_ok hk h8N hsp8 hspN hN0 hWN hsN hRN k c (gW c hc) hp
    have hNc := hp.sub (gW c hc)
    have hidN : id ≠ N := fun e => child_proper h8 hw hc (by rw [e]; exact hNc)
    have hids : id ∉ sp := fun q => child_proper h8 hw hc ((hspN id q).tr hNc)
    obtain ⟨k1, k2, k3⟩ := hk id (us_wf hw) hidN hids
    have hnd := Dj_nodup gD (fun x hx => Wf_ne0 x (gW x hx))
    have hsib : ∀ e ∈ ch0 id, e ≠ c → Wf kdF chF stF e ∧ (∀ r, Fr kdF chF e r ↔ Fr kd0 ch0 e r) ∧ stF e = st0 e ∧ (∀ i, Rc ch0 e i → Rc chF e i) ∧ stt st0 S e = 0 := fun e he hne => by
      have h0 := Dj_ne h8 hw hc he hne
      obtain ⟨d, hd⟩ := gW e he
      have hno : ∀ i ∈ ndD ch0 d e, i ≠ N ∧ i ∉ sp := fun i hi => by
        obtain ⟨a1, a2, a3⟩ := nd_sub d e hd i hi
        have key : ¬ subM (st0 i) (st0 N) := fun q => by
          obtain ⟨j, hj⟩ := Nat.exists_testBit_of_ne_zero (Wf_ne0 i a2)
          exact and0_iff.mp h0 j (a1 j hj) (hNc j (q j hj))
        exact ⟨fun q => key (by rw [q]; exact fun _ h => h), fun q => key (hspN i q)⟩
      obtain ⟨b1, b2, b3, b4⟩ := kept_c hk h8N hsp8 hd hno
      refine ⟨⟨d, b1⟩, b2, b3, fun i hi => b4 i (hi.nd hd), ?_⟩
      rw [stt0_iff]
      intro j hj
      cases q : S.testBit j
      · rfl
      · exact (and0_iff.mp h0 j hj (hSc j q)).elim
    have hst : ∀ e ∈ ch0 id, stF e = st0 e := fun e he => by
      by_cases q : e = c
      · rw [q]; exact i3
      · exact (hsib e he q).2.2.1
    refine ⟨⟨h8, k2, k1, ?_⟩, ?_, k3, ?_⟩
    · obtain ⟨X, Y, e⟩ := List.append_of_mem hc
      refine ⟨X, c, Y, e, i1, ?_⟩
      intro x hx
      have hxm : x ∈ ch0 id := by rw [e]; simp; rcases hx with h | h <;> simp [h]
      have hxc : x ≠ c := fun q => by
        rw [e, List.nodup_append] at hnd
        obtain ⟨n1, n2, n3⟩ := hnd
        rw [List.nodup_cons] at n2
        rcases hx with h | h
        · exact n3 x h c (by simp) q
        · exact n2.1 (by rw [← q]; exact h)
      exact ⟨(hsib x hxm hxc).2.1, (hsib x hxm hxc).2.2.2.2⟩
    · rw [Wf_node h8, k2, k1, k3]
      refine ⟨g1, g2, ?_, ?_, ?_⟩
      · rw [g3]; exact (orL_same hst).symm
      · unfold Dj at gD ⊢
        refine List.Pairwise.imp_of_mem ?_ gD
        intro x y hx hy hxy
        rw [hst x hx, hst y hy]; exact hxy
      · intro e he
        by_cases q : e = c
        · rw [q]; exact i2
        · exact (hsib e he q).1
    · intro i hi hs
      obtain ⟨d, hd⟩ := hi
      have hd := nd_mono1 _ _ _ hd
      rw [nd_in (by omega)] at hd
      rcases hd with hd | ⟨e, he, hd⟩
      · subst hd; exact Rc.self h8
      · refine Rc.child h8 (by rw [k2]; exact he) ?_
        by_cases q : e = c
        · subst q; exact i4 i ⟨d, hd⟩ hs
        · exact (hsib e he q).2.2.2.1 i ⟨d, hd⟩
end

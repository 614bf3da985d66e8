theorem cons_drop {S : Nat} : ∀ {x r : List Nat}, Cons S (x ++ r) → Cons S r
  | [], r, h => h
  | z :: x, r, h => by
    rw [List.cons_append, cons_cons] at h
    by_cases q : S.testBit z = true
    · rw [if_pos q] at h; exact cons_drop (pre_Cons h)
    · rw [if_neg q] at h; exact cons_drop h
theorem cons_seg {S : Nat} {x a y : List Nat} (h : Cons S (x ++ (a ++ y))) : Cons S a := by
  have h1 := cons_drop h
  rw [← cons_rev, List.reverse_append] at h1
  exact cons_rev.mp (cons_drop h1)
theorem seq_seg {P : Nat → List Nat → Prop} {c : Nat} : ∀ {L : List Nat} {r : List Nat}, c ∈ L → SeqR P L r → ∃ x a y, r = x ++ (a ++ y) ∧ P c a
  | e :: L, r, hc, ⟨a, b, er, ha, hb⟩ => by
    rw [List.mem_cons] at hc
    rcases hc with hc | hc
    · subst hc; exact ⟨[], a, b, er, ha⟩
    · obtain ⟨x, a2, y, e2, h2⟩ := seq_seg hc hb
      exact ⟨a ++ x, a2, y, by rw [er, e2, List.append_assoc], h2⟩
theorem path_seg {kd : Nat → Bool} {ch : Nat → List Nat} {st : Nat → Nat} {S N : Nat} : ∀ {k id : Nat} {r : List Nat}, Pth ch st S N k id → Fr kd ch id r → ∃ x a y, r = x ++ (a ++ y) ∧ Fr kd ch N a
  | 0, id, r, h, hf => by have h : id = N := h; subst h; exact ⟨[], r, [], by simp, hf⟩
  | k + 1, id, r, ⟨h8, c, hc, _, hp⟩, hf => by
    obtain ⟨L, hL, hs⟩ := (Fr_node h8).mp hf
    obtain ⟨x, a, y, e, ha⟩ := seq_seg ((OrdR_mem hL).mpr hc) hs
    obtain ⟨x2, a2, y2, e2, h2⟩ := path_seg hp ha
    exact ⟨x ++ x2, a2, y2 ++ y, by rw [e, e2]; simp, h2⟩
theorem nE_two {kd : Nat → Bool} {ch : Nat → List Nat} {st : Nat → Nat} {S N : Nat} (h8 : 8 ≤ N) (hw : Wf kd ch st N) (hs : subM S (st N)) (h0 : S ≠ 0) (hno : ∀ c ∈ ch N, ¬ subM S (st c)) : 2 ≤ nE st S (ch N) := by
  obtain ⟨g1, g2, g3, gD, gW⟩ := (Wf_node h8).mp hw
  have hmem : ∀ i, S.testBit i = true → ∃ c ∈ (ch N).filter (fun c => !(stt st S c == 0)), (st c).testBit i = true := fun i hi => by
    have := hs i hi
    rw [g3] at this
    obtain ⟨c, hc, hb⟩ := (orL_bit st _ i).mp this
    refine ⟨c, List.mem_filter.mpr ⟨hc, ?_⟩, hb⟩
    have : stt st S c ≠ 0 := fun e => by have := stt0_iff.mp e i hb; rw [hi] at this; cases this
    simpa using this
  unfold nE
  rcases hL : (ch N).filter (fun c => !(stt st S c == 0)) with _ | ⟨c, _ | ⟨e, T⟩⟩
  · exfalso
    obtain ⟨i, hi⟩ := Nat.exists_testBit_of_ne_zero h0
    obtain ⟨c, hc, -⟩ := hmem i hi
    rw [hL] at hc; simp at hc
  · exfalso
    have hc : c ∈ ch N := (List.mem_filter.mp (by rw [hL]; simp : c ∈ (ch N).filter (fun c => !(stt st S c == 0)))).1
    refine hno c hc (fun i hi => ?_)
    obtain ⟨e, he, hb⟩ := hmem i hi
    rw [hL, List.mem_singleton] at he
    rw [← he]; exact hb
  · simp
theorem spl_ok {kd : Nat → Bool} {ch : Nat → List Nat} {st : Nat → Nat} {S d c : Nat} (hw : WfD kd ch st d c) (h1 : stt st S c = 1) : SplOk (Fr kd ch) S (splitA kd ch st S d) c := splitA_ok d c hw h1
section
variable {σ0 σ τ : Mem} {t : Nat} {kd0 kd : Nat → Bool} {ch0 ch : Nat → List Nat} {st0 st : Nat → Nat} {S d N : Nat} {L X hd sp nw : List Nat} {items : List (List Nat)}
/- the new functions: N's, and the split ones given back -/
theorem fin_base (hA0 : AT σ0 t kd0 ch0 st0) (h : LnS t kd0 ch0 st0 S d σ L τ X items kd ch st hd sp nw) (hE : ElB kd0 ch0 st0 S d L items) (hw : WfD kd0 ch0 st0 (d + 1) N) (h8 : 8 ≤ N) (hn : N < 24) (hLN : ∀ p ∈ L, p ∈ ch0 N) (hcov : ∀ p ∈ ch0 N, p ∈ L ∨ stt st0 S p = 0) {kdF : Nat → Bool} {chF : Nat → List Nat} {stF : Nat → Nat} (hsame : ∀ i, i ≠ N → i ∉ sp → (ch i ≠ [] ∨ i < 8) → kdF i = kd i ∧ chF i = ch i ∧ stF i = st i) : Kpt kd0 ch0 st0 kdF chF stF N sp ∧ (∀ i ∈ sp, 8 ≤ i) ∧ (∀ i ∈ sp, subM (st0 i) (st0 N)) ∧ ItL kdF chF stF st0 nw X items ∧ (∀ i ∈ nw, 8 ≤ i) ∧ (∀ c ∈ items.flatten, EltK kd0 ch0 st0 kdF chF stF d c) ∧ (∀ p ∈ ch0 N, stt st0 S p = 0 → EltK kd0 ch0 st0 kdF chF stF d p) ∧ ∀ a ∈ X, stF a = st a := by
  obtain ⟨hne, hl2, hl8, hs256, hD, hor, d', hd', hch⟩ := node_ok hA0 hw h8 hn
  have hdd : d' = d := by omega
  subst hdd
  have hel := h.elt hE hw h8 hne hLN
  obtain ⟨h1, h2, h3, h4, h5, h6, h7, h8', h9, h10, h11⟩ := h
  have hK : Kpt kd0 ch0 st0 kdF chF stF N sp := fun i hi hiN his => by
    obtain ⟨a1, a2, a3⟩ := h3.1 i hi
    have hu : ch i ≠ [] ∨ i < 8 := by
      rcases h3.us hi with q | q
      · exact Or.inr q
      · exact Or.inl q
    obtain ⟨b1, b2, b3⟩ := hsame i hiN his hu
    exact ⟨b1.trans a1, b2.trans (a3 his), b3.trans a2⟩
  have hs8 : ∀ i ∈ sp, 8 ≤ i := fun i hi => (h9 i hi).1
  have hsN : ∀ i ∈ sp, subM (st0 i) (st0 N) := fun i hi => by
    obtain ⟨-, p, hp, hq⟩ := h10 i hi
    exact ((nd_sub d' p (hch p (hLN p hp)).1 i hq).1).tr (child_sub h8 ⟨_, hw⟩ (hLN p hp))
  have hnsp : ∀ i ∈ nw, i ∉ sp ∧ i ≠ N := fun i hi => by
    obtain ⟨a1, a2, a3, a4⟩ := h3.2.2.1 i hi
    exact ⟨fun q => (h3.2.1 i q).1 a3, fun e => hne (by rw [← e]; exact a3)⟩
  have hkc : ∀ c p, p ∈ ch0 N → WfD kd0 ch0 st0 d' c → stt st0 S c ≠ 1 → st0 c ≠ 0 → (∀ i ∈ ndD ch0 d' c, i ∈ ndD ch0 d' p) → EltK kd0 ch0 st0 kdF chF stF d' c := fun c p hp hwc hsc hc0 hsub => by
    refine kept_c hK h8 hs8 hwc (fun i hi => ⟨fun e => ?_, fun q => ?_⟩)
    · subst e; exact nd_notin hw h8 hp (hsub _ hi)
    · exact hsc (stt_up (nd_sub d' c hwc i hi).1 hc0 (h10 i q).1)
  refine ⟨hK, hs8, hsN, h4.mono (fun i hi => ?_), fun i hi => (h3.2.2.1 i hi).1, ?_, ?_, ?_⟩
  · obtain ⟨a1, a2, a3⟩ := hsame i (hnsp i hi).2 (hnsp i hi).1 (Or.inl (h3.2.2.1 i hi).2.2.2)
    exact ⟨a1, a2, a3, hi⟩
  · intro c hc
    obtain ⟨b1, b2, b3, b4, b5, p, hp, b6, b7⟩ := hE.2.1 c hc
    exact hkc c p (hLN p hp) b3 b5 (Wf_ne0 c ⟨_, b3⟩) b7
  · intro p hp hs
    exact hkc p p hp (hch p hp).1 (by omega) (hch p hp).2.2.2.2 (fun _ h => h)
  · intro a ha
    obtain ⟨a1, a2, a3, a4⟩ := hel a ha
    refine (hsame a a2 ?_ ?_).2.2
    · intro q
      rcases itl_mem h4 a ha with g | g
      · exact (hnsp a g).1 q
      · obtain ⟨b1, b2, b3, b4, b5, -⟩ := hE.2.1 a (List.mem_flatten.mpr ⟨[a], g, by simp⟩)
        exact b5 (h10 a q).1
    · rcases a3 with q | q
      · exact Or.inr q
      · exact Or.inl q
end

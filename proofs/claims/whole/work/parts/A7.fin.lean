theorem nd_mono1 {ch : Nat → List Nat} : ∀ (d root i : Nat), i ∈ ndD ch d root → i ∈ ndD ch (d + 1) root
  | 0, root, i, h => by unfold ndD at h; simp at h
  | d + 1, root, i, h => by
    by_cases h8 : root < 8
    · unfold ndD at h; rw [if_pos h8] at h; simp at h
    · rw [nd_in h8] at h ⊢
      rcases h with h | ⟨c, hc, h⟩
      · exact Or.inl h
      · exact Or.inr ⟨c, hc, nd_mono1 d c i h⟩
theorem nd_mono {ch : Nat → List Nat} {d e root i : Nat} (h : i ∈ ndD ch d root) (he : d ≤ e) : i ∈ ndD ch e root := by
  obtain ⟨k, rfl⟩ := Nat.exists_eq_add_of_le he
  clear he
  induction k with
  | zero => exact h
  | succ k ih => exact nd_mono1 _ _ _ ih
def Rc (ch : Nat → List Nat) (root i : Nat) : Prop := ∃ d, i ∈ ndD ch d root
theorem Rc.self {ch : Nat → List Nat} {i : Nat} (h : 8 ≤ i) : Rc ch i i := ⟨1, by rw [nd_in (by omega)]; exact Or.inl rfl⟩
theorem Rc.child {ch : Nat → List Nat} {r c i : Nat} (h : 8 ≤ r) (hc : c ∈ ch r) (hi : Rc ch c i) : Rc ch r i := by
  obtain ⟨d, hd⟩ := hi
  exact ⟨d + 1, by rw [nd_in (by omega)]; exact Or.inr ⟨c, hc, hd⟩⟩
theorem Rc.tr {ch : Nat → List Nat} {i : Nat} : ∀ (d : Nat) (r j : Nat), j ∈ ndD ch d r → Rc ch j i → Rc ch r i
  | 0, r, j, h, _ => by unfold ndD at h; simp at h
  | d + 1, r, j, h, hi => by
    by_cases h8 : r < 8
    · unfold ndD at h; rw [if_pos h8] at h; simp at h
    · rw [nd_in h8] at h
      rcases h with h | ⟨c, hc, h⟩
      · subst h; exact hi
      · exact Rc.child (by omega) hc (Rc.tr d c j h hi)
theorem Rc.nd {kd : Nat → Bool} {ch : Nat → List Nat} {st : Nat → Nat} {D root i : Nat} (hw : WfD kd ch st D root) (h : Rc ch root i) : i ∈ ndD ch D root := by
  obtain ⟨d, hd⟩ := h
  by_cases q : d ≤ D
  · exact nd_mono hd q
  · rw [(fuel_e hw (by omega : D ≤ d)).1] at hd; exact hd
theorem nd_same {ch ch2 : Nat → List Nat} : ∀ (d id : Nat), (∀ i ∈ ndD ch d id, ch2 i = ch i) → ndD ch2 d id = ndD ch d id
  | 0, id, _ => rfl
  | d + 1, id, h => by
    by_cases h8 : id < 8
    · unfold ndD; rw [if_pos h8, if_pos h8]
    · have e : ch2 id = ch id := h id ((nd_in h8).mpr (Or.inl rfl))
      unfold ndD
      rw [if_neg h8, if_neg h8, e]
      congr 1
      exact flatMap_congr' (fun c hc => nd_same d c (fun i hi => h i ((nd_in h8).mpr (Or.inr ⟨c, hc, hi⟩))))
section
variable {kd0 kdF : Nat → Bool} {ch0 chF : Nat → List Nat} {st0 stF : Nat → Nat} {S d N : Nat} {L X sp nw : List Nat} {items : List (List Nat)}
def Kpt (kd0 : Nat → Bool) (ch0 : Nat → List Nat) (st0 : Nat → Nat) (kdF : Nat → Bool) (chF : Nat → List Nat) (stF : Nat → Nat) (N : Nat) (sp : List Nat) : Prop := ∀ i, Us ch0 i → i ≠ N → i ∉ sp → kdF i = kd0 i ∧ chF i = ch0 i ∧ stF i = st0 i
theorem us_wf {kd : Nat → Bool} {ch : Nat → List Nat} {st : Nat → Nat} {c : Nat} (h : Wf kd ch st c) : Us ch c := by
  by_cases q : c < 8
  · exact Or.inl q
  · right
    have := ((Wf_node (by omega)).mp h).1
    intro e; rw [e] at this; simp at this
theorem kept_c (hk : Kpt kd0 ch0 st0 kdF chF stF N sp) (h8N : 8 ≤ N) (hsp8 : ∀ i ∈ sp, 8 ≤ i) {c : Nat} (hw : WfD kd0 ch0 st0 d c) (hno : ∀ i ∈ ndD ch0 d c, i ≠ N ∧ i ∉ sp) : WfD kdF chF stF d c ∧ (∀ r, Fr kdF chF c r ↔ Fr kd0 ch0 c r) ∧ stF c = st0 c ∧ ∀ i ∈ ndD ch0 d c, Rc chF c i := by
  have hall : ∀ i ∈ ndD ch0 d c, kdF i = kd0 i ∧ chF i = ch0 i ∧ stF i = st0 i := fun i hi => hk i (us_wf (nd_sub d c hw i hi).2.1) (hno i hi).1 (hno i hi).2
  have hleaf : ∀ i, i < 8 → stF i = st0 i := fun i hi => (hk i (Or.inl hi) (by omega) (fun q => by have := hsp8 i q; omega)).2.2
  refine ⟨WfD_same d c hw hall hleaf, Fr_same d c hw (fun i hi => ⟨(hall i hi).1, (hall i hi).2.1⟩), ?_, ?_⟩
  · by_cases q : c < 8
    · exact hleaf c q
    · exact (hall c (nd_self hw (by omega))).2.2
  · intro i hi
    refine ⟨d, ?_⟩
    rw [nd_same d c (fun i hi => (hall i hi).2.1)]; exact hi
/- what is known of an element of the items -/
def EltK (kd0 : Nat → Bool) (ch0 : Nat → List Nat) (st0 : Nat → Nat) (kdF : Nat → Bool) (chF : Nat → List Nat) (stF : Nat → Nat) (d c : Nat) : Prop := WfD kdF chF stF d c ∧ (∀ r, Fr kdF chF c r ↔ Fr kd0 ch0 c r) ∧ stF c = st0 c ∧ ∀ i ∈ ndD ch0 d c, Rc chF c i
theorem itm_fr {nw : List Nat} {a : Nat} {I : List Nat} (h : Itm kdF chF stF st0 nw a I) (hnw : ∀ i ∈ nw, 8 ≤ i) (hk : ∀ c ∈ I, EltK kd0 ch0 st0 kdF chF stF d c) (hd : Dj st0 I) : (∀ r, Fr kdF chF a r ↔ FreeR (Fr kd0 ch0) I r) ∧ stF a = orL st0 I ∧ WfD kdF chF stF (d + 1) a ∧ ∀ c ∈ I, ∀ i ∈ ndD ch0 d c, Rc chF a i := by
  rcases h with e | ⟨h1, h2, h3, h4, h5⟩
  · subst e
    obtain ⟨a1, a2, a3, a4⟩ := hk a (by simp)
    refine ⟨fun r => by rw [a2, FreeR_one], by rw [a3]; show _ = st0 a ||| 0; rw [Nat.or_zero], WfD_mono a1 (by omega), ?_⟩
    intro c hc
    rw [List.mem_singleton] at hc
    subst hc
    exact a4
  · have h8 := hnw a h1
    refine ⟨?_, h5, ?_, ?_⟩
    · intro r
      rw [Fr_node h8, h3, h4]
      unfold OrdR FreeR
      simp only [Bool.false_eq_true, if_false]
      constructor
      · intro ⟨L, hL, hs⟩
        exact ⟨L, hL, (SeqR_congr (fun c hc r => (hk c (hL.mem_iff.mp hc)).2.1 r)).mp hs⟩
      · intro ⟨L, hL, hs⟩
        exact ⟨L, hL, (SeqR_congr (fun c hc r => (hk c (hL.mem_iff.mp hc)).2.1 r)).mpr hs⟩
    · unfold WfD
      rw [if_neg (by omega), h4, h3]
      refine ⟨h2, (fun e => (by cases e)), ?_, ?_, fun c hc => (hk c hc).1⟩
      · rw [h5]; exact (orL_same (fun c hc => (hk c hc).2.2.1)).symm
      · unfold Dj at hd ⊢
        refine List.Pairwise.imp_of_mem ?_ hd
        intro x y hx hy hxy
        rw [(hk x hx).2.2.1, (hk y hy).2.2.1]; exact hxy
    · intro c hc i hi
      exact Rc.child h8 (by rw [h4]; exact hc) ((hk c hc).2.2.2 i hi)
theorem itl_fr (hnw : ∀ i ∈ nw, 8 ≤ i) : ∀ {X : List Nat} {items : List (List Nat)}, ItL kdF chF stF st0 nw X items → (∀ c ∈ items.flatten, EltK kd0 ch0 st0 kdF chF stF d c) → Dj st0 items.flatten → (∀ r, SeqR (Fr kdF chF) X r ↔ SeqR (FreeR (Fr kd0 ch0)) items r) ∧ orL stF X = orL st0 items.flatten ∧ Dj stF X ∧ (∀ a ∈ X, WfD kdF chF stF (d + 1) a) ∧ (∀ c ∈ items.flatten, ∀ i ∈ ndD ch0 d c, ∃ a ∈ X, Rc chF a i) ∧ ∀ a ∈ X, subM (stF a) (orL st0 items.flatten)
  | [], [], _, _, _ => ⟨fun r => Iff.rfl, rfl, by simp [Dj], by simp, by simp, by simp⟩
  | a :: X, I :: B, h, hk, hd => by
    rw [List.flatten_cons] at hk hd
    have hd2 := hd
    unfold Dj at hd2
    rw [List.pairwise_append] at hd2
    obtain ⟨d1, d2, d3⟩ := hd2
    obtain ⟨i1, i2, i3, i4⟩ := itm_fr h.1 hnw (fun c hc => hk c (by simp [hc])) d1
    obtain ⟨j1, j2, j3, j4, j5, j6⟩ := itl_fr hnw h.2 (fun c hc => hk c (List.mem_append.mpr (Or.inr hc))) d2
    rw [List.flatten_cons]
    refine ⟨?_, ?_, ?_, ?_, ?_, ?_⟩
    · intro r
      constructor
      · intro ⟨x, y, e, hx, hy⟩
        exact ⟨x, y, e, (i1 x).mp hx, (j1 y).mp hy⟩
      · intro ⟨x, y, e, hx, hy⟩
        exact ⟨x, y, e, (i1 x).mpr hx, (j1 y).mpr hy⟩
    · show stF a ||| orL stF X = _
      rw [orL_app, i2, j2]
    · unfold Dj at j3 ⊢
      rw [List.pairwise_cons]
      refine ⟨fun b hb => ?_, j3⟩
      rw [and0_iff, i2]
      intro k h1 h2
      obtain ⟨c, hc, hc2⟩ := (orL_bit st0 I k).mp h1
      obtain ⟨e, he, he2⟩ := (orL_bit st0 _ k).mp (j6 b hb k h2)
      exact and0_iff.mp (d3 c hc e he) k hc2 he2
    · intro b hb
      rw [List.mem_cons] at hb
      rcases hb with hb | hb
      · rw [hb]; exact i3
      · exact j4 b hb
    · intro c hc i hi
      rw [List.mem_append] at hc
      rcases hc with hc | hc
      · exact ⟨a, by simp, i4 c hc i hi⟩
      · obtain ⟨b, hb, hb2⟩ := j5 c hc i hi
        exact ⟨b, by simp [hb], hb2⟩
    · intro b hb k hk2
      rw [orL_app, Nat.testBit_or]
      rw [List.mem_cons] at hb
      rcases hb with hb | hb
      · subst hb; rw [i2] at hk2; rw [hk2]; rfl
      · rw [j6 b hb k hk2]; simp
  | [], _ :: _, h, _, _ => h.elim
  | _ :: _, [], h, _, _ => h.elim
end

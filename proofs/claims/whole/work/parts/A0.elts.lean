theorem and0_iff {a b : Nat} : a &&& b = 0 ↔ ∀ i, a.testBit i = true → b.testBit i = true → False := by
  constructor
  · intro h i h1 h2
    have : (a &&& b).testBit i = true := by rw [Nat.testBit_and, h1, h2]; rfl
    rw [h] at this; simp at this
  · intro h
    apply Nat.eq_of_testBit_eq
    intro i
    rw [Nat.testBit_and, Nat.zero_testBit]
    cases h1 : a.testBit i
    · rfl
    · cases h2 : b.testBit i
      · rfl
      · exact (h i h1 h2).elim
theorem dj_mid {st : Nat → Nat} {E P F M C : List Nat} (hp : (E ++ P ++ F).Perm C) (hd : Dj st C) (hM : Dj st M) (ho : orL st M = orL st P) : Dj st (E ++ M ++ F) ∧ orL st (E ++ M ++ F) = orL st C := by
  have hd2 : Dj st (E ++ P ++ F) := Dj_perm hp hd
  unfold Dj at hd2 hM ⊢
  rw [List.pairwise_append, List.pairwise_append] at hd2
  obtain ⟨⟨d1, d2, d3⟩, d4, d5⟩ := hd2
  have hMP : ∀ m ∈ M, ∀ i, (st m).testBit i = true → ∃ p ∈ P, (st p).testBit i = true := fun m hm i hi => by
    rw [← orL_bit, ← ho]; exact (orL_bit st M i).mpr ⟨m, hm, hi⟩
  refine ⟨?_, ?_⟩
  · rw [List.pairwise_append, List.pairwise_append]
    refine ⟨⟨d1, hM, ?_⟩, d4, ?_⟩
    · intro a ha m hm
      rw [and0_iff]
      intro i h1 h2
      obtain ⟨p, hp, h3⟩ := hMP m hm i h2
      exact and0_iff.mp (d3 a ha p hp) i h1 h3
    · intro a ha f hf
      rw [List.mem_append] at ha
      rcases ha with ha | ha
      · exact d5 a (by simp [ha]) f hf
      · rw [and0_iff]
        intro i h1 h2
        obtain ⟨p, hp, h3⟩ := hMP a ha i h1
        exact and0_iff.mp (d5 p (by simp [hp]) f hf) i h3 h2
  · rw [← orL_perm (L := E ++ P ++ F) (M := C) (fun c => hp.mem_iff), orL_app, orL_app, orL_app, orL_app, ho]
theorem bun_flat {L : List Nat} : (bun L).flatten = L := by unfold bun; by_cases h : L = [] <;> simp [h]
theorem sing_flat : ∀ {L : List Nat}, (L.map (fun c => [c])).flatten = L
  | [] => rfl
  | c :: L => by rw [List.map_cons, List.flatten_cons, sing_flat]; rfl
section
variable {σ0 : Mem} {t : Nat} {kd0 : Nat → Bool} {ch0 : Nat → List Nat} {st0 : Nat → Nat}
def ElA (kd0 : Nat → Bool) (ch0 : Nat → List Nat) (st0 : Nat → Nat) (S d id : Nat) (items : List (List Nat)) : Prop :=
  (∀ L ∈ items, L ≠ [] ∧ ((∀ c ∈ L, stt st0 S c = 0) ∨ (∀ c ∈ L, stt st0 S c = 2))) ∧ (∀ c ∈ items.flatten, c < 24 ∧ Us ch0 c ∧ WfD kd0 ch0 st0 d c ∧ st0 c < 256 ∧ ∀ i ∈ ndD ch0 d c, i ∈ ndD ch0 d id) ∧ Dj st0 items.flatten ∧ orL st0 items.flatten = st0 id ∧ ∀ i ∈ ndD ch0 d id, stt st0 S i ≠ 1 → ∃ c ∈ items.flatten, i ∈ ndD ch0 d c
theorem bun_ok {S q : Nat} {C : List Nat} (hq : q = 0 ∨ q = 2) : ∀ L ∈ bun (fE st0 S C q), L ≠ [] ∧ ((∀ c ∈ L, stt st0 S c = 0) ∨ (∀ c ∈ L, stt st0 S c = 2)) := by
  intro L hL
  unfold bun at hL
  by_cases e : fE st0 S C q = []
  · rw [if_pos e] at hL; simp at hL
  · rw [if_neg e, List.mem_singleton] at hL
    subst hL
    refine ⟨e, ?_⟩
    rcases hq with rfl | rfl
    · exact Or.inl (fun c hc => (fE_mem.mp hc).2)
    · exact Or.inr (fun c hc => (fE_mem.mp hc).2)
theorem sing_ok {S q : Nat} {C : List Nat} (hq : q = 0 ∨ q = 2) : ∀ L ∈ (fE st0 S C q).map (fun c => [c]), L ≠ [] ∧ ((∀ c ∈ L, stt st0 S c = 0) ∨ (∀ c ∈ L, stt st0 S c = 2)) := by
  intro L hL
  obtain ⟨c, hc, e⟩ := List.mem_map.mp hL
  subst e
  refine ⟨by simp, ?_⟩
  rcases hq with rfl | rfl
  · exact Or.inl (fun x hx => by rw [List.mem_singleton] at hx; rw [hx]; exact (fE_mem.mp hc).2)
  · exact Or.inr (fun x hx => by rw [List.mem_singleton] at hx; rw [hx]; exact (fE_mem.mp hc).2)
theorem splitA_elts (hA : AT σ0 t kd0 ch0 st0) {S : Nat} : ∀ (d id : Nat), WfD kd0 ch0 st0 d id → 8 ≤ id → id < 24 → stt st0 S id = 1 → ∀ items, splitA kd0 ch0 st0 S d id = some items → ElA kd0 ch0 st0 S d id items
  | 0, id, hw, _, _, _, _, _ => hw.elim
  | d + 1, id, hw, h8, hn, h1, items, he => by
    obtain ⟨hne, hl2, hl8, hs256, hD, hor, d', hd', hch⟩ := node_ok hA hw h8 hn
    have hd' : d' = d := by omega
    subst hd'
    unfold splitA at he
    by_cases c1 : 1 < (fE st0 S (ch0 id) 1).length
    · rw [if_pos c1] at he; exact absurd he (by simp)
    rw [if_neg c1] at he
    have hmono : ∀ c ∈ ch0 id, ndD ch0 (d' + 1) c = ndD ch0 d' c := fun c hc => (fuel_e (hch c hc).1 (by omega)).1
    -- what is common
    have fin : ∀ (E F : List Nat) (IE IF : List (List Nat)) (m : List (List Nat)), IE.flatten = E → IF.flatten = F → (∀ L ∈ IE, L ≠ [] ∧ ((∀ c ∈ L, stt st0 S c = 0) ∨ (∀ c ∈ L, stt st0 S c = 2))) → (∀ L ∈ IF, L ≠ [] ∧ ((∀ c ∈ L, stt st0 S c = 0) ∨ (∀ c ∈ L, stt st0 S c = 2))) → (E ++ fE st0 S (ch0 id) 1 ++ F).Perm (ch0 id) → midA (splitA kd0 ch0 st0 S d') (fE st0 S (ch0 id) 1) = some m → ElA kd0 ch0 st0 S (d' + 1) id (IE ++ m ++ IF) := by
      intro E F IE IF m eE eF hE hF hp hm
      have hmem : ∀ c, c ∈ E ∨ c ∈ F → c ∈ ch0 id := fun c hc => hp.mem_iff.mp (by
        rw [List.mem_append, List.mem_append]
        rcases hc with hc | hc
        · exact Or.inl (Or.inl hc)
        · exact Or.inr hc)
      have hEF : ∀ c, c ∈ E ∨ c ∈ F → c < 24 ∧ Us ch0 c ∧ WfD kd0 ch0 st0 (d' + 1) c ∧ st0 c < 256 ∧ ∀ i ∈ ndD ch0 (d' + 1) c, i ∈ ndD ch0 (d' + 1) id := fun c hc => by
        have hc := hmem c hc
        obtain ⟨a1, a2, a3, a4, a5⟩ := hch c hc
        refine ⟨a2, a3, WfD_mono a1 (by omega), a4, fun i hi => ?_⟩
        rw [hmono c hc] at hi
        exact (nd_in (by omega)).mpr (Or.inr ⟨c, hc, hi⟩)
      have efl : (IE ++ m ++ IF).flatten = E ++ m.flatten ++ F := by rw [List.flatten_append, List.flatten_append, eE, eF]
      rcases hP : fE st0 S (ch0 id) 1 with _ | ⟨p, T⟩
      · rw [hP] at hm hp
        have hm0 : m = [] := by unfold midA at hm; simp at hm; exact hm
        subst hm0
        obtain ⟨g1, g2⟩ := dj_mid hp hD (M := []) (by simp [Dj]) rfl
        refine ⟨?_, ?_, ?_, ?_, ?_⟩
        · intro L hL
          simp at hL
          rcases hL with hL | hL
          · exact hE L hL
          · exact hF L hL
        · rw [efl]
          intro c hc
          simp at hc
          exact hEF c hc
        · rw [efl]; exact g1
        · rw [efl]; exact g2.trans hor.symm
        · intro i hi hs
          rw [nd_in (by omega)] at hi
          rcases hi with hi | ⟨c, hc, hi⟩
          · subst hi; exact absurd h1 hs
          · refine ⟨c, ?_, by rw [hmono c hc]; exact hi⟩
            rw [efl]
            exact hp.mem_iff.mpr hc
      · have hT : T = [] := by rw [hP] at c1; cases T with | nil => rfl | cons a T => simp at c1
        subst hT
        rw [hP] at hm hp
        have hpm := fE_mem.mp (show p ∈ fE st0 S (ch0 id) 1 by rw [hP]; simp)
        obtain ⟨a1, a2, a3, a4, a5⟩ := hch p hpm.1
        have ih := splitA_elts hA d' p a1 (part1_ok hA hw h8 hn hpm.1 hpm.2) a2 hpm.2 m hm
        obtain ⟨i1, i2, i3, i4, i5⟩ := ih
        obtain ⟨g1, g2⟩ := dj_mid hp hD (M := m.flatten) i3 (by rw [i4]; show _ = st0 p ||| 0; rw [Nat.or_zero])
        refine ⟨?_, ?_, ?_, ?_, ?_⟩
        · intro L hL
          rw [List.mem_append, List.mem_append] at hL
          rcases hL with (hL | hL) | hL
          · exact hE L hL
          · exact i1 L hL
          · exact hF L hL
        · rw [efl]
          intro c hc
          rw [List.mem_append, List.mem_append] at hc
          rcases hc with (hc | hc) | hc
          · exact hEF c (Or.inl hc)
          · obtain ⟨b1, b2, b3, b4, b5⟩ := i2 c hc
            refine ⟨b1, b2, WfD_mono b3 (by omega), b4, fun i hi => ?_⟩
            rw [(fuel_e b3 (by omega : d' ≤ d' + 1)).1] at hi
            exact (nd_in (by omega)).mpr (Or.inr ⟨p, hpm.1, b5 i hi⟩)
          · exact hEF c (Or.inr hc)
        · rw [efl]; exact g1
        · rw [efl]; exact g2.trans hor.symm
        · intro i hi hs
          rw [nd_in (by omega)] at hi
          rcases hi with hi | ⟨c, hc, hi⟩
          · subst hi; exact absurd h1 hs
          · have hc2 := hp.mem_iff.mpr hc
            rw [List.mem_append, List.mem_append, List.mem_singleton] at hc2
            rcases hc2 with (hc2 | hc2) | hc2
            · exact ⟨c, by rw [efl]; simp [hc2], by rw [hmono c hc]; exact hi⟩
            · subst hc2
              obtain ⟨e, he1, he2⟩ := i5 i hi hs
              exact ⟨e, by rw [efl]; simp only [List.mem_append]; exact Or.inl (Or.inr he1), by rw [(fuel_e (i2 e he1).2.2.1 (by omega : d' ≤ d' + 1)).1]; exact he2⟩
            · exact ⟨c, by rw [efl]; simp [hc2], by rw [hmono c hc]; exact hi⟩
    by_cases ck : kd0 id = true
    · rw [if_pos ck] at he
      by_cases cs : ori st0 S (ch0 id) = fE st0 S (ori st0 S (ch0 id)) 0 ++ fE st0 S (ori st0 S (ch0 id)) 1 ++ fE st0 S (ori st0 S (ch0 id)) 2
      · rw [if_pos cs] at he
        obtain ⟨m, hm, e⟩ := Option.map_eq_some_iff.mp he
        subst e
        refine fin _ _ _ _ m sing_flat sing_flat (sing_ok (Or.inl rfl)) (sing_ok (Or.inr rfl)) ?_ hm
        refine List.Perm.trans ?_ (fE_part st0 S (ch0 id))
        exact ((fE_perm ori_perm).append (List.Perm.refl _)).append (fE_perm ori_perm)
      · rw [if_neg cs] at he; exact absurd he (by simp)
    · rw [if_neg ck] at he
      obtain ⟨m, hm, e⟩ := Option.map_eq_some_iff.mp he
      subst e
      exact fin _ _ _ _ m bun_flat bun_flat (bun_ok (Or.inl rfl)) (bun_ok (Or.inr rfl)) (fE_part st0 S (ch0 id)) hm
theorem ElA.two {S d id : Nat} {items : List (List Nat)} (h : ElA kd0 ch0 st0 S d id items) (h1 : stt st0 S id = 1) (h0 : st0 id ≠ 0) : 2 ≤ items.length := by
  obtain ⟨i1, i2, i3, i4, i5⟩ := h
  rcases items with _ | ⟨L, _ | ⟨L2, T⟩⟩
  · exact absurd i4.symm h0
  · exfalso
    simp at i4
    rcases (i1 L (by simp)).2 with g | g
    · have : stt st0 S id = 0 := stt0_iff.mpr (fun j hj => by
        rw [← i4] at hj
        obtain ⟨c, hc, hb⟩ := (orL_bit st0 L j).mp hj
        exact stt0_iff.mp (g c hc) j hb)
      omega
    · have : stt st0 S id = 2 := (stt2_iff h0).mpr (fun j hj => by
        rw [← i4] at hj
        obtain ⟨c, hc, hb⟩ := (orL_bit st0 L j).mp hj
        have hc0 : st0 c ≠ 0 := fun e => by rw [e] at hb; simp at hb
        exact (stt2_iff hc0).mp (g c hc) j hb)
      omega
  · simp
end

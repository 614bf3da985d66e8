section
variable {σ0 σ : Mem} {t : Nat} {kd0 kd : Nat → Bool} {ch0 ch : Nat → List Nat} {st0 st : Nat → Nat} {ln0 hd0 sp0 nw0 : List Nat}
/- the state between two rounds of the loop -/
def SLI (t : Nat) (kd0 : Nat → Bool) (ch0 : Nat → List Nat) (st0 : Nat → Nat) (S : Nat) (σ : Mem) (ln0 sp0 nw0 : List Nat) (kdI : Nat → Bool) (chI : Nat → List Nat) (stI : Nat → Nat) (d0 id0 B : Nat) (o : Option Nat) (dep : Nat) (τ : Mem) : Prop :=
  ∃ kd ch st X hd sp nw P Q d u, RS τ t kd ch st (ln0 ++ X) hd sp ∧ RF t σ τ ∧ XI kd0 ch0 st0 kd ch st sp nw ∧ ItL kd ch st st0 nw X P ∧ ItL kd ch st st0 nw hd.reverse Q ∧
  splitA kd0 ch0 st0 S d0 id0 = (midA (splitA kd0 ch0 st0 S d) o.toList).map (fun m => P ++ m ++ Q) ∧ SmN kdI chI stI nw0 kd ch st nw ∧
  (ln0 ++ X).length + hd.length ≤ u ∧ 2 * nw.length ≤ u ∧ sp.length ≤ u ∧ dep ≤ u ∧ (∀ i ∈ nw, i ∈ nw0 ∨ i ∈ X ∨ i ∈ hd) ∧
  (∀ i ∈ sp, 8 ≤ i ∧ i < 24) ∧ (∀ i ∈ sp, i ∈ sp0 ∨ (i ∈ ndD ch0 d0 id0 ∧ stt st0 S i = 1)) ∧ (∀ i ∈ sp0, i ∈ sp) ∧
  (∀ node, o = some node → WfD kd0 ch0 st0 d node ∧ stt st0 S node = 1 ∧ 8 ≤ node ∧ node < 24 ∧ (∀ i ∈ ndD ch0 d node, i ∉ sp) ∧ u + pc8 (st0 node) ≤ B ∧ (∀ i ∈ ndD ch0 d node, i ∈ ndD ch0 d0 id0) ∧ ∀ i ∈ ndD ch0 d0 id0, stt st0 S i = 1 → i ∈ sp ∨ i ∈ ndD ch0 d node) ∧
  (o = none → u ≤ B ∧ ∀ i ∈ ndD ch0 d0 id0, stt st0 S i = 1 → i ∈ sp)
def SLQ (t : Nat) (kd0 : Nat → Bool) (ch0 : Nat → List Nat) (st0 : Nat → Nat) (S : Nat) (σ : Mem) (ln0 sp0 nw0 : List Nat) (kdI : Nat → Bool) (chI : Nat → List Nat) (stI : Nat → Nat) (d0 id0 B : Nat) (r : Mem ⊕ (Int32 × Mem)) : Prop :=
  (∃ τ dep, r = .inl τ ∧ SLI t kd0 ch0 st0 S σ ln0 sp0 nw0 kdI chI stI d0 id0 B none dep τ) ∨ (splitA kd0 ch0 st0 S d0 id0 = none ∧ ∃ τ, r = .inr (0, τ) ∧ WK t ch0 st0 τ ∧ RF t σ τ)
theorem nd_self {d node : Nat} (hw : WfD kd0 ch0 st0 d node) (h8 : 8 ≤ node) : node ∈ ndD ch0 d node := by
  cases d with
  | zero => exact hw.elim
  | succ d => rw [nd_in (by omega)]; exact Or.inl rfl
theorem sl_next (hA0 : AT σ0 t kd0 ch0 st0) (ht : isT t) {U0 : List Nat} (hU : ∀ i, 8 ≤ i → i < 24 → ch0 i ≠ [] → i ∈ U0) (hU7 : U0.length ≤ 7) {S d0 id0 B node dep : Nat} (hB : B ≤ 8) {τ : Mem} (h : SLI t kd0 ch0 st0 S σ ln0 sp0 nw0 kd ch st d0 id0 B (some node) dep τ) :
    (∃ o τ2, T_splitToLine_b1 t (nI S) (nI node) (nI dep) τ = some (.inl (optI o, nI (dep + 1), τ2)) ∧ SLI t kd0 ch0 st0 S σ ln0 sp0 nw0 kd ch st d0 id0 B o (dep + 1) τ2) ∨ ∃ r, T_splitToLine_b1 t (nI S) (nI node) (nI dep) τ = some (.inr r) ∧ SLQ t kd0 ch0 st0 S σ ln0 sp0 nw0 kd ch st d0 id0 B r := by
  obtain ⟨kd1, ch1, st1, X, hd, sp, nw, P, Q, d, u, q1, q2, q3, q4, q5, q6, q7, q8, q9, q10, q11, q12, q13, q14, q15, q16, -⟩ := h
  obtain ⟨w1, w2, w3, w4, w5, w6, w7, w8⟩ := q16 node rfl
  obtain ⟨hne, hl2, hl8, hs256, hD, hor, d', hd', hch⟩ := node_ok hA0 w1 w3 w4
  subst hd'
  obtain ⟨p1, p2, p3, p4⟩ := pc_two (S := S) hA0 w1 w3 w4
  have hmid : midA (splitA kd0 ch0 st0 S (d' + 1)) (some node).toList = splitA kd0 ch0 st0 S (d' + 1) node := rfl
  rw [hmid] at q6
  rcases sl_step (S := S) (dep := dep) (u := u) hA0 ht hU hU7 q1 q3 w1 w3 w4 (w5 node (nd_self w1 w3)) q13 q8 q9 q10 (by omega) (by omega) with ⟨z1, τ2, z2, z3, z4⟩ | ⟨z0, x1, y1, I1, I2, τ2, kd2, ch2, st2, nw2, z1, z2, z3, z4, z5, z6, z7, z8, z9, z10, z11⟩
  · right
    refine ⟨_, z2, Or.inr ⟨?_, τ2, rfl, z3, q2.tr z4⟩⟩
    rw [q6, z1]; rfl
  · left
    refine ⟨(fE st0 S (ch0 node) 1)[0]?, τ2, z2, kd2, ch2, st2, X ++ x1, hd ++ y1, sp ++ [node], nw2, P ++ I1, I2 ++ Q, d', u + pcs st0 (fE st0 S (ch0 node) 0) + pcs st0 (fE st0 S (ch0 node) 2), ?_, q2.tr z4, z5, (q4.mono z6).app z7, ?_, ?_, q7.tr z6, ?_, by omega, ?_, ?_, ?_, ?_, ?_, ?_, ?_, ?_⟩
    · rw [← List.append_assoc]; exact z3
    · rw [List.reverse_append]; exact z8.app (q5.mono z6)
    · rw [q6, z1, Option.map_map]
      congr 1
      funext m
      simp [Function.comp]
    · rw [List.length_append] at q8 ⊢
      rw [List.length_append, List.length_append]; omega
    · rw [List.length_append]
      have := p4 0; have := p4 2
      simp; omega
    · have := p4 0; have := p4 2; omega
    · intro i hi
      rcases z11 i hi with g | g | g
      · rcases q12 i g with g | g | g
        · exact Or.inl g
        · right; left; simp [g]
        · right; right; simp [g]
      · right; left; simp [g]
      · right; right; simp [g]
    · intro i hi
      rw [List.mem_append, List.mem_singleton] at hi
      rcases hi with hi | hi
      · exact q13 i hi
      · subst hi; exact ⟨w3, w4⟩
    · intro i hi
      rw [List.mem_append, List.mem_singleton] at hi
      rcases hi with hi | hi
      · exact q14 i hi
      · subst hi; exact Or.inr ⟨w7 _ (nd_self w1 w3), w2⟩
    · intro i hi; simp [q15 i hi]
    · intro inner he
      have hm : inner ∈ fE st0 S (ch0 node) 1 := List.mem_of_getElem? he
      have hL : fE st0 S (ch0 node) 1 = [inner] := by
        rcases hf : fE st0 S (ch0 node) 1 with _ | ⟨a, _ | ⟨b, L⟩⟩
        · rw [hf] at hm; simp at hm
        · rw [hf] at he; simp at he; rw [he]
        · rw [hf] at z0; simp at z0
      obtain ⟨m1, m2⟩ := fE_mem.mp hm
      obtain ⟨c1, c2, c3, c4, c5⟩ := hch inner m1
      refine ⟨c1, m2, part1_ok hA0 w1 w3 w4 m1 m2, c2, ?_, ?_, ?_, ?_⟩
      · intro i hi hs
        rw [List.mem_append, List.mem_singleton] at hs
        rcases hs with hs | hs
        · exact w5 i ((nd_in (by omega)).mpr (Or.inr ⟨inner, m1, hi⟩)) hs
        · subst hs; exact nd_notin w1 w3 m1 hi
      · have : pcs st0 (fE st0 S (ch0 node) 1) = pc8 (st0 inner) := by rw [hL]; simp [pcs]
        omega
      · intro i hi; exact w7 i ((nd_in (by omega)).mpr (Or.inr ⟨inner, m1, hi⟩))
      · intro i hi h1
        rcases w8 i hi h1 with g | g
        · left; simp [g]
        · rw [nd_in (by omega)] at g
          rcases g with g | ⟨c, hc, g⟩
          · left; simp [g]
          · right
            have hs := (nd_sub d' c (hch c hc).1 i g).1
            have := stt_up hs (hch c hc).2.2.2.2 h1
            have hcm : c ∈ fE st0 S (ch0 node) 1 := fE_mem.mpr ⟨hc, this⟩
            rw [hL, List.mem_singleton] at hcm
            rw [← hcm]; exact g
    · intro he
      have hL : fE st0 S (ch0 node) 1 = [] := by
        rcases hf : fE st0 S (ch0 node) 1 with _ | ⟨a, L⟩
        · rfl
        · rw [hf] at he; simp at he
      refine ⟨by omega, ?_⟩
      intro i hi h1
      rcases w8 i hi h1 with g | g
      · simp [g]
      · rw [nd_in (by omega)] at g
        rcases g with g | ⟨c, hc, g⟩
        · simp [g]
        · have hs := (nd_sub d' c (hch c hc).1 i g).1
          have := stt_up hs (hch c hc).2.2.2.2 h1
          have hcm : c ∈ fE st0 S (ch0 node) 1 := fE_mem.mpr ⟨hc, this⟩
          rw [hL] at hcm; simp at hcm
theorem sl_end {S dep : Nat} {τ : Mem} : T_splitToLine_b1 t (nI S) (-1) (nI dep) τ = some (.inr (.inl τ)) := by
  unfold T_splitToLine_b1
  refine lti (b := false) ?_ (ifn (by decide) rfl)
  by_cases c : (8 : Int32) ≤ nI dep
  · exact if_pos c
  · rw [if_neg c]; exact if_pos rfl
theorem sl_loop (hA0 : AT σ0 t kd0 ch0 st0) (ht : isT t) {U0 : List Nat} (hU : ∀ i, 8 ≤ i → i < 24 → ch0 i ≠ [] → i ∈ U0) (hU7 : U0.length ≤ 7) {S d0 id0 B : Nat} (hB : B ≤ 8) {o : Option Nat} {τ : Mem} (h : SLI t kd0 ch0 st0 S σ ln0 sp0 nw0 kd ch st d0 id0 B o 0 τ) : ∃ r, lp (fun s => T_splitToLine_b1 t (nI S) s.1 s.2.1 s.2.2) fuel (optI o, 0, τ) = some r ∧ SLQ t kd0 ch0 st0 S σ ln0 sp0 nw0 kd ch st d0 id0 B r := by
  refine lp_for 20 (fun j s => ∃ o, s.1 = optI o ∧ s.2.1 = nI j ∧ SLI t kd0 ch0 st0 S σ ln0 sp0 nw0 kd ch st d0 id0 B o j s.2.2) _ _ 0 (by omega) ⟨o, rfl, rfl, h⟩ (by omega) ?_ ?_
  · intro j s hj ⟨o, e1, e2, hI⟩
    obtain ⟨s1, s2, τ⟩ := s
    simp only at e1 e2 hI
    subst e1 e2
    cases o with
    | none => right; exact ⟨_, sl_end, Or.inl ⟨τ, j, rfl, hI⟩⟩
    | some node =>
      rcases sl_next hA0 ht hU hU7 hB hI with ⟨o, τ2, a, b⟩ | ⟨r, a, b⟩
      · left; exact ⟨_, a, o, rfl, rfl, b⟩
      · right; exact ⟨r, a, b⟩
  · intro s ⟨o, e1, e2, hI⟩
    obtain ⟨s1, s2, τ⟩ := s
    simp only at e1 e2 hI
    subst e1 e2
    cases o with
    | none => exact ⟨_, sl_end, Or.inl ⟨τ, 20, rfl, hI⟩⟩
    | some node =>
      obtain ⟨kd1, ch1, st1, X, hd, sp, nw, P, Q, d, u, q1, q2, q3, q4, q5, q6, q7, q8, q9, q10, q11, q12, q13, q14, q15, q16, -⟩ := hI
      obtain ⟨w1, w2, w3, w4, w5, w6, w7, w8⟩ := q16 node rfl
      omega
end

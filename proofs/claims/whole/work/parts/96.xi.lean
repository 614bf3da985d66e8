theorem filt_or {p q : Nat → Bool} : ∀ l : List Nat, (∀ x ∈ l, ¬ (p x = true ∧ q x = true)) → (l.filter (fun x => p x || q x)).length = (l.filter p).length + (l.filter q).length
  | [], _ => rfl
  | a :: l, h => by
    have ih := filt_or l (fun x hx => h x (by simp [hx]))
    have h0 := h a (by simp)
    cases hp : p a <;> cases hq : q a <;> simp [hp, hq, List.filter_cons, ih] at h0 ⊢ <;> omega
theorem pc_or {a b : Nat} (h : a &&& b = 0) : pc8 (a ||| b) = pc8 a + pc8 b := by
  unfold pc8
  rw [← filt_or]
  · simp only [Nat.testBit_or]
  · intro x _ ⟨h1, h2⟩
    have : (a &&& b).testBit x = true := by rw [Nat.testBit_and, h1, h2]; rfl
    rw [h] at this; simp at this
theorem pc_pos : ∀ a, a < 256 → a ≠ 0 → 1 ≤ pc8 a := by decide +kernel
def pcs (st : Nat → Nat) (L : List Nat) : Nat := (L.map (fun c => pc8 (st c))).sum
theorem pcs_app {st : Nat → Nat} {A B : List Nat} : pcs st (A ++ B) = pcs st A + pcs st B := by unfold pcs; rw [List.map_append, List.sum_append]
theorem pcs_perm {st : Nat → Nat} {A B : List Nat} (h : A.Perm B) : pcs st A = pcs st B := by unfold pcs; exact (h.map _).sum_nat
theorem pcs_or {st : Nat → Nat} : ∀ {L : List Nat}, Dj st L → pc8 (orL st L) = pcs st L
  | [], _ => show pc8 0 = 0 by decide
  | c :: L, h => by
    unfold Dj at h
    rw [List.pairwise_cons] at h
    show pc8 (st c ||| orL st L) = pc8 (st c) + pcs st L
    rw [pc_or, pcs_or h.2]
    apply Nat.eq_of_testBit_eq
    intro i
    rw [Nat.testBit_and, Nat.zero_testBit]
    cases e1 : (st c).testBit i
    · rfl
    · cases e2 : (orL st L).testBit i
      · rfl
      · obtain ⟨d, hd, e3⟩ := (orL_bit st L i).mp e2
        have : (st c &&& st d).testBit i = true := by rw [Nat.testBit_and, e1, e3]; rfl
        rw [h.1 d hd] at this; simp at this
theorem pcs_len {st : Nat → Nat} : ∀ {L : List Nat}, (∀ c ∈ L, st c < 256 ∧ st c ≠ 0) → L.length ≤ pcs st L
  | [], _ => Nat.le_refl _
  | c :: L, h => by
    have := pcs_len (L := L) (fun d hd => h d (by simp [hd]))
    have h1 := pc_pos _ (h c (by simp)).1 (h c (by simp)).2
    show L.length + 1 ≤ pc8 (st c) + pcs st L
    omega
theorem pc_parts {kd : Nat → Bool} {ch : Nat → List Nat} {st : Nat → Nat} {S id : Nat} (hid : 8 ≤ id) (hw : Wf kd ch st id) : pc8 (st id) = pcs st (fE st S (ch id) 0) + pcs st (fE st S (ch id) 1) + pcs st (fE st S (ch id) 2) := by
  obtain ⟨-, -, e, hd, -⟩ := (Wf_node hid).mp hw
  rw [e, pcs_or hd, ← pcs_perm (fE_part st S (ch id)), pcs_app, pcs_app]
def XI (kd0 : Nat → Bool) (ch0 : Nat → List Nat) (st0 : Nat → Nat) (kd : Nat → Bool) (ch : Nat → List Nat) (st : Nat → Nat) (sp nw : List Nat) : Prop :=
  (∀ i, Us ch0 i → kd i = kd0 i ∧ st i = st0 i ∧ (i ∉ sp → ch i = ch0 i)) ∧ (∀ i ∈ sp, ch0 i ≠ [] ∧ ch i ≠ []) ∧ (∀ i ∈ nw, 8 ≤ i ∧ i < 23 ∧ ch0 i = [] ∧ ch i ≠ []) ∧ nw.Nodup ∧ (∀ i, ch i ≠ [] → ch0 i ≠ [] ∨ i ∈ nw)
def Itm (kd : Nat → Bool) (ch : Nat → List Nat) (st st0 : Nat → Nat) (nw : List Nat) (id : Nat) (L : List Nat) : Prop := L = [id] ∨ (id ∈ nw ∧ 2 ≤ L.length ∧ kd id = false ∧ ch id = L ∧ st id = orL st0 L)
def ItL (kd : Nat → Bool) (ch : Nat → List Nat) (st st0 : Nat → Nat) (nw : List Nat) : List Nat → List (List Nat) → Prop
  | [], [] => True
  | a :: A, L :: B => Itm kd ch st st0 nw a L ∧ ItL kd ch st st0 nw A B
  | _, _ => False
def SmN (kd : Nat → Bool) (ch : Nat → List Nat) (st : Nat → Nat) (nw : List Nat) (kd2 : Nat → Bool) (ch2 : Nat → List Nat) (st2 : Nat → Nat) (nw2 : List Nat) : Prop := ∀ i ∈ nw, kd2 i = kd i ∧ ch2 i = ch i ∧ st2 i = st i ∧ i ∈ nw2
theorem SmN.tr {kd : Nat → Bool} {ch : Nat → List Nat} {st : Nat → Nat} {nw : List Nat} {kd2 : Nat → Bool} {ch2 : Nat → List Nat} {st2 : Nat → Nat} {nw2 : List Nat} {kd3 : Nat → Bool} {ch3 : Nat → List Nat} {st3 : Nat → Nat} {nw3 : List Nat} (h : SmN kd ch st nw kd2 ch2 st2 nw2) (h2 : SmN kd2 ch2 st2 nw2 kd3 ch3 st3 nw3) : SmN kd ch st nw kd3 ch3 st3 nw3 := fun i hi => by
  obtain ⟨a, b, c, d⟩ := h i hi
  obtain ⟨a2, b2, c2, d2⟩ := h2 i d
  exact ⟨a2.trans a, b2.trans b, c2.trans c, d2⟩
theorem ItL.mono {kd : Nat → Bool} {ch : Nat → List Nat} {st st0 : Nat → Nat} {nw : List Nat} {kd2 : Nat → Bool} {ch2 : Nat → List Nat} {st2 : Nat → Nat} {nw2 : List Nat} (hs : SmN kd ch st nw kd2 ch2 st2 nw2) : ∀ {A : List Nat} {B : List (List Nat)}, ItL kd ch st st0 nw A B → ItL kd2 ch2 st2 st0 nw2 A B
  | [], [], _ => trivial
  | a :: A, L :: B, h => by
    refine ⟨?_, ItL.mono hs h.2⟩
    rcases h.1 with e | ⟨h1, h2, h3, h4, h5⟩
    · exact Or.inl e
    · obtain ⟨a, b, c, d⟩ := hs _ h1
      exact Or.inr ⟨d, h2, a.trans h3, b.trans h4, c.trans h5⟩
  | [], _ :: _, h => h.elim
  | _ :: _, [], h => h.elim
theorem ItL.app {kd : Nat → Bool} {ch : Nat → List Nat} {st st0 : Nat → Nat} {nw : List Nat} : ∀ {A : List Nat} {B : List (List Nat)} {A2 : List Nat} {B2 : List (List Nat)}, ItL kd ch st st0 nw A B → ItL kd ch st st0 nw A2 B2 → ItL kd ch st st0 nw (A ++ A2) (B ++ B2)
  | [], [], _, _, _, h => h
  | _ :: _, _ :: _, _, _, h1, h2 => ⟨h1.1, ItL.app h1.2 h2⟩
  | [], _ :: _, _, _, h, _ => h.elim
  | _ :: _, [], _, _, h, _ => h.elim
theorem ItL.rev {kd : Nat → Bool} {ch : Nat → List Nat} {st st0 : Nat → Nat} {nw : List Nat} : ∀ {A : List Nat} {B : List (List Nat)}, ItL kd ch st st0 nw A B → ItL kd ch st st0 nw A.reverse B.reverse
  | [], [], h => h
  | a :: A, L :: B, h => by
    rw [List.reverse_cons, List.reverse_cons]
    exact (ItL.rev h.2).app ⟨h.1, trivial⟩
  | [], _ :: _, h => h.elim
  | _ :: _, [], h => h.elim
theorem ItL.sing {kd : Nat → Bool} {ch : Nat → List Nat} {st st0 : Nat → Nat} {nw : List Nat} : ∀ (A : List Nat), ItL kd ch st st0 nw A (A.map (fun c => [c]))
  | [] => trivial
  | a :: A => ⟨Or.inl rfl, ItL.sing A⟩
theorem ItL.len {kd : Nat → Bool} {ch : Nat → List Nat} {st st0 : Nat → Nat} {nw : List Nat} : ∀ {A : List Nat} {B : List (List Nat)}, ItL kd ch st st0 nw A B → A.length = B.length
  | [], [], _ => rfl
  | a :: A, L :: B, h => by simp [ItL.len h.2]
  | [], _ :: _, h => h.elim
  | _ :: _, [], h => h.elim
section
variable {σ : Mem} {t : Nat} {kd0 kd : Nat → Bool} {ch0 ch : Nat → List Nat} {st0 st : Nat → Nat} {ln hd sp nw : List Nat}
theorem XI.us (h : XI kd0 ch0 st0 kd ch st sp nw) {c : Nat} (hc : Us ch0 c) : Us ch c := by
  rcases hc with hc | hc
  · exact Or.inl hc
  · right
    by_cases e : c ∈ sp
    · exact (h.2.1 c e).2
    · rw [(h.1 c (Or.inr hc)).2.2 e]; exact hc
theorem XI.free (h : XI kd0 ch0 st0 kd ch st sp nw) {U0 : List Nat} (hU : ∀ i, 8 ≤ i → i < 24 → ch0 i ≠ [] → i ∈ U0) (hl : U0.length ≤ 7) (hn : nw.length ≤ 4) : ∃ m, 8 ≤ m ∧ m < 23 ∧ ch m = [] := by
  refine Classical.byContradiction (fun hno => ?_)
  have hsub : ∀ x ∈ (List.range 15).map (fun i => 8 + i), x ∈ U0 ++ nw := by
    intro x hx
    obtain ⟨i, hi, e⟩ := List.mem_map.mp hx
    rw [List.mem_range] at hi
    have hx1 : ch x ≠ [] := fun e2 => hno ⟨x, by omega, by omega, e2⟩
    rw [List.mem_append]
    rcases h.2.2.2.2 x hx1 with q | q
    · exact Or.inl (hU x (by omega) (by omega) q)
    · exact Or.inr q
  have := len_sub _ _ (nodup_map_inj _ _ (fun a b (e : 8 + a = 8 + b) => by omega) List.nodup_range) hsub
  simp at this
  omega
theorem fE_same {S q : Nat} {C : List Nat} (h : ∀ c ∈ C, st c = st0 c) : fE st S C q = fE st0 S C q := by
  unfold fE
  refine List.filter_congr (fun c hc => ?_)
  unfold stt
  rw [h c hc]
theorem orL_same : ∀ {C : List Nat}, (∀ c ∈ C, st c = st0 c) → orL st C = orL st0 C
  | [], _ => rfl
  | c :: C, h => by
    show st c ||| orL st C = st0 c ||| orL st0 C
    rw [h c (by simp), orL_same (fun d hd => h d (by simp [hd]))]
theorem bundle_step (hR : RS σ t kd ch st ln hd sp) (ht : isT t) (hX : XI kd0 ch0 st0 kd ch st sp nw) {U0 : List Nat} (hU : ∀ i, 8 ≤ i → i < 24 → ch0 i ≠ [] → i ∈ U0) (hU7 : U0.length ≤ 7) (hnw : nw.length ≤ 4) {node S q : Nat} (h8 : 8 ≤ node) (hn : node < 24) (hsp : node ∉ sp) (hC : ∀ c ∈ ch0 node, Us ch0 c ∧ st0 c < 256 ∧ st0 c ≠ 0) (hne : ch0 node ≠ []) (hq : q ≤ 2) : ∃ r τ kd' ch' st' nw' x, T_bundle t (nI node) (nI S) (nI q) σ = some (r, τ) ∧ RS τ t kd' ch' st' ln hd sp ∧ RF t σ τ ∧ XI kd0 ch0 st0 kd' ch' st' sp nw' ∧ SmN kd ch st nw kd' ch' st' nw' ∧ ItL kd' ch' st' st0 nw' x (bun (fE st0 S (ch0 node) q)) ∧ ((x = [] ∧ r = -1) ∨ ∃ c, x = [c] ∧ r = nI c ∧ c < 24) ∧ 2 * nw'.length ≤ 2 * nw.length + pcs st0 (fE st0 S (ch0 node) q) ∧ x.length ≤ pcs st0 (fE st0 S (ch0 node) q) ∧ (∀ i ∈ nw', i ∈ nw ∨ i ∈ x) := by
  have hcn : ch node = ch0 node := (hX.1 node (Or.inr hne)).2.2 hsp
  have hCu : ∀ c ∈ ch node, Us ch c := fun c hc => hX.us (hC c (by rw [← hcn]; exact hc)).1
  have hst : ∀ c ∈ ch0 node, st c = st0 c := fun c hc => (hX.1 c (hC c hc).1).2.1
  have hfE : fE st S (ch node) q = fE st0 S (ch0 node) q := by rw [hcn]; exact fE_same hst
  have hsub : ∀ c ∈ fE st0 S (ch0 node) q, c ∈ ch0 node := fun c hc => (fE_mem.mp hc).1
  have hpl : (fE st0 S (ch0 node) q).length ≤ pcs st0 (fE st0 S (ch0 node) q) := pcs_len (fun c hc => (hC c (hsub c hc)).2)
  obtain ⟨m, r, τ, kd', ch', st', m1, m2, m3, e, hA, hs, hF, hD⟩ := hR.1.bundle (S := S) (q := q) ht hn hCu hq (by rw [hcn]; exact hne) (hX.free hU hU7 hnw)
  rw [hfE] at hD
  have hm0 : ch0 m = [] := Classical.byContradiction (fun q => by
    rcases hX.us (c := m) (Or.inr q) with u | u
    · omega
    · exact u m3)
  have hmn : m ∉ nw := fun q => (hX.2.2.1 m q).2.2.2 m3
  have hus : ∀ i, Us ch0 i → i ≠ m := fun i hi e => by
    rcases hi with u | u
    · omega
    · exact u (by rw [e]; exact hm0)
  have hXbase : ∀ nw', (∀ i ∈ nw', 8 ≤ i ∧ i < 23 ∧ ch0 i = [] ∧ ch' i ≠ []) → nw'.Nodup → (∀ i, ch' i ≠ [] → ch0 i ≠ [] ∨ i ∈ nw') → XI kd0 ch0 st0 kd' ch' st' sp nw' := by
    intro nw' g1 g2 g3
    refine ⟨?_, ?_, g1, g2, g3⟩
    · intro i hi
      obtain ⟨a, b, c⟩ := hs i (hus i hi)
      rw [a, b, c]; exact hX.1 i hi
    · intro i hi
      obtain ⟨a, b, c⟩ := hs i (hus i (Or.inr (hX.2.1 i hi).1))
      rw [b]; exact hX.2.1 i hi
  have hold : ∀ i ∈ nw, 8 ≤ i ∧ i < 23 ∧ ch0 i = [] ∧ ch' i ≠ [] := fun i hi => by
    obtain ⟨a, b, c⟩ := hs i (fun e => hmn (by rw [← e]; exact hi))
    rw [b]; exact hX.2.2.1 i hi
  have hSm : ∀ nw', (∀ i ∈ nw, i ∈ nw') → SmN kd ch st nw kd' ch' st' nw' := fun nw' h i hi => by
    obtain ⟨a, b, c⟩ := hs i (fun e => hmn (by rw [← e]; exact hi))
    exact ⟨a, b, c, h i hi⟩
  have hcase0 : ch' m = [] → ∀ i, ch' i ≠ [] → ch0 i ≠ [] ∨ i ∈ nw := fun h0 i hi => by
    have hne : i ≠ m := fun e => hi (by rw [e]; exact h0)
    rw [(hs i hne).2.1] at hi
    exact hX.2.2.2.2 i hi
  rcases hD with ⟨d1, d2, d3⟩ | ⟨c, d1, d2, d3⟩ | ⟨d1, d2, d3, d4, d5⟩
  · refine ⟨r, τ, kd', ch', st', nw, [], e, hR.f14 hF hA, hF.rf, hXbase nw hold hX.2.2.2.1 (hcase0 d3), hSm nw (fun _ h => h), ?_, Or.inl ⟨rfl, d2⟩, by omega, by simp, fun i hi => Or.inl hi⟩
    rw [d1]; exact trivial
  · have hc24 : c < 24 := hR.1.lt24 hn (by rw [hcn]; exact hsub c (by rw [d1]; simp))
    refine ⟨r, τ, kd', ch', st', nw, [c], e, hR.f14 hF hA, hF.rf, hXbase nw hold hX.2.2.2.1 (hcase0 d3), hSm nw (fun _ h => h), ?_, Or.inr ⟨c, rfl, d2, hc24⟩, by omega, by rw [d1] at hpl ⊢; exact hpl, fun i hi => Or.inl hi⟩
    rw [d1]; exact ⟨Or.inl rfl, trivial⟩
  · have hne2 : ch' m ≠ [] := fun e2 => by rw [d3] at e2; rw [e2] at d1; simp at d1
    refine ⟨r, τ, kd', ch', st', nw ++ [m], [m], e, hR.f14 hF hA, hF.rf, hXbase (nw ++ [m]) ?_ ?_ ?_, hSm _ (fun i h => by simp [h]), ?_, Or.inr ⟨m, rfl, d2, by omega⟩, ?_, ?_, ?_⟩
    · intro i hi
      rw [List.mem_append, List.mem_singleton] at hi
      rcases hi with hi | hi
      · exact hold i hi
      · subst hi; exact ⟨m1, m2, hm0, hne2⟩
    · rw [List.nodup_append]
      refine ⟨hX.2.2.2.1, by simp, fun a ha b hb e => ?_⟩
      rw [List.mem_singleton] at hb
      exact hmn (by rw [← hb, ← e]; exact ha)
    · intro i hi
      by_cases q : i = m
      · right; simp [q]
      · rw [(hs i q).2.1] at hi
        rcases hX.2.2.2.2 i hi with u | u
        · exact Or.inl u
        · right; simp [u]
    · have eb : bun (fE st0 S (ch0 node) q) = [fE st0 S (ch0 node) q] := if_neg (fun e2 => by rw [e2] at d1; simp at d1)
      rw [eb]
      refine ⟨Or.inr ⟨by simp, d1, d4, d3, ?_⟩, trivial⟩
      rw [d5]
      exact orL_same (fun c hc => hst c (hsub c hc))
    · rw [List.length_append]; simp; omega
    · simp; omega
    · intro i hi
      rw [List.mem_append] at hi
      exact hi
end

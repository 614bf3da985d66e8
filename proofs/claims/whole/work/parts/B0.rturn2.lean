def NRes (kd0 : Nat → Bool) (ch0 : Nat → List Nat) (st0 : Nat → Nat) (S N : Nat) (sp : List Nat) (kdF : Nat → Bool) (chF : Nat → List Nat) (stF : Nat → Nat) : Prop := Wf kdF chF stF N ∧ stF N = st0 N ∧ (∀ r, Fr kdF chF N r ↔ (Fr kd0 ch0 N r ∧ Cons S r)) ∧ (∀ i, Rc ch0 N i → i ∉ sp → Rc chF N i) ∧ ∀ i, 8 ≤ i → chF i ≠ [] → ch0 i = [] → Rc chF N i
def RX (t : Nat) (kd0 : Nat → Bool) (ch0 : Nat → List Nat) (st0 : Nat → Nat) (S N : Nat) (σ : Mem) (res : Option (Int32 × Mem)) : Prop :=
  ((∀ r, Fr kd0 ch0 N r → ¬ Cons S r) ∧ ∃ τ, res = some (0, τ) ∧ WK t ch0 st0 τ ∧ RF t σ τ) ∨
  ∃ τ kdE chE stE ln hd sp, res = some (1, τ) ∧ RS τ t kdE chE stE ln hd sp ∧ RF t σ τ ∧ (∀ i ∈ sp, 8 ≤ i ∧ i < 24 ∧ subM (st0 i) (st0 N)) ∧ Kpt kd0 ch0 st0 kdE (clr chE sp) stE N sp ∧ NRes kd0 ch0 st0 S N sp kdE (clr chE sp) stE
theorem clr_n {ch : Nat → List Nat} {sp : List Nat} {i : Nat} (h : i ∉ sp) : clr ch sp i = ch i := if_neg h
theorem clr_s {ch : Nat → List Nat} {sp : List Nat} {i : Nat} (h : i ∈ sp) : clr ch sp i = [] := if_pos h
section
variable {σ0 σ τ : Mem} {t : Nat} {kd0 kd : Nat → Bool} {ch0 ch : Nat → List Nat} {st0 st : Nat → Nat} {S d N : Nat} {L X hd sp nw : List Nat} {items : List (List Nat)}
theorem rc_node {ch : Nat → List Nat} {N i : Nat} (h : Rc ch N i) : i = N ∨ ∃ c ∈ ch N, Rc ch c i := by
  obtain ⟨e, he⟩ := h
  cases e with
  | zero => unfold ndD at he; simp at he
  | succ e =>
    by_cases h8 : N < 8
    · unfold ndD at he; rw [if_pos h8] at he; simp at he
    · rw [nd_in h8] at he
      rcases he with he | ⟨c, hc, he⟩
      · exact Or.inl he
      · exact Or.inr ⟨c, hc, e, he⟩
theorem fill_same {k : Bool} {C : List Nat} {v : Nat} : ∀ i, i ≠ N → i ∉ sp → (ch i ≠ [] ∨ i < 8) → uf kd N k i = kd i ∧ clr (uf ch N C) sp i = ch i ∧ uf st N v i = st i := fun i h1 h2 _ => ⟨uf_n h1, by rw [clr_n h2, uf_n h1], uf_n h1⟩
theorem rturn_ok (hA0 : AT σ0 t kd0 ch0 st0) (ht : isT t) {U0 : List Nat} (hU : ∀ i, 8 ≤ i → i < 24 → ch0 i ≠ [] → i ∈ U0) (hU7 : U0.length ≤ 7) (hw : WfD kd0 ch0 st0 (d + 1) N) (h8 : 8 ≤ N) (hn : N < 24) (hk : kd0 N = true) (hs : subM S (st0 N)) (h0 : S ≠ 0) (hno : ∀ c ∈ ch0 N, ¬ subM S (st0 c)) (hR : RS σ t kd0 ch0 st0 [] hd []) : RX t kd0 ch0 st0 S N σ (T_reduceTurning t (nI N) (nI S) σ) := by
  obtain ⟨hne, hl2, hl8, hs256, hD, hor, d', hd', hch⟩ := node_ok hA0 hw h8 hn
  have hdd : d' = d := by omega
  subst hdd
  have hwf : Wf kd0 ch0 st0 N := ⟨_, hw⟩
  have h2 := nE_two h8 hwf hs h0 hno
  have hP : ∀ c r, Fr kd0 ch0 c r → Fr kd0 ch0 c r.reverse := fun c r h => Fr_rev h
  obtain ⟨tk1, tk2⟩ := turnA_ok hP (spl := splitA kd0 ch0 st0 S d') (ch0 N) 0 (by omega) (fun c hc => Wf_shw (S := S) ⟨_, (hch c hc).1⟩) (fun c hc h1 => spl_ok (hch c hc).1 h1) (fun _ => Or.inl h2)
  have hFrN : ∀ r, Fr kd0 ch0 N r ↔ (SeqR (Fr kd0 ch0) (ch0 N) r ∨ SeqR (Fr kd0 ch0) (ch0 N) r.reverse) := fun r => by
    rw [Fr_node h8, hk]
    unfold OrdR
    simp only [if_true]
    constructor
    · rintro ⟨L, hL | hL, h⟩
      · subst hL; exact Or.inl h
      · subst hL
        right
        have := SeqR_rev (fun c _ r h => hP c r h) h
        rwa [List.reverse_reverse] at this
    · rintro (h | h)
      · exact ⟨_, Or.inl rfl, h⟩
      · have := SeqR_rev (fun c _ r h => hP c r h) h
        rw [List.reverse_reverse] at this
        exact ⟨_, Or.inr rfl, this⟩
  obtain ⟨r, l1, l2⟩ := rturn_loop (S := S) hA0 ht hU hU7 hw h8 hn hR
  rcases l2 with ⟨e, τ, er, g1, g2⟩ | ⟨items, X, τ, kd, ch, st, hd, sp, nw, e, er, hI⟩
  · left
    refine ⟨?_, τ, ?_, g1, g2⟩
    · intro r hr hc
      rcases (hFrN r).mp hr with q | q
      · exact tk2 e r q hc
      · exact tk2 e _ q hc.rev
    · unfold T_reduceTurning
      refine ob l1 ?_
      rw [er]; rfl
  · right
    obtain ⟨hE, hlen⟩ := turnA_elts (d := d') (fun c x hc h1 hx => splitA_elts hA0 d' c hc.1 (by
      by_cases q : c < 8
      · exact absurd h1 (leaf_stt ((Wf_leaf q).mp ⟨d', hc.1⟩))
      · omega) hc.2.1 h1 x hx) (ch0 N) 0 items (fun c hc => hch c hc) hD e
    have hel := hI.elt hE hw h8 hne (fun p hp => hp)
    have hNs := hI.notin hw h8 (fun p hp => hp)
    have hXl : X.length = items.length := hI.2.2.2.1.len
    have hpc := pc_le _ hs256
    rw [hor, pcs_or hD] at hpc
    obtain ⟨τ2, f1, f2, f3⟩ := hI.1.fill ht hn (by have := hI.2.2.2.2.1; omega) hel
    obtain ⟨b1, b2, b3, b4, b5, b6, -, b8⟩ := fin_base (kdF := uf kd N true) (chF := clr (uf ch N X) sp) (stF := uf st N (orL st X)) hA0 hI hE hw h8 hn (fun p hp => hp) (fun p hp => Or.inl hp) (fill_same)
    obtain ⟨c1, c2, c3, c4, c5, c6⟩ := itl_fr b5 b4 b6 hE.2.2.1
    have hcN : clr (uf ch N X) sp N = X := by rw [clr_n hNs, uf_s]
    have hoX : orL st X = orL (uf st N (orL st X)) X := (orL_same (st := uf st N (orL st X)) (st0 := st) b8).symm
    have hsN : uf st N (orL st X) N = st0 N := by rw [uf_s, hoX, c2, hE.2.2.2.1, ← hor]
    have h3 : 3 ≤ (ch0 N).length := ((Wf_node h8).mp hwf).2.1 hk
    have hkN : uf kd N true N = true := uf_s
    refine ⟨τ2, _, _, _, _, _, sp, ?_, f2, hI.2.1.tr f3.rf, fun i hi => ⟨b2 i hi, (hI.2.2.2.2.2.2.2.2.1 i hi).2, b3 i hi⟩, b1, ?_, hsN, ?_, ?_, ?_⟩
    · unfold T_reduceTurning
      refine ob l1 ?_
      rw [er]
      exact ob f1 rfl
    · rw [Wf_node h8, hcN, hkN, hsN]
      refine ⟨by omega, fun _ => by omega, ?_, c3, fun c hc => ⟨_, c4 c hc⟩⟩
      rw [c2, hE.2.2.2.1, ← hor]
    · intro r
      have hrevF : ∀ r, SeqR (Fr (uf kd N true) (clr (uf ch N X) sp)) X.reverse r ↔ SeqR (FreeR (Fr kd0 ch0)) items r.reverse := fun r => by
        rw [← c1]
        constructor
        · intro h
          have := SeqR_rev (fun c _ r h => Fr_rev h) h
          rwa [List.reverse_reverse] at this
        · intro h
          have := SeqR_rev (fun c _ r h => Fr_rev h) h
          rwa [List.reverse_reverse] at this
      rw [Fr_node h8, hkN, hcN, hFrN]
      unfold OrdR
      simp only [if_true]
      have q0 : ∀ r, QS S 0 r ↔ Cons S r := fun r => by unfold QS; rw [if_pos rfl]
      constructor
      · rintro ⟨L, hL | hL, h⟩
        · subst hL
          obtain ⟨a1, a2⟩ := (tk1 items e r).mp ((c1 r).mp h)
          exact ⟨Or.inl a1, (q0 r).mp a2⟩
        · subst hL
          obtain ⟨a1, a2⟩ := (tk1 items e _).mp ((hrevF r).mp h)
          exact ⟨Or.inr a1, cons_rev.mp ((q0 _).mp a2)⟩
      · rintro ⟨h | h, hc⟩
        · exact ⟨X, Or.inl rfl, (c1 r).mpr ((tk1 items e r).mpr ⟨h, (q0 r).mpr hc⟩)⟩
        · exact ⟨X.reverse, Or.inr rfl, (hrevF r).mpr ((tk1 items e _).mpr ⟨h, (q0 _).mpr hc.rev⟩)⟩
    · intro i hi hs
      rcases rc_node hi with q | ⟨p, hp, q⟩
      · subst q; exact Rc.self h8
      · have hq := q.nd (hch p hp).1
        have hs1 : stt st0 S i ≠ 1 := fun q1 => hs (hI.2.2.2.2.2.2.2.2.2.2 p hp i hq q1)
        obtain ⟨c, hc, hic⟩ := hE.2.2.2.2 p hp i hq hs1
        obtain ⟨a, ha, hia⟩ := c5 c hc i hic
        exact Rc.child h8 (by rw [hcN]; exact ha) hia
    · intro i h8i hi h0i
      by_cases qN : i = N
      · subst qN; exact absurd h0i hne
      · have qs : i ∉ sp := fun q => by rw [clr_s q] at hi; exact hi rfl
        rw [clr_n qs, uf_n qN] at hi
        have hnw := (hI.2.2.1.2.2.2.2 i hi).resolve_left (fun q => q h0i)
        have hiX := hI.2.2.2.2.2.2.2.1 i hnw
        exact Rc.child h8 (by rw [hcN]; exact hiX) (Rc.self h8i)
end

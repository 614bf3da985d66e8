/- how many things can be between two things in a row -/
section
variable {kd : Nat → Bool} {ch : Nat → List Nat} {st : Nat → Nat}
def GpR (kd : Nat → Bool) (ch : Nat → List Nat) (id a b s : Nat) : Prop := ∃ u v w, Fr kd ch id (u ++ a :: (v ++ b :: w)) ∧ s = v.length
def GpV (kd : Nat → Bool) (ch : Nat → List Nat) (id a b : Nat) (g : Bool) (V : Nat) : Prop := GpR kd ch id a b V ∧ ∀ s, GpR kd ch id a b s → (g = false → V ≤ s) ∧ (g = true → s ≤ V)
theorem GpR.rev {id a b s : Nat} (h : GpR kd ch id a b s) : GpR kd ch id b a s := by
  obtain ⟨u, v, w, h1, rfl⟩ := h
  exact ⟨w.reverse, v.reverse, u.reverse, by have := Fr_rev h1; simpa using this, by simp⟩
def hasA (st : Nat → Nat) (a b c : Nat) : Bool := (st c).testBit a || (st c).testBit b
def hasB (st : Nat → Nat) (a b c : Nat) : Bool := (st c).testBit a && (st c).testBit b
def btS (st : Nat → Nat) (a b : Nat) (s : Nat × Nat × Nat) (c : Nat) : Nat × Nat × Nat := if hasA st a b c = true then (s.1, s.2.1, s.2.2 + 1) else (s.1 + pc8 (st c), s.2.1 + (if s.2.2 = 1 then pc8 (st c) else 0), s.2.2)
def btN (kd : Nat → Bool) (ch : Nat → List Nat) (st : Nat → Nat) (a b : Nat) (g : Bool) (N : Nat) : Nat := if kd N = true then ((ch N).foldl (btS st a b) (0, 0, 0)).2.1 else if g = true then ((ch N).foldl (btS st a b) (0, 0, 0)).1 else 0
theorem bt_seg {a b : Nat} : ∀ {A : List Nat} {s : Nat × Nat × Nat}, (∀ c ∈ A, ¬ hasA st a b c = true) → A.foldl (btS st a b) s = (s.1 + pcs st A, s.2.1 + (if s.2.2 = 1 then pcs st A else 0), s.2.2)
  | [], s, _ => by
    obtain ⟨o, i, k⟩ := s
    show (o, i, k) = (o + 0, i + (if k = 1 then 0 else 0), k)
    by_cases q : k = 1
    · rw [if_pos q]; rfl
    · rw [if_neg q]; rfl
  | c :: A, s, h => by
    obtain ⟨o, i, k⟩ := s
    have hc := h c (by simp)
    rw [List.foldl_cons, bt_seg (fun e he => h e (by simp [he]))]
    unfold btS
    rw [if_neg hc]
    have e1 : pcs st (c :: A) = pc8 (st c) + pcs st A := rfl
    rw [e1]
    dsimp only
    by_cases q : k = 1
    · rw [if_pos q, if_pos q, if_pos q, Nat.add_assoc, Nat.add_assoc]
    · rw [if_neg q, if_neg q, if_neg q, Nat.add_assoc]
theorem bt_hit {a b c : Nat} {s : Nat × Nat × Nat} (h : hasA st a b c = true) : btS st a b s c = (s.1, s.2.1, s.2.2 + 1) := by unfold btS; rw [if_pos h]
theorem bt_val {a b p q : Nat} {A M B : List Nat} (hA : ∀ c ∈ A, ¬ hasA st a b c = true) (hM : ∀ c ∈ M, ¬ hasA st a b c = true) (hB : ∀ c ∈ B, ¬ hasA st a b c = true) (hp : hasA st a b p = true) (hq : hasA st a b q = true) : (A ++ p :: (M ++ q :: B)).foldl (btS st a b) (0, 0, 0) = (pcs st A + pcs st M + pcs st B, pcs st M, 2) := by
  rw [List.foldl_append, bt_seg hA, List.foldl_cons, bt_hit hp, List.foldl_append, bt_seg hM, List.foldl_cons, bt_hit hq, bt_seg hB]
  simp
def fG (kd : Nat → Bool) (ch : Nat → List Nat) (st : Nat → Nat) (a b : Nat) (g : Bool) (N : Nat) : Nat := if hasB st a b N = true then 0 else if (st N).testBit a = true then bsN kd ch st a g N else if (st N).testBit b = true then bsN kd ch st b g N else 0
def lwL (st : Nat → Nat) (a b : Nat) (init : Nat) (L : List Nat) : Nat := L.foldl (fun z N => if hasB st a b N = true then N else z) init
theorem lwL_app {a b i : Nat} {A B : List Nat} : lwL st a b i (A ++ B) = lwL st a b (lwL st a b i A) B := by unfold lwL; rw [List.foldl_append]
theorem lwL_no {a b : Nat} : ∀ {A : List Nat} {i : Nat}, (∀ N ∈ A, ¬ hasB st a b N = true) → lwL st a b i A = i
  | [], _, _ => rfl
  | c :: A, i, h => by
    show lwL st a b (if hasB st a b c = true then c else i) A = i
    rw [if_neg (h c (by simp))]
    exact lwL_no (fun N hN => h N (by simp [hN]))
theorem hasB_iff {a b c : Nat} : hasB st a b c = true ↔ (st c).testBit a = true ∧ (st c).testBit b = true := by unfold hasB; rw [Bool.and_eq_true]
theorem hasA_iff {a b c : Nat} : hasA st a b c = true ↔ (st c).testBit a = true ∨ (st c).testBit b = true := by unfold hasA; rw [Bool.or_eq_true]
/- two things in one part -/
theorem gap_one {id p a b : Nat} {A B : List Nat} (h8 : 8 ≤ id) (hw : Wf kd ch st id) (e : ch id = A ++ p :: B) (hall : ∀ c ∈ ch id, Wf kd ch st c) (ha : (st p).testBit a = true) (hb : (st p).testBit b = true) (hne : a ≠ b) (s : Nat) : GpR kd ch id a b s ↔ GpR kd ch p a b s := by
  have hpm : p ∈ ch id := by rw [e]; simp
  constructor
  · rintro ⟨u, v, w, h, rfl⟩
    have hND := (Fr_set id hw _ h).1
    obtain ⟨L, hO, hS⟩ := (Fr_node h8).mp h
    obtain ⟨A', B', eL⟩ := List.append_of_mem ((OrdR_mem hO).mpr hpm)
    obtain ⟨ra, rp, rb, er, q1, q2, q3⟩ := row_part (id := id) hS eL
    have hset := Fr_set p (hall p hpm) _ q2
    obtain ⟨u', v0, ep⟩ := List.append_of_mem ((hset.2 a).mpr ha)
    have e2 : u ++ a :: (v ++ b :: w) = (ra ++ u') ++ a :: (v0 ++ rb) := by rw [er, ep]; simp
    obtain ⟨eu, ev⟩ := sp_uq hND e2
    have hbp : b ∈ rp := (hset.2 b).mpr hb
    have hb0 : b ∈ v0 := by
      rw [ep, List.mem_append, List.mem_cons] at hbp
      rcases hbp with h1 | h1 | h1
      · have : b ∈ u := by rw [eu]; simp [h1]
        exact absurd rfl ((List.nodup_append.mp hND).2.2 b this b (by simp))
      · exact absurd h1.symm hne
      · exact h1
    obtain ⟨v', w', ev0⟩ := List.append_of_mem hb0
    have hND2 : (v ++ b :: w).Nodup := (List.nodup_cons.mp (List.nodup_append.mp hND).2.1).2
    have e3 : v ++ b :: w = v' ++ b :: (w' ++ rb) := by rw [ev, ev0]; simp
    obtain ⟨ev1, -⟩ := sp_uq hND2 e3
    exact ⟨u', v', w', by rw [← ev0, ← ep]; exact q2, by rw [ev1]⟩
  · rintro ⟨u, v, w, h, rfl⟩
    have hm : ∀ c, c ∈ A ++ p :: B → c ∈ ch id := fun c hc => by rw [e]; exact hc
    obtain ⟨ra, hra⟩ := Seq_ex (P := Fr kd ch) A (fun c hc => Fr_ex c (hall c (hm c (by simp [hc]))))
    obtain ⟨rb, hrb⟩ := Seq_ex (P := Fr kd ch) B (fun c hc => Fr_ex c (hall c (hm c (by simp [hc]))))
    refine ⟨ra ++ u, v, w ++ rb, (Fr_node h8).mpr ⟨ch id, OrdR_self _ _, ?_⟩, rfl⟩
    rw [e, SeqR_app]
    exact ⟨ra, (u ++ a :: (v ++ b :: w)) ++ rb, by simp, hra, _, rb, rfl, h, hrb⟩
theorem SdR.ahead {id x V : Nat} {g : Bool} (h : SdR kd ch id x g V) : (∃ u v, Fr kd ch id (u ++ x :: v) ∧ u.length = V) ∧ ∀ u v, Fr kd ch id (u ++ x :: v) → (g = false → V ≤ u.length) ∧ (g = true → u.length ≤ V) := by
  obtain ⟨⟨u, v, h1, h2⟩, h3⟩ := h
  have rv : ∀ u v : List Nat, Fr kd ch id (u ++ x :: v) → Fr kd ch id (v.reverse ++ x :: u.reverse) := fun u v h => by have := Fr_rev h; simpa using this
  refine ⟨⟨v.reverse, u.reverse, rv _ _ h1, by simp [h2]⟩, fun u v h => ?_⟩
  have := h3 _ _ (rv _ _ h)
  rwa [List.length_reverse] at this
/- two things in two parts -/
theorem gap_two {id p q a b Va Vb : Nat} {A M B C : List Nat} {g : Bool} (h8 : 8 ≤ id) (hw : Wf kd ch st id) (hC : C = ch id ∨ C = (ch id).reverse) (e : C = A ++ p :: (M ++ q :: B)) (hall : ∀ c ∈ ch id, Wf kd ch st c ∧ st c < 256) (hnd : (ch id).Nodup) (ha : (st p).testBit a = true) (hb : (st q).testBit b = true) (hVa : SdR kd ch p a g Va) (hVb : SdR kd ch q b g Vb) : GpV kd ch id a b g (Va + Vb + (if kd id = true then pcs st M else if g = true then pcs st A + pcs st M + pcs st B else 0)) := by
  have hCm : ∀ c, c ∈ C ↔ c ∈ ch id := fun c => by rcases hC with rfl | rfl <;> simp
  have hCn : C.Nodup := by rcases hC with rfl | rfl; exact hnd; rw [nodup_rev]; exact hnd
  have hOC : ∀ X, OrdR (kd id) (ch id) X ↔ OrdR (kd id) C X := fun X => by
    unfold OrdR
    rcases hC with rfl | rfl
    · exact Iff.rfl
    · cases kd id
      · rw [if_neg (by decide), if_neg (by decide)]
        exact ⟨fun h => h.trans (List.reverse_perm _).symm, fun h => h.trans (List.reverse_perm _)⟩
      · rw [if_pos rfl, if_pos rfl, List.reverse_reverse]
        exact ⟨fun h => h.symm, fun h => h.symm⟩
  have hpm : p ∈ ch id := (hCm p).mp (by rw [e]; simp)
  have hqm : q ∈ ch id := (hCm q).mp (by rw [e]; simp)
  have hpq : p ≠ q := fun z => by
    rw [e, List.nodup_append] at hCn
    exact (List.nodup_cons.mp hCn.2.1).1 (by rw [z]; simp)
  obtain ⟨⟨u1, v1, a1, a2⟩, a3⟩ := hVa
  obtain ⟨⟨u2, v2, b1, b2⟩, b3⟩ := hVb.ahead
  have ex : ∀ A' M' B', OrdR (kd id) (ch id) (A' ++ p :: (M' ++ q :: B')) → GpR kd ch id a b (Va + Vb + pcs st M') := fun A' M' B' hO => by
    have hm : ∀ c, c ∈ A' ++ p :: (M' ++ q :: B') → c ∈ ch id := fun c hc => (OrdR_mem hO).mp hc
    obtain ⟨ra, hra⟩ := Seq_ex (P := Fr kd ch) A' (fun c hc => Fr_ex c (hall c (hm c (by simp [hc]))).1)
    obtain ⟨rm, hrm⟩ := Seq_ex (P := Fr kd ch) M' (fun c hc => Fr_ex c (hall c (hm c (by simp [hc]))).1)
    obtain ⟨rb, hrb⟩ := Seq_ex (P := Fr kd ch) B' (fun c hc => Fr_ex c (hall c (hm c (by simp [hc]))).1)
    refine ⟨ra ++ u1, v1 ++ (rm ++ u2), v2 ++ rb, (Fr_node h8).mpr ⟨_, hO, ?_⟩, ?_⟩
    · rw [SeqR_app]
      refine ⟨ra, (u1 ++ a :: v1) ++ (rm ++ ((u2 ++ b :: v2) ++ rb)), by simp, hra, _, _, rfl, a1, ?_⟩
      rw [SeqR_app]
      exact ⟨rm, (u2 ++ b :: v2) ++ rb, rfl, hrm, _, rb, rfl, b1, hrb⟩
    · rw [List.length_append, List.length_append, a2, b2, seq_len (fun c hc => hall c (hm c (by simp [hc]))) hrm]; omega
  have bd : ∀ s, GpR kd ch id a b s → ∃ A' M' B', OrdR (kd id) (ch id) (A' ++ p :: (M' ++ q :: B')) ∧ (g = false → Va + Vb + pcs st M' ≤ s) ∧ (g = true → s ≤ Va + Vb + pcs st M') := by
    rintro s ⟨u, v, w, h, rfl⟩
    have hND := (Fr_set id hw _ h).1
    obtain ⟨L, hO, hS⟩ := (Fr_node h8).mp h
    have hm : ∀ c, c ∈ L → c ∈ ch id := fun c hc => (OrdR_mem hO).mp hc
    obtain ⟨A', R', eL⟩ := List.append_of_mem ((OrdR_mem hO).mpr hpm)
    have hq2 := (OrdR_mem hO).mpr hqm
    rw [eL, List.mem_append, List.mem_cons] at hq2
    obtain ⟨ra, rp, rr, er, q1, q2, q3⟩ := row_part (id := id) hS eL
    have hset := Fr_set p (hall p hpm).1 _ q2
    obtain ⟨x1, y1, ep⟩ := List.append_of_mem ((hset.2 a).mpr ha)
    have e2 : u ++ a :: (v ++ b :: w) = (ra ++ x1) ++ a :: (y1 ++ rr) := by rw [er, ep]; simp
    obtain ⟨eu, ev⟩ := sp_uq hND e2
    rcases hq2 with hq2 | hq2 | hq2
    · -- q before p: b would be in u
      exfalso
      obtain ⟨A1, A2, eA⟩ := List.append_of_mem hq2
      obtain ⟨sa, sq, sb, es, w1, w2, w3⟩ := row_part (id := id) q1 eA
      have hbq : b ∈ sq := ((Fr_set q (hall q hqm).1 _ w2).2 b).mpr hb
      have : b ∈ u := by rw [eu, es]; simp [hbq]
      exact absurd rfl ((List.nodup_append.mp hND).2.2 b this b (by simp))
    · exact absurd hq2.symm hpq
    · obtain ⟨M', B', eR⟩ := List.append_of_mem hq2
      obtain ⟨rm, rq, rb, es, w1, w2, w3⟩ := row_part (id := id) q3 eR
      have hsq := Fr_set q (hall q hqm).1 _ w2
      obtain ⟨x2, y2, eq2⟩ := List.append_of_mem ((hsq.2 b).mpr hb)
      have hND2 : (v ++ b :: w).Nodup := (List.nodup_cons.mp (List.nodup_append.mp hND).2.1).2
      have e3 : v ++ b :: w = (y1 ++ (rm ++ x2)) ++ b :: (y2 ++ rb) := by rw [ev, es, eq2]; simp
      obtain ⟨ev1, -⟩ := sp_uq hND2 e3
      have hl : v.length = y1.length + (pcs st M' + x2.length) := by
        rw [ev1, List.length_append, List.length_append, seq_len (fun c hc => hall c (hm c (by rw [eL, eR]; simp [hc]))) w1]
      rw [ep] at q2
      rw [eq2] at w2
      refine ⟨A', M', B', by rw [← eR, ← eL]; exact hO, fun hg => ?_, fun hg => ?_⟩
      · have := (a3 _ _ q2).1 hg
        have := (b3 _ _ w2).1 hg
        omega
      · have := (a3 _ _ q2).2 hg
        have := (b3 _ _ w2).2 hg
        omega
  cases hk : kd id
  · rw [hk] at ex bd hOC
    have per : ∀ X, OrdR false (ch id) X ↔ X.Perm C := fun X => by rw [hOC]; unfold OrdR; rw [if_neg (by decide)]
    have e1 : ∀ (y : Nat) (X : List Nat), pcs st (y :: X) = pc8 (st y) + pcs st X := fun _ _ => rfl
    rw [if_neg (by decide)]
    cases g
    · rw [if_neg (by decide)]
      refine ⟨?_, fun s h => ⟨fun _ => ?_, fun hg => (by cases hg)⟩⟩
      · have := ex (A ++ (M ++ B)) [] [] ((per _).mpr (by
          rw [e]
          have h1 : (A ++ (M ++ B) ++ p :: ([] ++ [q])).Perm (A ++ ((M ++ B) ++ [p, q])) := by rw [List.append_assoc]; exact List.Perm.refl _
          refine h1.trans (List.Perm.append_left A ?_)
          refine (List.perm_append_comm (l₁ := M ++ B) (l₂ := [p, q])).trans ?_
          show (p :: q :: (M ++ B)).Perm (p :: (M ++ q :: B))
          exact (List.perm_middle.symm).cons p))
        exact this
      · obtain ⟨A', M', B', h1, h2, h3⟩ := bd s h
        have := h2 rfl
        omega
    · rw [if_pos rfl]
      refine ⟨?_, fun s h => ⟨fun hg => (by cases hg), fun _ => ?_⟩⟩
      · have := ex [] (A ++ (M ++ B)) [] ((per _).mpr (by
          rw [e]
          show (p :: ((A ++ (M ++ B)) ++ [q])).Perm _
          refine List.Perm.trans ?_ (List.perm_middle.symm)
          refine List.Perm.cons p ?_
          rw [List.append_assoc]
          refine List.Perm.append_left A ?_
          rw [List.append_assoc]
          refine List.Perm.append_left M ?_
          exact List.perm_append_comm (l₁ := B) (l₂ := [q])))
        rw [pcs_app, pcs_app, ← Nat.add_assoc (pcs st A)] at this
        exact this
      · obtain ⟨A', M', B', h1, h2, h3⟩ := bd s h
        have := h3 rfl
        have hp := pcs_perm (st := st) ((per _).mp h1)
        rw [e, pcs_app, e1, pcs_app, e1, pcs_app, e1, pcs_app, e1] at hp
        omega
  · rw [hk] at ex bd hOC
    rw [if_pos rfl]
    have hn2 : (A ++ p :: (M ++ q :: B)).Nodup := by rw [← e]; exact hCn
    refine ⟨ex A M B ((hOC _).mpr (by rw [e]; exact OrdR_self _ _)), fun s h => ?_⟩
    obtain ⟨A', M', B', h1, h2, h3⟩ := bd s h
    have hM : M' = M := by
      have h4 := (hOC _).mp h1
      unfold OrdR at h4
      rw [if_pos rfl, e] at h4
      rcases h4 with h4 | h4
      · have h5 := (sp_uq hn2 h4.symm).2
        have hn3 : (M ++ q :: B).Nodup := (List.nodup_cons.mp (List.nodup_append.mp hn2).2.1).2
        exact (sp_uq hn3 h5).1.symm
      · exfalso
        have er : (A ++ p :: (M ++ q :: B)).reverse = (B.reverse ++ q :: M.reverse) ++ p :: A.reverse := by simp
        rw [er] at h4
        have hn3 : ((B.reverse ++ q :: M.reverse) ++ p :: A.reverse).Nodup := by rw [← er, nodup_rev]; exact hn2
        have h5 := (sp_uq hn3 h4.symm).2
        have hqA : q ∈ A.reverse := by rw [h5]; simp
        exact absurd rfl ((List.nodup_append.mp hn3).2.2 q (by simp) q (by simp [List.mem_reverse.mp hqA]))
    rw [hM] at h2 h3
    exact ⟨h2, h3⟩
end

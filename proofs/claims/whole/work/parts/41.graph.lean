-- ===== trees as graphs of nodes: things are the ids below 8 =====
def OrdR (k : Bool) (L M : List Nat) : Prop := if k = true then M = L ∨ M = L.reverse else M.Perm L
def FrD (kd : Nat → Bool) (ch : Nat → List Nat) : Nat → Nat → List Nat → Prop
  | 0, _, _ => False
  | d + 1, id, r => if id < 8 then r = [id] else ∃ L, OrdR (kd id) (ch id) L ∧ SeqR (FrD kd ch d) L r
def Fr (kd : Nat → Bool) (ch : Nat → List Nat) (id : Nat) (r : List Nat) : Prop := ∃ d, FrD kd ch d id r
theorem OrdR_perm {k : Bool} {L M : List Nat} (h : OrdR k L M) : M.Perm L := by
  unfold OrdR at h
  split at h
  · rcases h with rfl | rfl
    · exact List.Perm.refl _
    · exact List.reverse_perm _
  · exact h
theorem OrdR_mem {k : Bool} {L M : List Nat} (h : OrdR k L M) {c : Nat} : c ∈ M ↔ c ∈ L := (OrdR_perm h).mem_iff
theorem OrdR_self (k : Bool) (L : List Nat) : OrdR k L L := by
  unfold OrdR; split
  · exact Or.inl rfl
  · exact List.Perm.refl _
theorem OrdR_rev {k : Bool} {L M : List Nat} (h : OrdR k L M) : OrdR k L M.reverse := by
  unfold OrdR at h ⊢
  split at h
  · rename_i hk
    rw [if_pos hk]
    rcases h with rfl | rfl
    · exact Or.inr rfl
    · exact Or.inl (List.reverse_reverse _)
  · rename_i hk
    rw [if_neg hk]
    exact (List.reverse_perm _).trans h
theorem FrD_mono {kd : Nat → Bool} {ch : Nat → List Nat} : ∀ {d e id : Nat} {r : List Nat}, FrD kd ch d id r → d ≤ e → FrD kd ch e id r := by
  intro d
  induction d with
  | zero => intro e id r h; exact absurd h (by simp [FrD])
  | succ d ih =>
    intro e id r h he
    obtain ⟨e, rfl⟩ : ∃ q, e = q + 1 := ⟨e - 1, by omega⟩
    unfold FrD at h ⊢
    split at h
    · rename_i hid; rw [if_pos hid]; exact h
    · rename_i hid
      rw [if_neg hid]
      obtain ⟨L, h1, h2⟩ := h
      exact ⟨L, h1, SeqR_mono (fun c _ r hr => ih hr (by omega)) h2⟩
theorem SeqR_fuel {kd : Nat → Bool} {ch : Nat → List Nat} : ∀ {L : List Nat} {r : List Nat}, SeqR (Fr kd ch) L r → ∃ d, SeqR (FrD kd ch d) L r := by
  intro L
  induction L with
  | nil => intro r h; exact ⟨0, h⟩
  | cons c L ih =>
    rintro r ⟨a, b, rfl, ⟨d, h1⟩, h2⟩
    obtain ⟨e, h3⟩ := ih h2
    exact ⟨max d e, a, b, rfl, FrD_mono h1 (Nat.le_max_left _ _), SeqR_mono (fun c _ r hr => FrD_mono hr (Nat.le_max_right _ _)) h3⟩
theorem Fr_leaf {kd : Nat → Bool} {ch : Nat → List Nat} {id : Nat} {r : List Nat} (h : id < 8) : Fr kd ch id r ↔ r = [id] := by
  constructor
  · rintro ⟨d, hd⟩
    cases d with
    | zero => exact absurd hd (by simp [FrD])
    | succ d => unfold FrD at hd; rw [if_pos h] at hd; exact hd
  · rintro rfl; exact ⟨1, by unfold FrD; rw [if_pos h]⟩
theorem Fr_node {kd : Nat → Bool} {ch : Nat → List Nat} {id : Nat} {r : List Nat} (h : 8 ≤ id) : Fr kd ch id r ↔ ∃ L, OrdR (kd id) (ch id) L ∧ SeqR (Fr kd ch) L r := by
  constructor
  · rintro ⟨d, hd⟩
    cases d with
    | zero => exact absurd hd (by simp [FrD])
    | succ d =>
      unfold FrD at hd
      rw [if_neg (by omega)] at hd
      obtain ⟨L, h1, h2⟩ := hd
      exact ⟨L, h1, SeqR_mono (fun c _ r hr => ⟨d, hr⟩) h2⟩
  · rintro ⟨L, h1, h2⟩
    obtain ⟨d, h3⟩ := SeqR_fuel h2
    exact ⟨d + 1, by unfold FrD; rw [if_neg (by omega)]; exact ⟨L, h1, h3⟩⟩
def orL (st : Nat → Nat) : List Nat → Nat
  | [] => 0
  | c :: L => st c ||| orL st L
theorem orL_bit (st : Nat → Nat) (L : List Nat) (x : Nat) : (orL st L).testBit x = true ↔ ∃ c ∈ L, (st c).testBit x = true := by
  induction L with
  | nil => simp [orL]
  | cons c L ih => simp [orL, Nat.testBit_or, ih]
theorem orL_perm {st : Nat → Nat} {L M : List Nat} (h : ∀ c, c ∈ L ↔ c ∈ M) : orL st L = orL st M := by
  apply Nat.eq_of_testBit_eq
  intro i
  have : (orL st L).testBit i = true ↔ (orL st M).testBit i = true := by
    rw [orL_bit, orL_bit]
    exact ⟨fun ⟨c, hc, h1⟩ => ⟨c, (h c).mp hc, h1⟩, fun ⟨c, hc, h1⟩ => ⟨c, (h c).mpr hc, h1⟩⟩
  cases h1 : (orL st L).testBit i <;> cases h2 : (orL st M).testBit i <;> simp_all
theorem orL_app (st : Nat → Nat) (A B : List Nat) : orL st (A ++ B) = orL st A ||| orL st B := by
  apply Nat.eq_of_testBit_eq
  intro i
  have : (orL st (A ++ B)).testBit i = true ↔ (orL st A ||| orL st B).testBit i = true := by
    rw [orL_bit, Nat.testBit_or, Bool.or_eq_true, orL_bit, orL_bit]
    simp only [List.mem_append]
    constructor
    · rintro ⟨c, h | h, hx⟩
      · exact Or.inl ⟨c, h, hx⟩
      · exact Or.inr ⟨c, h, hx⟩
    · rintro (⟨c, h, hx⟩ | ⟨c, h, hx⟩)
      · exact ⟨c, Or.inl h, hx⟩
      · exact ⟨c, Or.inr h, hx⟩
  cases h1 : (orL st (A ++ B)).testBit i <;> cases h2 : (orL st A ||| orL st B).testBit i <;> simp_all
def Dj (st : Nat → Nat) (L : List Nat) : Prop := L.Pairwise (fun a b => st a &&& st b = 0)
theorem Dj_perm {st : Nat → Nat} {L M : List Nat} (h : M.Perm L) (hd : Dj st L) : Dj st M := h.symm.pairwise hd (fun {a b} hab => by rw [Nat.and_comm]; exact hab)
def WfD (kd : Nat → Bool) (ch : Nat → List Nat) (st : Nat → Nat) : Nat → Nat → Prop
  | 0, _ => False
  | d + 1, id => if id < 8 then st id = 2 ^ id else 2 ≤ (ch id).length ∧ (kd id = true → 3 ≤ (ch id).length) ∧ st id = orL st (ch id) ∧ Dj st (ch id) ∧ ∀ c ∈ ch id, WfD kd ch st d c
def Wf (kd : Nat → Bool) (ch : Nat → List Nat) (st : Nat → Nat) (id : Nat) : Prop := ∃ d, WfD kd ch st d id
theorem WfD_mono {kd : Nat → Bool} {ch : Nat → List Nat} {st : Nat → Nat} : ∀ {d e id : Nat}, WfD kd ch st d id → d ≤ e → WfD kd ch st e id := by
  intro d
  induction d with
  | zero => intro e id h; exact absurd h (by simp [WfD])
  | succ d ih =>
    intro e id h he
    obtain ⟨e, rfl⟩ : ∃ q, e = q + 1 := ⟨e - 1, by omega⟩
    unfold WfD at h ⊢
    split at h
    · rename_i hid; rw [if_pos hid]; exact h
    · rename_i hid
      rw [if_neg hid]
      obtain ⟨h1, h2, h3, h4, h5⟩ := h
      exact ⟨h1, h2, h3, h4, fun c hc => ih (h5 c hc) (by omega)⟩
theorem Wf_leaf {kd : Nat → Bool} {ch : Nat → List Nat} {st : Nat → Nat} {id : Nat} (h : id < 8) : Wf kd ch st id ↔ st id = 2 ^ id := by
  constructor
  · rintro ⟨d, hd⟩
    cases d with
    | zero => exact absurd hd (by simp [WfD])
    | succ d => unfold WfD at hd; rw [if_pos h] at hd; exact hd
  · intro e; exact ⟨1, by unfold WfD; rw [if_pos h]; exact e⟩
theorem Wf_list {kd : Nat → Bool} {ch : Nat → List Nat} {st : Nat → Nat} : ∀ (L : List Nat), (∀ c ∈ L, Wf kd ch st c) → ∃ d, ∀ c ∈ L, WfD kd ch st d c := by
  intro L
  induction L with
  | nil => intro _; exact ⟨0, fun c h => by simp at h⟩
  | cons a L ih =>
    intro h
    obtain ⟨d, hd⟩ := ih (fun c hc => h c (by simp [hc]))
    obtain ⟨e, he⟩ := h a (by simp)
    refine ⟨max d e, fun c hc => ?_⟩
    rcases List.mem_cons.mp hc with rfl | hc
    · exact WfD_mono he (Nat.le_max_right _ _)
    · exact WfD_mono (hd c hc) (Nat.le_max_left _ _)
theorem Wf_node {kd : Nat → Bool} {ch : Nat → List Nat} {st : Nat → Nat} {id : Nat} (h : 8 ≤ id) : Wf kd ch st id ↔ 2 ≤ (ch id).length ∧ (kd id = true → 3 ≤ (ch id).length) ∧ st id = orL st (ch id) ∧ Dj st (ch id) ∧ ∀ c ∈ ch id, Wf kd ch st c := by
  constructor
  · rintro ⟨d, hd⟩
    cases d with
    | zero => exact absurd hd (by simp [WfD])
    | succ d =>
      unfold WfD at hd
      rw [if_neg (by omega)] at hd
      obtain ⟨h1, h2, h3, h4, h5⟩ := hd
      exact ⟨h1, h2, h3, h4, fun c hc => ⟨d, h5 c hc⟩⟩
  · rintro ⟨h1, h2, h3, h4, h5⟩
    obtain ⟨d, hd⟩ := Wf_list _ h5
    exact ⟨d + 1, by unfold WfD; rw [if_neg (by omega)]; exact ⟨h1, h2, h3, h4, hd⟩⟩
/-- induction along a tree -/
theorem Wf_ind {kd : Nat → Bool} {ch : Nat → List Nat} {st : Nat → Nat} (P : Nat → Prop) (hl : ∀ id, id < 8 → st id = 2 ^ id → P id) (hn : ∀ id, 8 ≤ id → Wf kd ch st id → (∀ c ∈ ch id, Wf kd ch st c ∧ P c) → P id) : ∀ id, Wf kd ch st id → P id := by
  have key : ∀ d id, WfD kd ch st d id → P id := by
    intro d
    induction d with
    | zero => intro id h; exact absurd h (by simp [WfD])
    | succ d ih =>
      intro id h
      have h' := h
      unfold WfD at h
      split at h
      · rename_i hid; exact hl id hid h
      · rename_i hid
        exact hn id (by omega) ⟨_, h'⟩ (fun c hc => ⟨⟨d, h.2.2.2.2 c hc⟩, ih c (h.2.2.2.2 c hc)⟩)
  rintro id ⟨d, hd⟩
  exact key d id hd
theorem Seq_set {st : Nat → Nat} {P : Nat → List Nat → Prop} : ∀ {L : List Nat} {r : List Nat}, Dj st L → (∀ c ∈ L, ∀ r, P c r → r.Nodup ∧ ∀ x, x ∈ r ↔ (st c).testBit x = true) → SeqR P L r → r.Nodup ∧ ∀ x, x ∈ r ↔ (orL st L).testBit x = true := by
  intro L
  induction L with
  | nil => intro r _ _ h; simp only [SeqR] at h; subst h; simp [orL]
  | cons c L ih =>
    rintro r hd hP ⟨a, b, rfl, h1, h2⟩
    obtain ⟨hd1, hd2⟩ := List.pairwise_cons.mp hd
    obtain ⟨a1, a2⟩ := hP c (by simp) a h1
    obtain ⟨b1, b2⟩ := ih hd2 (fun d hd => hP d (by simp [hd])) h2
    refine ⟨List.nodup_append.mpr ⟨a1, b1, ?_⟩, fun x => ?_⟩
    · intro x hx y hy e
      subst e
      have h3 := (a2 x).mp hx
      obtain ⟨d, hd, h4⟩ := (orL_bit st L x).mp ((b2 x).mp hy)
      exact and_ne0.mpr ⟨x, h3, h4⟩ (hd1 d hd)
    · rw [List.mem_append, a2, b2, orL_bit, orL_bit]
      simp
theorem Fr_set {kd : Nat → Bool} {ch : Nat → List Nat} {st : Nat → Nat} : ∀ id, Wf kd ch st id → ∀ r, Fr kd ch id r → r.Nodup ∧ ∀ x, x ∈ r ↔ (st id).testBit x = true := by
  refine Wf_ind _ ?_ ?_
  · intro id hid hs r hr
    rw [Fr_leaf hid] at hr
    subst hr
    rw [hs]
    simp [Nat.testBit_two_pow, eq_comm]
  · intro id hid hw ih r hr
    rw [Fr_node hid] at hr
    obtain ⟨L, h1, h2⟩ := hr
    obtain ⟨-, -, w3, w4, -⟩ := (Wf_node hid).mp hw
    have h3 := Seq_set (Dj_perm (OrdR_perm h1) w4) (fun c hc => (ih c ((OrdR_mem h1).mp hc)).2) h2
    rw [w3, ← orL_perm (L := L) (fun c => OrdR_mem h1)]
    exact h3
theorem Seq_ex {α : Type} {P : α → List Nat → Prop} : ∀ (L : List α), (∀ c ∈ L, ∃ r, P c r) → ∃ r, SeqR P L r := by
  intro L
  induction L with
  | nil => intro _; exact ⟨[], rfl⟩
  | cons c L ih =>
    intro h
    obtain ⟨a, ha⟩ := h c (by simp)
    obtain ⟨b, hb⟩ := ih (fun d hd => h d (by simp [hd]))
    exact ⟨a ++ b, a, b, rfl, ha, hb⟩
theorem Fr_ex {kd : Nat → Bool} {ch : Nat → List Nat} {st : Nat → Nat} : ∀ id, Wf kd ch st id → ∃ r, Fr kd ch id r := by
  refine Wf_ind _ ?_ ?_
  · intro id hid hs; exact ⟨[id], (Fr_leaf hid).mpr rfl⟩
  · intro id hid hw ih
    obtain ⟨r, hr⟩ := Seq_ex (ch id) (fun c hc => (ih c hc).2)
    exact ⟨r, (Fr_node hid).mpr ⟨_, OrdR_self _ _, hr⟩⟩
theorem Fr_rev {kd : Nat → Bool} {ch : Nat → List Nat} : ∀ {id : Nat} {r : List Nat}, Fr kd ch id r → Fr kd ch id r.reverse := by
  have key : ∀ d id r, FrD kd ch d id r → FrD kd ch d id r.reverse := by
    intro d
    induction d with
    | zero => intro id r h; exact absurd h (by simp [FrD])
    | succ d ih =>
      intro id r h
      unfold FrD at h ⊢
      split at h
      · rename_i hid; rw [if_pos hid, h]; rfl
      · rename_i hid
        rw [if_neg hid]
        obtain ⟨L, h1, h2⟩ := h
        exact ⟨L.reverse, OrdR_rev h1, SeqR_rev (fun c _ r hr => ih c r hr) h2⟩
  rintro id r ⟨d, hd⟩
  exact ⟨d, key d id r hd⟩
theorem Wf_ne0 {kd : Nat → Bool} {ch : Nat → List Nat} {st : Nat → Nat} : ∀ id, Wf kd ch st id → st id ≠ 0 := by
  refine Wf_ind _ ?_ ?_
  · intro id hid hs; rw [hs]; exact Nat.ne_of_gt (Nat.two_pow_pos id)
  · intro id hid hw ih e
    obtain ⟨w1, -, w3, -, -⟩ := (Wf_node hid).mp hw
    cases hc : ch id with
    | nil => rw [hc] at w1; simp at w1
    | cons c L =>
      have := (ih c (by rw [hc]; simp)).2
      apply this
      apply Nat.eq_of_testBit_eq
      intro i
      cases h : (st c).testBit i with
      | false => simp
      | true =>
        have h2 : (orL st (ch id)).testBit i = true := (orL_bit st _ i).mpr ⟨c, by rw [hc]; simp, h⟩
        rw [← w3, e] at h2; simp at h2

-- ===== how many rows a tree has =====
def prm : Nat → List Nat → List (List Nat)
  | 0, _ => [[]]
  | n + 1, L => L.flatMap (fun x => (prm n (L.erase x)).map (fun p => x :: p))
theorem prm_mem : ∀ (n : Nat) (L M : List Nat), L.length = n → (M ∈ prm n L ↔ M.Perm L) := by
  intro n
  induction n with
  | zero =>
    intro L M h
    have : L = [] := List.eq_nil_of_length_eq_zero h
    subst this
    simp [prm]
  | succ n ih =>
    intro L M h
    simp only [prm, List.mem_flatMap, List.mem_map]
    constructor
    · rintro ⟨x, hx, p, hp, rfl⟩
      have hl : (L.erase x).length = n := by rw [List.length_erase_of_mem hx, h]; rfl
      rw [ih _ _ hl] at hp
      exact (List.Perm.cons x hp).trans (List.perm_cons_erase hx).symm
    · intro hM
      cases M with
      | nil => have := hM.length_eq; simp at this; omega
      | cons x M =>
        have hx : x ∈ L := hM.mem_iff.mp (by simp)
        have hl : (L.erase x).length = n := by rw [List.length_erase_of_mem hx, h]; rfl
        refine ⟨x, hx, M, ?_, rfl⟩
        rw [ih _ _ hl]
        exact List.Perm.cons_inv (hM.trans (List.perm_cons_erase hx))
theorem prm_nodup : ∀ (n : Nat) (L : List Nat), L.Nodup → (prm n L).Nodup := by
  intro n
  induction n with
  | zero => intro L _; simp [prm]
  | succ n ih =>
    intro L hL
    unfold prm
    apply nodup_flatMap
    · intro x hx
      exact nodup_map_inj _ _ (fun a b e => by simpa using e) (ih _ (hL.erase x))
    · exact hL
    · intro a ha b hb hne x hx hx2
      obtain ⟨p, -, rfl⟩ := List.mem_map.mp hx
      obtain ⟨q, -, e⟩ := List.mem_map.mp hx2
      simp at e
      exact hne e.1.symm
def fac : Nat → Nat
  | 0 => 1
  | n + 1 => (n + 1) * fac n
theorem sum_const {α : Type} (L : List α) (f : α → Nat) (c : Nat) (h : ∀ a ∈ L, f a = c) : (L.map f).sum = L.length * c := by
  induction L with
  | nil => simp
  | cons a L ih =>
    simp only [List.map_cons, List.sum_cons, List.length_cons]
    rw [ih (fun b hb => h b (by simp [hb])), h a (by simp), Nat.succ_mul]; omega
theorem prm_len : ∀ (n : Nat) (L : List Nat), L.length = n → (prm n L).length = fac n := by
  intro n
  induction n with
  | zero => intro L _; rfl
  | succ n ih =>
    intro L h
    unfold prm
    rw [List.length_flatMap, sum_const L _ (fac n) (fun x hx => by
      rw [List.length_map]; apply ih; rw [List.length_erase_of_mem hx, h]; rfl), h]
    rfl
def ords (k : Bool) (L : List Nat) : List (List Nat) := if k = true then [L, L.reverse] else prm L.length L
theorem ords_mem {k : Bool} {L M : List Nat} : M ∈ ords k L ↔ OrdR k L M := by
  unfold ords OrdR
  split
  · simp
  · exact prm_mem _ _ _ rfl
theorem rev_ne {L : List Nat} (hn : L.Nodup) (h : 2 ≤ L.length) : L ≠ L.reverse := by
  match L, h with
  | a :: b :: L, _ =>
    intro e
    have h1 := congrArg List.getLast? e
    rw [List.getLast?_reverse] at h1
    simp only [List.head?_cons] at h1
    have h2 : (b :: L).getLast? = some a := by simpa using h1
    have : a ∈ b :: L := List.mem_of_getLast? h2
    exact (List.nodup_cons.mp hn).1 this
theorem ords_nodup {k : Bool} {L : List Nat} (hn : L.Nodup) (h : 2 ≤ L.length) : (ords k L).Nodup := by
  unfold ords
  split
  · simp [rev_ne hn h]
  · exact prm_nodup _ _ hn
def wys (k : Bool) (n : Nat) : Nat := if k = true then 2 else fac n
theorem ords_len {k : Bool} {L : List Nat} : (ords k L).length = wys k L.length := by
  unfold ords wys
  split
  · rfl
  · exact prm_len _ _ rfl
def seqE (E : Nat → List (List Nat)) : List Nat → List (List Nat)
  | [] => [[]]
  | c :: L => (E c).flatMap (fun a => (seqE E L).map (fun b => a ++ b))
theorem seqE_mem {E : Nat → List (List Nat)} : ∀ {L : List Nat} {r : List Nat}, r ∈ seqE E L ↔ SeqR (fun c r => r ∈ E c) L r := by
  intro L
  induction L with
  | nil => intro r; simp [seqE, SeqR]
  | cons c L ih =>
    intro r
    simp only [seqE, SeqR, List.mem_flatMap, List.mem_map]
    constructor
    · rintro ⟨a, ha, b, hb, rfl⟩; exact ⟨a, b, rfl, ha, ih.mp hb⟩
    · rintro ⟨a, b, rfl, ha, hb⟩; exact ⟨a, ha, b, ih.mpr hb, rfl⟩
def prodL (f : Nat → Nat) : List Nat → Nat
  | [] => 1
  | c :: L => f c * prodL f L
theorem prodL_perm {f : Nat → Nat} {A B : List Nat} (h : A.Perm B) : prodL f A = prodL f B := by
  induction h with
  | nil => rfl
  | cons x _ ih => simp only [prodL]; rw [ih]
  | swap x y l => simp only [prodL]; rw [← Nat.mul_assoc, ← Nat.mul_assoc, Nat.mul_comm (f y)]
  | trans _ _ h1 h2 => rw [h1, h2]
theorem prodL_app {f : Nat → Nat} {A B : List Nat} : prodL f (A ++ B) = prodL f A * prodL f B := by
  induction A with
  | nil => simp [prodL]
  | cons c A ih => simp only [List.cons_append, prodL]; rw [ih, Nat.mul_assoc]
theorem seqE_len {E : Nat → List (List Nat)} : ∀ {L : List Nat}, (seqE E L).length = prodL (fun c => (E c).length) L := by
  intro L
  induction L with
  | nil => rfl
  | cons c L ih =>
    simp only [seqE, prodL]
    rw [List.length_flatMap, sum_const _ _ (seqE E L).length (fun a _ => by rw [List.length_map]), ih]
/-- rows with the same things, ahead of others: they end at the same place -/
theorem app_inj_set {a a2 b b2 : List Nat} (h : a ++ b = a2 ++ b2) (ha : ∀ x, x ∈ a ↔ x ∈ a2) (hn : (a ++ b).Nodup) : a = a2 ∧ b = b2 := by
  rcases List.append_eq_append_iff.mp h with ⟨c, rfl, rfl⟩ | ⟨c, rfl, rfl⟩
  · cases c with
    | nil => simp
    | cons x c =>
      exfalso
      have h1 : x ∈ a := (ha x).mpr (by simp)
      exact (List.nodup_append.mp hn).2.2 x h1 x (by simp) rfl
  · cases c with
    | nil => simp
    | cons x c =>
      exfalso
      have h1 : x ∈ a2 := (ha x).mp (by simp)
      have h2 : (a2 ++ x :: c).Nodup := (List.nodup_append.mp hn).1
      exact (List.nodup_append.mp h2).2.2 x h1 x (by simp) rfl
theorem Seq_uniq {st : Nat → Nat} {P : Nat → List Nat → Prop} : ∀ {L M : List Nat} {r : List Nat}, Dj st L → Dj st M → (∀ c, c ∈ L ∨ c ∈ M → st c ≠ 0 ∧ ∀ r, P c r → r.Nodup ∧ ∀ x, x ∈ r ↔ (st c).testBit x = true) → (∀ c d, (c ∈ L ∨ c ∈ M) → (d ∈ L ∨ d ∈ M) → st c &&& st d ≠ 0 → c = d) → SeqR P L r → SeqR P M r → L = M := by
  intro L
  induction L with
  | nil =>
    intro M r _ _ hP _ h1 h2
    simp only [SeqR] at h1; subst h1
    cases M with
    | nil => rfl
    | cons c M =>
      obtain ⟨a, b, e, h3, -⟩ := h2
      simp at e
      obtain ⟨rfl, -⟩ := e
      obtain ⟨h4, h5⟩ := hP c (Or.inr (by simp))
      obtain ⟨i, hi⟩ := Nat.exists_testBit_of_ne_zero h4
      have := ((h5 [] h3).2 i).mpr hi
      simp at this
  | cons c L ih =>
    rintro M r hL hM hP hU ⟨a, b, rfl, h1, h2⟩ hr
    cases M with
    | nil =>
      simp only [SeqR] at hr
      simp at hr
      obtain ⟨rfl, -⟩ := hr
      obtain ⟨h4, h5⟩ := hP c (Or.inl (by simp))
      obtain ⟨i, hi⟩ := Nat.exists_testBit_of_ne_zero h4
      have := ((h5 [] h1).2 i).mpr hi
      simp at this
    | cons d M =>
      obtain ⟨a2, b2, e, g1, g2⟩ := hr
      obtain ⟨c0, c1⟩ := hP c (Or.inl (by simp))
      obtain ⟨d0, d1⟩ := hP d (Or.inr (by simp))
      obtain ⟨cn, cx⟩ := c1 a h1
      obtain ⟨dn, dx⟩ := d1 a2 g1
      have hcd : c = d := by
        cases a with
        | nil =>
          obtain ⟨i, hi⟩ := Nat.exists_testBit_of_ne_zero c0
          have := (cx i).mpr hi
          simp at this
        | cons x a =>
          cases a2 with
          | nil =>
            obtain ⟨i, hi⟩ := Nat.exists_testBit_of_ne_zero d0
            have := (dx i).mpr hi
            simp at this
          | cons y a2 =>
            simp at e
            obtain ⟨rfl, -⟩ := e
            exact hU c d (Or.inl (by simp)) (Or.inr (by simp)) (and_ne0.mpr ⟨x, (cx x).mp (by simp), (dx x).mp (by simp)⟩)
      subst hcd
      have hnd : (a ++ b).Nodup := (Seq_set (P := P) (L := c :: L) hL (fun k hk => (hP k (Or.inl hk)).2) ⟨a, b, rfl, h1, h2⟩).1
      obtain ⟨rfl, rfl⟩ := app_inj_set e (fun x => by rw [cx, dx]) hnd
      have := ih (List.pairwise_cons.mp hL).2 (List.pairwise_cons.mp hM).2 (fun k hk => hP k (hk.elim (fun h => Or.inl (by simp [h])) (fun h => Or.inr (by simp [h])))) (fun k l hk hl => hU k l (hk.elim (fun h => Or.inl (by simp [h])) (fun h => Or.inr (by simp [h]))) (hl.elim (fun h => Or.inl (by simp [h])) (fun h => Or.inr (by simp [h])))) h2 g2
      rw [this]

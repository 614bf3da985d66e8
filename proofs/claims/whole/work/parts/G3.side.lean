/- how many things can be behind a thing in a row -/
theorem sp_uq {x : Nat} {u v u2 v2 : List Nat} (hn : (u ++ x :: v).Nodup) (e : u ++ x :: v = u2 ++ x :: v2) : u = u2 ∧ v = v2 := by
  have h1 := List.nodup_append.mp hn
  rcases List.append_eq_append_iff.mp e with ⟨c, hc1, hc2⟩ | ⟨c, hc1, hc2⟩
  · cases c with
    | nil =>
      rw [List.nil_append, List.cons.injEq] at hc2
      exact ⟨by rw [hc1, List.append_nil], hc2.2⟩
    | cons y c =>
      rw [List.cons_append, List.cons.injEq] at hc2
      have : x ∈ v := by rw [hc2.2]; simp
      exact absurd this (List.nodup_cons.mp h1.2.1).1
  · cases c with
    | nil =>
      rw [List.nil_append, List.cons.injEq] at hc2
      exact ⟨by rw [hc1, List.append_nil], hc2.2.symm⟩
    | cons y c =>
      rw [List.cons_append, List.cons.injEq] at hc2
      have : x ∈ u := by rw [hc1, hc2.1]; simp
      exact absurd rfl (h1.2.2 x this x (by simp))
def sumN (f : Nat → Nat) (L : List Nat) : Nat := (L.map f).sum
theorem sumN_app {f : Nat → Nat} {A B : List Nat} : sumN f (A ++ B) = sumN f A + sumN f B := by unfold sumN; rw [List.map_append, List.sum_append]
theorem sumN_cons {f : Nat → Nat} {a : Nat} {B : List Nat} : sumN f (a :: B) = f a + sumN f B := rfl
theorem sumN_zero {f : Nat → Nat} : ∀ {L : List Nat}, (∀ N ∈ L, f N = 0) → sumN f L = 0
  | [], _ => rfl
  | a :: L, h => by rw [sumN_cons, h a (by simp), sumN_zero (fun N hN => h N (by simp [hN]))]
theorem sumN_congr {f g : Nat → Nat} : ∀ {L : List Nat}, (∀ N ∈ L, f N = g N) → sumN f L = sumN g L
  | [], _ => rfl
  | a :: L, h => by rw [sumN_cons, sumN_cons, h a (by simp), sumN_congr (fun N hN => h N (by simp [hN]))]
section
variable {kd : Nat → Bool} {ch : Nat → List Nat} {st : Nat → Nat}
theorem fr_len {id : Nat} {r : List Nat} (hw : Wf kd ch st id) (h256 : st id < 256) (h : Fr kd ch id r) : r.length = pc8 (st id) := by
  obtain ⟨a1, a2⟩ := Fr_set id hw r h
  unfold pc8
  refine list_len_eq a1 (List.Pairwise.filter _ List.nodup_range) (fun x => ?_)
  rw [a2, List.mem_filter, List.mem_range]
  exact ⟨fun h => ⟨bit_lt8 h256 h, h⟩, fun h => h.2⟩
theorem seq_len : ∀ {L : List Nat} {r : List Nat}, (∀ c ∈ L, Wf kd ch st c ∧ st c < 256) → SeqR (Fr kd ch) L r → r.length = pcs st L
  | [], r, _, h => by have h : r = [] := h; rw [h]; rfl
  | c :: L, r, hL, h => by
    obtain ⟨a, b, rfl, h1, h2⟩ := h
    rw [List.length_append, fr_len (hL c (by simp)).1 (hL c (by simp)).2 h1, seq_len (fun e he => hL e (by simp [he])) h2]
    rfl
def ahX (st : Nat → Nat) (x : Nat) : List Nat → Nat
  | [] => 0
  | c :: C => if (st c).testBit x = true then 0 else pc8 (st c) + ahX st x C
def bhX (st : Nat → Nat) (x : Nat) : List Nat → Nat
  | [] => 0
  | c :: C => if (st c).testBit x = true then pcs st C else bhX st x C
def sdV (k b : Bool) (p q : Nat) : Nat := if k = true then (if b = true then (if p < q then q else p) else (if q < p then q else p)) else (if b = true then p + q else 0)
def bsN (kd : Nat → Bool) (ch : Nat → List Nat) (st : Nat → Nat) (x : Nat) (b : Bool) (N : Nat) : Nat := sdV (kd N) b (ahX st x (ch N)) (bhX st x (ch N))
theorem ahX_eq {x p : Nat} {B : List Nat} (hp : (st p).testBit x = true) : ∀ {A : List Nat}, (∀ c ∈ A, ¬ (st c).testBit x = true) → ahX st x (A ++ p :: B) = pcs st A ∧ bhX st x (A ++ p :: B) = pcs st B
  | [], _ => by
    constructor
    · show (if (st p).testBit x = true then 0 else _) = _
      rw [if_pos hp]; rfl
    · show (if (st p).testBit x = true then _ else _) = _
      rw [if_pos hp]
  | c :: A, h => by
    obtain ⟨h1, h2⟩ := ahX_eq (B := B) hp (fun e he => h e (List.mem_cons_of_mem c he))
    have hc := h c (by simp)
    constructor
    · show (if (st c).testBit x = true then 0 else pc8 (st c) + ahX st x (A ++ p :: B)) = _
      rw [if_neg hc, h1]; rfl
    · show (if (st c).testBit x = true then pcs st (A ++ p :: B) else bhX st x (A ++ p :: B)) = _
      rw [if_neg hc, h2]
def fS (kd : Nat → Bool) (ch : Nat → List Nat) (st : Nat → Nat) (x : Nat) (b : Bool) (N : Nat) : Nat := if (st N).testBit x = true then bsN kd ch st x b N else 0
def SdR (kd : Nat → Bool) (ch : Nat → List Nat) (id x : Nat) (b : Bool) (V : Nat) : Prop := (∃ u v, Fr kd ch id (u ++ x :: v) ∧ v.length = V) ∧ ∀ u v, Fr kd ch id (u ++ x :: v) → (b = false → V ≤ v.length) ∧ (b = true → v.length ≤ V)
theorem sub_256 {X Y : Nat} (h : subM X Y) (hY : Y < 256) : X < 256 := Nat.lt_of_le_of_lt (Nat.le_of_testBit h) hY
/- what a node's parts say -/
theorem node_parts {d id x : Nat} (h8 : ¬ id < 8) (hw : WfD kd ch st (d + 1) id) (h256 : st id < 256) (hx : (st id).testBit x = true) : ∃ A p B, ch id = A ++ p :: B ∧ (st p).testBit x = true ∧ (∀ c ∈ A, ¬ (st c).testBit x = true) ∧ (∀ c ∈ B, ¬ (st c).testBit x = true) ∧ (∀ c ∈ ch id, WfD kd ch st d c ∧ Wf kd ch st c ∧ st c < 256) ∧ (ch id).Nodup := by
  have hW : Wf kd ch st id := ⟨_, hw⟩
  have hN := (Wf_node (by omega)).mp hW
  have hw2 := hw
  unfold WfD at hw2
  rw [if_neg h8] at hw2
  have hb := hx
  rw [hN.2.2.1, orL_bit] at hb
  obtain ⟨p, hp, hpx⟩ := hb
  obtain ⟨A, B, e⟩ := List.append_of_mem hp
  have hall : ∀ c ∈ ch id, WfD kd ch st d c ∧ Wf kd ch st c ∧ st c < 256 := fun c hc => ⟨hw2.2.2.2.2 c hc, hN.2.2.2.2 c hc, sub_256 (fun i hi => by rw [hN.2.2.1, orL_bit]; exact ⟨c, hc, hi⟩) h256⟩
  have hnd : (ch id).Nodup := Dj_nodup hN.2.2.2.1 (fun c hc => Wf_ne0 c (hN.2.2.2.2 c hc))
  have hno : ∀ c ∈ ch id, c ≠ p → ¬ (st c).testBit x = true := fun c hc hne hcx => by
    have h0 := Dj_ne (by omega) hW hp hc hne
    have : (st c &&& st p).testBit x = true := by rw [Nat.testBit_and, hcx, hpx]; rfl
    rw [h0, Nat.zero_testBit] at this
    cases this
  have hn2 := hnd
  rw [e, List.nodup_append] at hn2
  refine ⟨A, p, B, e, hpx, fun c hc => hno c (by rw [e]; simp [hc]) (fun z => ?_), fun c hc => hno c (by rw [e]; simp [hc]) (fun z => ?_), hall, hnd⟩
  · exact hn2.2.2 c hc p (by simp) z
  · exact (List.nodup_cons.mp hn2.2.1).1 (by rw [← z]; exact hc)
/- where a part stands in a row -/
theorem row_part {id p : Nat} {L r : List Nat} (hL : SeqR (Fr kd ch) L r) {A B : List Nat} (e : L = A ++ p :: B) : ∃ ra rp rb, r = ra ++ (rp ++ rb) ∧ SeqR (Fr kd ch) A ra ∧ Fr kd ch p rp ∧ SeqR (Fr kd ch) B rb := by
  rw [e, SeqR_app] at hL
  obtain ⟨ra, rest, rfl, h1, rp, rb, rfl, h2, h3⟩ := hL
  exact ⟨ra, rp, rb, rfl, h1, h2, h3⟩
theorem sum_part {f : Nat → Nat} {d id p : Nat} {A B : List Nat} (h8 : ¬ id < 8) (e : ch id = A ++ p :: B) (hA : ∀ c ∈ A, ∀ N ∈ ndD ch d c, f N = 0) (hB : ∀ c ∈ B, ∀ N ∈ ndD ch d c, f N = 0) : sumN f (ndD ch (d + 1) id) = f id + sumN f (ndD ch d p) := by
  rw [ndD_node h8, sumN_cons, e, List.flatMap_append, List.flatMap_cons, sumN_app, sumN_app]
  rw [sumN_zero (L := A.flatMap (ndD ch d)) (fun N hN => by
    obtain ⟨c, hc, h⟩ := List.mem_flatMap.mp hN
    exact hA c hc N h), sumN_zero (L := B.flatMap (ndD ch d)) (fun N hN => by
    obtain ⟨c, hc, h⟩ := List.mem_flatMap.mp hN
    exact hB c hc N h)]
  omega
theorem side_ok {x : Nat} {b : Bool} : ∀ (d id : Nat), WfD kd ch st d id → st id < 256 → (st id).testBit x = true → SdR kd ch id x b (sumN (fS kd ch st x b) (ndD ch d id))
  | 0, _, h, _, _ => h.elim
  | d + 1, id, hw, h256, hx => by
    by_cases h8 : id < 8
    · have h1 : st id = 2 ^ id := by
        have := hw
        unfold WfD at this
        rw [if_pos h8] at this; exact this
      have e : x = id := by
        rw [h1, Nat.testBit_two_pow] at hx
        exact (of_decide_eq_true hx).symm
      subst e
      have e0 : ndD ch (d + 1) x = [] := by unfold ndD; rw [if_pos h8]
      rw [e0]
      refine ⟨⟨[], [], (Fr_leaf h8).mpr rfl, rfl⟩, fun u v h => ?_⟩
      have h := (Fr_leaf h8).mp h
      have hl : (u ++ x :: v).length = 1 := by rw [h]; rfl
      rw [List.length_append, List.length_cons] at hl
      have : v.length = 0 := by omega
      rw [this]
      exact ⟨fun _ => Nat.le_refl _, fun _ => Nat.le_refl _⟩
    · obtain ⟨A, p, B, e, hp, hA, hB, hall, hnd⟩ := node_parts h8 hw h256 hx
      have hpm : p ∈ ch id := by rw [e]; simp
      obtain ⟨p1, p2, p3⟩ := hall p hpm
      have ih := side_ok (x := x) (b := b) d p p1 p3 hp
      have z : ∀ c ∈ ch id, ¬ (st c).testBit x = true → ∀ N ∈ ndD ch d c, fS kd ch st x b N = 0 := fun c hc hcx N hN => by
        unfold fS
        exact if_neg (fun q => hcx ((nd_sub d c (hall c hc).1 N hN).1 x q))
      rw [sum_part h8 e (fun c hc => z c (by rw [e]; simp [hc]) (hA c hc)) (fun c hc => z c (by rw [e]; simp [hc]) (hB c hc))]
      generalize sumN (fS kd ch st x b) (ndD ch d p) = V at ih
      have ef : fS kd ch st x b id = sdV (kd id) b (pcs st A) (pcs st B) := by
        unfold fS bsN
        rw [if_pos hx, e, (ahX_eq hp hA).1, (ahX_eq hp hA).2]
      rw [ef]
      obtain ⟨⟨u0, v0, i1, i2⟩, i3⟩ := ih
      have hWid : Wf kd ch st id := ⟨_, hw⟩
      have ex : ∀ A' B', OrdR (kd id) (ch id) (A' ++ p :: B') → ∃ u v, Fr kd ch id (u ++ x :: v) ∧ v.length = V + pcs st B' := fun A' B' hO => by
        have hm : ∀ c, c ∈ A' ++ p :: B' → c ∈ ch id := fun c hc => (OrdR_mem hO).mp hc
        obtain ⟨ra, hra⟩ := Seq_ex (P := Fr kd ch) A' (fun c hc => Fr_ex c (hall c (hm c (by simp [hc]))).2.1)
        obtain ⟨rb, hrb⟩ := Seq_ex (P := Fr kd ch) B' (fun c hc => Fr_ex c (hall c (hm c (by simp [hc]))).2.1)
        refine ⟨ra ++ u0, v0 ++ rb, (Fr_node (by omega)).mpr ⟨_, hO, ?_⟩, ?_⟩
        · rw [SeqR_app]
          exact ⟨ra, (u0 ++ x :: v0) ++ rb, by simp, hra, u0 ++ x :: v0, rb, rfl, i1, hrb⟩
        · rw [List.length_append, i2, seq_len (fun c hc => (hall c (hm c (by simp [hc]))).2) hrb]
      have bd : ∀ u v, Fr kd ch id (u ++ x :: v) → ∃ A' B', OrdR (kd id) (ch id) (A' ++ p :: B') ∧ (b = false → V + pcs st B' ≤ v.length) ∧ (b = true → v.length ≤ V + pcs st B') := fun u v h => by
        have hND := (Fr_set id hWid _ h).1
        obtain ⟨L, hO, hS⟩ := (Fr_node (by omega)).mp h
        have hm : ∀ c, c ∈ L → c ∈ ch id := fun c hc => (OrdR_mem hO).mp hc
        obtain ⟨A', B', eL⟩ := List.append_of_mem ((OrdR_mem hO).mpr hpm)
        obtain ⟨ra, rp, rb, er, q1, q2, q3⟩ := row_part (id := id) hS eL
        have hxp : x ∈ rp := ((Fr_set p p2 _ q2).2 x).mpr hp
        obtain ⟨u', v', ep⟩ := List.append_of_mem hxp
        rw [ep] at q2
        have e2 : u ++ x :: v = (ra ++ u') ++ x :: (v' ++ rb) := by rw [er, ep]; simp
        obtain ⟨-, ev⟩ := sp_uq hND e2
        have hl : v.length = v'.length + pcs st B' := by
          rw [ev, List.length_append, seq_len (fun c hc => (hall c (hm c (by rw [eL]; simp [hc]))).2) q3]
        refine ⟨A', B', by rw [← eL]; exact hO, fun hb => ?_, fun hb => ?_⟩
        · have := (i3 _ _ q2).1 hb; omega
        · have := (i3 _ _ q2).2 hb; omega
      cases hk : kd id
      · rw [hk] at ex bd
        have per : ∀ A' B', OrdR false (ch id) (A' ++ p :: B') ↔ (A' ++ p :: B').Perm (A ++ p :: B) := fun A' B' => by
          unfold OrdR; rw [if_neg (by decide), e]
        have pl : ∀ A' B' : List Nat, (A' ++ p :: B').Perm (A ++ p :: B) → pcs st B' ≤ pcs st A + pcs st B := fun A' B' h => by
          have := pcs_perm (st := st) h
          rw [pcs_app, pcs_app] at this
          have e1 : ∀ X : List Nat, pcs st (p :: X) = pc8 (st p) + pcs st X := fun X => rfl
          rw [e1, e1] at this
          omega
        cases b
        · refine ⟨?_, fun u v h => ?_⟩
          · obtain ⟨u, v, h1, h2⟩ := ex (A ++ B) [] ((per _ _).mpr (by
              rw [List.append_assoc]
              exact (List.perm_append_comm (l₁ := B) (l₂ := [p])).append_left A))
            exact ⟨u, v, h1, by rw [h2]; show V + 0 = 0 + V; omega⟩
          · obtain ⟨A', B', h1, h2, h3⟩ := bd u v h
            refine ⟨fun hb => ?_, fun hb => (by cases hb)⟩
            have := h2 rfl
            show 0 + V ≤ _; omega
        · refine ⟨?_, fun u v h => ?_⟩
          · obtain ⟨u, v, h1, h2⟩ := ex [] (A ++ B) ((per _ _).mpr (List.perm_middle.symm))
            exact ⟨u, v, h1, by rw [h2, pcs_app]; show _ = (pcs st A + pcs st B) + V; omega⟩
          · obtain ⟨A', B', h1, h2, h3⟩ := bd u v h
            refine ⟨fun hb => (by cases hb), fun hb => ?_⟩
            have := h3 rfl
            have := pl _ _ ((per _ _).mp h1)
            show _ ≤ (pcs st A + pcs st B) + V; omega
      · rw [hk] at ex bd
        have hn2 : (A ++ p :: B).Nodup := by rw [← e]; exact hnd
        have two : ∀ A' B', OrdR true (ch id) (A' ++ p :: B') → pcs st B' = pcs st B ∨ pcs st B' = pcs st A := fun A' B' h => by
          unfold OrdR at h
          rw [if_pos rfl, e] at h
          rcases h with h | h
          · left; rw [(sp_uq hn2 h.symm).2]
          · right
            have er : (A ++ p :: B).reverse = B.reverse ++ p :: A.reverse := by simp
            rw [er] at h
            have hn3 : (B.reverse ++ p :: A.reverse).Nodup := by rw [← er, nodup_rev]; exact hn2
            rw [← (sp_uq hn3 h.symm).2]
            exact pcs_perm (List.reverse_perm A)
        have hfw : OrdR true (ch id) (A ++ p :: B) := by unfold OrdR; rw [if_pos rfl, e]; exact Or.inl rfl
        have hbw : OrdR true (ch id) (B.reverse ++ p :: A.reverse) := by unfold OrdR; rw [if_pos rfl, e]; exact Or.inr (by simp)
        have eA : pcs st A.reverse = pcs st A := pcs_perm (List.reverse_perm A)
        obtain ⟨u1, v1, f1, f2⟩ := ex A B hfw
        obtain ⟨u2, v2, g1, g2⟩ := ex B.reverse A.reverse hbw
        rw [eA] at g2
        unfold sdV
        rw [if_pos rfl]
        cases b
        · rw [if_neg (by decide)]
          by_cases q : pcs st B < pcs st A
          · rw [if_pos q]
            refine ⟨⟨u1, v1, f1, by omega⟩, fun u v h => ?_⟩
            obtain ⟨A', B', h1, h2, h3⟩ := bd u v h
            refine ⟨fun hb => ?_, fun hb => (by cases hb)⟩
            have := h2 rfl
            rcases two _ _ h1 with w | w <;> omega
          · rw [if_neg q]
            refine ⟨⟨u2, v2, g1, by omega⟩, fun u v h => ?_⟩
            obtain ⟨A', B', h1, h2, h3⟩ := bd u v h
            refine ⟨fun hb => ?_, fun hb => (by cases hb)⟩
            have := h2 rfl
            rcases two _ _ h1 with w | w <;> omega
        · rw [if_pos rfl]
          by_cases q : pcs st A < pcs st B
          · rw [if_pos q]
            refine ⟨⟨u1, v1, f1, by omega⟩, fun u v h => ?_⟩
            obtain ⟨A', B', h1, h2, h3⟩ := bd u v h
            refine ⟨fun hb => (by cases hb), fun hb => ?_⟩
            have := h3 rfl
            rcases two _ _ h1 with w | w <;> omega
          · rw [if_neg q]
            refine ⟨⟨u2, v2, g1, by omega⟩, fun u v h => ?_⟩
            obtain ⟨A', B', h1, h2, h3⟩ := bd u v h
            refine ⟨fun hb => (by cases hb), fun hb => ?_⟩
            have := h3 rfl
            rcases two _ _ h1 with w | w <;> omega
end

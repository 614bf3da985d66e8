def enD (kd : Nat → Bool) (ch : Nat → List Nat) : Nat → Nat → List (List Nat)
  | 0, _ => []
  | d + 1, id => if id < 8 then [[id]] else (ords (kd id) (ch id)).flatMap (fun L => seqE (enD kd ch d) L)
theorem enD_mem {kd : Nat → Bool} {ch : Nat → List Nat} : ∀ (d id : Nat) (r : List Nat), r ∈ enD kd ch d id ↔ FrD kd ch d id r := by
  intro d
  induction d with
  | zero => intro id r; simp [enD, FrD]
  | succ d ih =>
    intro id r
    unfold enD FrD
    by_cases h : id < 8
    · rw [if_pos h, if_pos h]; simp
    · rw [if_neg h, if_neg h]
      simp only [List.mem_flatMap, ords_mem, seqE_mem]
      constructor
      · rintro ⟨L, h1, h2⟩
        exact ⟨L, h1, SeqR_mono (fun c _ r hr => (ih c r).mp hr) h2⟩
      · rintro ⟨L, h1, h2⟩
        exact ⟨L, h1, SeqR_mono (fun c _ r hr => (ih c r).mpr hr) h2⟩
theorem Fr_D {kd : Nat → Bool} {ch : Nat → List Nat} {st : Nat → Nat} : ∀ (d id : Nat), WfD kd ch st d id → ∀ r, Fr kd ch id r → FrD kd ch d id r := by
  intro d
  induction d with
  | zero => intro id h; exact absurd h (by simp [WfD])
  | succ d ih =>
    intro id hw r hr
    unfold FrD
    by_cases h : id < 8
    · rw [if_pos h]; exact (Fr_leaf h).mp hr
    · rw [if_neg h]
      unfold WfD at hw
      rw [if_neg h] at hw
      obtain ⟨L, h1, h2⟩ := (Fr_node (by omega)).mp hr
      exact ⟨L, h1, SeqR_mono (fun c hc r hr => ih c (hw.2.2.2.2 c ((OrdR_mem h1).mp hc)) r hr) h2⟩
theorem seqE_nodup {st : Nat → Nat} {E : Nat → List (List Nat)} : ∀ {L : List Nat}, Dj st L → (∀ c ∈ L, (E c).Nodup ∧ ∀ r ∈ E c, r.Nodup ∧ ∀ x, x ∈ r ↔ (st c).testBit x = true) → (seqE E L).Nodup := by
  intro L
  induction L with
  | nil => intro _ _; simp [seqE]
  | cons c L ih =>
    intro hd hE
    obtain ⟨hd1, hd2⟩ := List.pairwise_cons.mp hd
    obtain ⟨c1, c2⟩ := hE c (by simp)
    unfold seqE
    apply nodup_flatMap
    · intro a _
      exact nodup_map_inj _ _ (fun x y e => by simpa using e) (ih hd2 (fun k hk => hE k (by simp [hk])))
    · exact c1
    · intro a ha b hb hne x hx hx2
      obtain ⟨p, hp, rfl⟩ := List.mem_map.mp hx
      obtain ⟨q, hq, e⟩ := List.mem_map.mp hx2
      have hnd : (a ++ p).Nodup := (Seq_set (P := fun c r => r ∈ E c) (L := c :: L) hd (fun k hk r hr => (hE k hk).2 r hr) ⟨a, p, rfl, ha, seqE_mem.mp hp⟩).1
      have := app_inj_set e.symm (fun x => by rw [(c2 a ha).2, (c2 b hb).2]) hnd
      exact hne this.1
theorem Dj_nodup {st : Nat → Nat} {L : List Nat} (hd : Dj st L) (h0 : ∀ c ∈ L, st c ≠ 0) : L.Nodup := by
  unfold Dj at hd
  unfold List.Nodup
  refine List.Pairwise.imp_of_mem ?_ hd
  intro a b ha hb hab e
  subst e
  rw [Nat.and_self] at hab
  exact h0 a ha hab
theorem Dj_uniq {st : Nat → Nat} {L : List Nat} (hd : Dj st L) {c d : Nat} (hc : c ∈ L) (hdd : d ∈ L) (h : st c &&& st d ≠ 0) : c = d := by
  by_cases e : c = d
  · exact e
  · exfalso
    unfold Dj at hd
    induction L with
    | nil => simp at hc
    | cons a L ih =>
      obtain ⟨h1, h2⟩ := List.pairwise_cons.mp hd
      rcases List.mem_cons.mp hc with e1 | hc2
      · rcases List.mem_cons.mp hdd with e2 | hd2
        · exact e (e1.trans e2.symm)
        · rw [e1] at h; exact h (h1 d hd2)
      · rcases List.mem_cons.mp hdd with e2 | hd2
        · rw [Nat.and_comm, e2] at h; exact h (h1 c hc2)
        · exact ih h2 hc2 hd2
theorem enD_nodup {kd : Nat → Bool} {ch : Nat → List Nat} {st : Nat → Nat} : ∀ (d id : Nat), WfD kd ch st d id → (enD kd ch d id).Nodup := by
  intro d
  induction d with
  | zero => intro id h; exact absurd h (by simp [WfD])
  | succ d ih =>
    intro id hwd
    unfold enD
    by_cases h : id < 8
    · rw [if_pos h]; simp
    · rw [if_neg h]
      have hw := (Wf_node (by omega : 8 ≤ id)).mp ⟨_, hwd⟩
      obtain ⟨w1, -, -, w4, w5⟩ := hw
      have hch : ∀ c ∈ ch id, WfD kd ch st d c := by
        unfold WfD at hwd; rw [if_neg h] at hwd; exact hwd.2.2.2.2
      have hrow : ∀ c ∈ ch id, ∀ r ∈ enD kd ch d c, r.Nodup ∧ ∀ x, x ∈ r ↔ (st c).testBit x = true := fun c hc r hr => Fr_set c (w5 c hc) r ⟨d, (enD_mem d c r).mp hr⟩
      have hnd : (ch id).Nodup := Dj_nodup w4 (fun c hc => Wf_ne0 c (w5 c hc))
      apply nodup_flatMap
      · intro L hL
        have hp := OrdR_perm (ords_mem.mp hL)
        exact seqE_nodup (Dj_perm hp w4) (fun c hc => ⟨ih c (hch c (hp.mem_iff.mp hc)), hrow c (hp.mem_iff.mp hc)⟩)
      · exact ords_nodup hnd w1
      · intro L hL M hM hne r hr hr2
        have hp := OrdR_perm (ords_mem.mp hL)
        have hq := OrdR_perm (ords_mem.mp hM)
        have hin : ∀ c, c ∈ L ∨ c ∈ M → c ∈ ch id := fun c hc => hc.elim (fun h => hp.mem_iff.mp h) (fun h => hq.mem_iff.mp h)
        exact hne (Seq_uniq (P := fun c r => r ∈ enD kd ch d c) (Dj_perm hp w4) (Dj_perm hq w4) (fun c hc => ⟨Wf_ne0 c (w5 c (hin c hc)), hrow c (hin c hc)⟩) (fun c e hc he hce => Dj_uniq w4 (hin c hc) (hin e he) hce) (seqE_mem.mp hr) (seqE_mem.mp hr2))
def ndD (ch : Nat → List Nat) : Nat → Nat → List Nat
  | 0, _ => []
  | d + 1, id => if id < 8 then [] else id :: (ch id).flatMap (ndD ch d)
theorem prodL_flat {f : Nat → Nat} {g : Nat → List Nat} : ∀ {L : List Nat}, prodL f (L.flatMap g) = prodL (fun c => prodL f (g c)) L := by
  intro L
  induction L with
  | nil => rfl
  | cons c L ih => rw [List.flatMap_cons, prodL_app, ih]; rfl
theorem prodL_congr {f g : Nat → Nat} : ∀ {L : List Nat}, (∀ c ∈ L, f c = g c) → prodL f L = prodL g L := by
  intro L
  induction L with
  | nil => intro _; rfl
  | cons c L ih => intro h; simp only [prodL]; rw [h c (by simp), ih (fun d hd => h d (by simp [hd]))]
theorem enD_len {kd : Nat → Bool} {ch : Nat → List Nat} {st : Nat → Nat} : ∀ (d id : Nat), WfD kd ch st d id → (enD kd ch d id).length = prodL (fun i => wys (kd i) (ch i).length) (ndD ch d id) := by
  intro d
  induction d with
  | zero => intro id h; exact absurd h (by simp [WfD])
  | succ d ih =>
    intro id hwd
    unfold enD ndD
    by_cases h : id < 8
    · rw [if_pos h, if_pos h]; rfl
    · rw [if_neg h, if_neg h]
      have hch : ∀ c ∈ ch id, WfD kd ch st d c := by
        unfold WfD at hwd; rw [if_neg h] at hwd; exact hwd.2.2.2.2
      rw [List.length_flatMap, sum_const _ _ (prodL (fun c => (enD kd ch d c).length) (ch id)) (fun L hL => by
        rw [seqE_len]; exact prodL_perm (OrdR_perm (ords_mem.mp hL))), ords_len]
      simp only [prodL]
      rw [prodL_flat]
      congr 1
      exact prodL_congr (fun c hc => ih c (hch c hc))
/-- a tree whose rows are just those of n things and some groups has as many as the model counts -/
theorem tree_count {kd : Nat → Bool} {ch : Nat → List Nat} {st : Nat → Nat} {d root n : Nat} {G : Nat → Nat} {bs more : Nat} (hn : n ≤ 8) (hw : WfD kd ch st d root) (h : ∀ r, Fr kd ch root r ↔ RG n G bs more r) : prodL (fun i => wys (kd i) (ch i).length) (ndD ch d root) = cnt n G bs more := by
  rw [← enD_len d root hw]
  exact cnt_len hn _ (enD_nodup d root hw) (fun r => by
    rw [enD_mem, ← h]
    exact ⟨fun hr => ⟨d, hr⟩, fun hr => Fr_D d root hw r hr⟩)

theorem PR.congr {P Q Q2 : Nat → List Nat → Prop} {s u u2 : Nat → Nat} : ∀ {A B : List Nat}, PR P Q s u A B → (∀ b ∈ B, (∀ r, Q b r ↔ Q2 b r) ∧ u b = u2 b) → PR P Q2 s u2 A B
  | [], [], _, _ => trivial
  | a :: A, b :: B, h, hb => ⟨⟨fun r => (h.1.1 r).trans ((hb b (by simp)).1 r), h.1.2.trans (hb b (by simp)).2⟩, PR.congr h.2 (fun c hc => hb c (by simp [hc]))⟩
  | [], _ :: _, h, _ => h.elim
  | _ :: _, [], h, _ => h.elim
theorem CanL_congr {k : Bool} {s u : Nat → Nat} {A : List Nat} (h : ∀ c ∈ A, s c = u c) (h1 : 1 ≤ A.length) (hc : CanL k s A) : CanL k u A := CanL_map (List.map_congr_left h) h1 hc
def NA (σ : Mem) (t : Nat) (kd : Nat → Bool) (ch : Nat → List Nat) (st : Nat → Nat) (id : Nat) : Prop := (ch id).length ≤ 8 ∧ σ (t + 3) id = nI (ch id).length ∧ (∀ i, i < (ch id).length → (ch id).getD i 0 < 24 ∧ σ (t + 4) (id * 8 + i) = nI ((ch id).getD i 0)) ∧ (Us ch id → st id < 256 ∧ σ (t + 2) id = nI (st id)) ∧ (ch id ≠ [] → σ (t + 1) id = if kd id = true then 1 else 0)
def PF (t t1 m : Nat) (σ τ : Mem) : Prop := (∀ k, k ≠ t → k ≠ t + 1 → k ≠ t + 2 → k ≠ t + 3 → k ≠ t + 4 → k ≠ t1 + 4 → τ k = σ k) ∧ (∀ i, i ≠ 5 → τ t i = σ t i) ∧ (∀ i, i < 8 + m → τ (t + 1) i = σ (t + 1) i ∧ τ (t + 2) i = σ (t + 2) i ∧ τ (t + 3) i = σ (t + 3) i) ∧ ∀ q, q < (8 + m) * 8 → τ (t + 4) q = σ (t + 4) q
theorem PF.rf {t t1 m : Nat} {σ : Mem} : PF t t1 m σ σ := ⟨fun _ _ _ _ _ _ _ => rfl, fun _ _ => rfl, fun _ _ => ⟨rfl, rfl, rfl⟩, fun _ _ => rfl⟩
theorem PF.tr {t t1 m m2 : Nat} {a b c : Mem} (h1 : PF t t1 m a b) (h2 : PF t t1 m2 b c) (hm : m ≤ m2) : PF t t1 m a c :=
  ⟨fun k b0 b1 b2 b3 b4 b5 => (h2.1 k b0 b1 b2 b3 b4 b5).trans (h1.1 k b0 b1 b2 b3 b4 b5), fun i hi => (h2.2.1 i hi).trans (h1.2.1 i hi), fun i hi => ⟨((h2.2.2.1 i (by omega)).1).trans (h1.2.2.1 i hi).1, ((h2.2.2.1 i (by omega)).2.1).trans (h1.2.2.1 i hi).2.1, ((h2.2.2.1 i (by omega)).2.2).trans (h1.2.2.1 i hi).2.2⟩, fun q hq => (h2.2.2.2 q (by omega)).trans (h1.2.2.2 q hq)⟩
def Fsh (t m : Nat) (τ : Mem) : Prop := ∀ i, 8 + m ≤ i → i < 24 → τ (t + 2) i = 0 ∧ τ (t + 3) i = 0
theorem NA.keep {t m : Nat} {σ τ : Mem} {kd kd2 : Nat → Bool} {ch ch2 : Nat → List Nat} {st st2 : Nat → Nat} {id : Nat} (h : NA σ t kd ch st id) (hid : id < 8 + m) (h1 : ∀ i, i < 8 + m → τ (t + 1) i = σ (t + 1) i ∧ τ (t + 2) i = σ (t + 2) i ∧ τ (t + 3) i = σ (t + 3) i) (h2 : ∀ q, q < (8 + m) * 8 → τ (t + 4) q = σ (t + 4) q) (hs : kd2 id = kd id ∧ ch2 id = ch id ∧ st2 id = st id) : NA τ t kd2 ch2 st2 id := by
  obtain ⟨a1, a2, a3, a4, a5⟩ := h
  obtain ⟨b1, b2, b3⟩ := h1 id hid
  obtain ⟨s1, s2, s3⟩ := hs
  unfold NA
  rw [s1, s2, s3, b1, b2, b3]
  refine ⟨a1, a2, fun i hi => ?_, fun hu => a4 ?_, a5⟩
  · rw [h2 _ (by omega)]; exact a3 i hi
  · unfold Us at hu ⊢; rw [s2] at hu; exact hu
theorem isT_ne {t t1 : Nat} (h : isT t) (h1 : isT t1) (hne : t ≠ t1) (a b : Nat) (ha : a ≤ 10) (hb : b ≤ 10) : t1 + a ≠ t + b := by
  unfold isT at h h1; omega
def PlR (t t1 : Nat) (kd1 : Nat → Bool) (st1 : Nat → Nat) (d id m : Nat) (σ : Mem) (ch1 : Nat → List Nat) (kd : Nat → Bool) (ch : Nat → List Nat) (st : Nat → Nat) (res : Option (Int32 × Mem)) : Prop :=
  ∃ τ id' ch1' kd' ch' st', res = some (nI id', τ) ∧ AT τ t1 kd1 ch1' st1 ∧ (∀ i, i ∉ ndD ch1 d id → ch1' i = ch1 i) ∧ (∀ i ∈ ndD ch1 d id, OrdR (kd1 i) (ch1 i) (ch1' i) ∧ CanL (kd1 i) st1 (ch1' i)) ∧
  PF t t1 m σ τ ∧ τ t 5 = nI (m + (ndD ch1 d id).length) ∧ Fsh t (m + (ndD ch1 d id).length) τ ∧
  (∀ i, i < 8 + m → kd' i = kd i ∧ ch' i = ch i ∧ st' i = st i) ∧ (∀ i, 8 + m ≤ i → i < 8 + m + (ndD ch1 d id).length → NA τ t kd' ch' st' i ∧ CanL (kd' i) st' (ch' i)) ∧
  (id < 8 → id' = id) ∧ (8 ≤ id → id' = 8 + m) ∧ WfD kd' ch' st' d id' ∧ st' id' = st1 id ∧ (∀ r, Fr kd' ch' id' r ↔ Fr kd1 ch1 id r) ∧ ndD ch' d id' = List.range' (8 + m) (ndD ch1 d id).length
section
variable {t t1 : Nat} {kd1 : Nat → Bool} {st1 : Nat → Nat}
theorem sum_flat {f : Nat → List Nat} {A : List Nat} : (A.flatMap f).length = (A.map (fun c => (f c).length)).sum := len_flat
theorem place_leaf (ht1 : isT t1) (ht : isT t) {d fu id m : Nat} {dep : Int32} {σ : Mem} {ch1 : Nat → List Nat} {kd : Nat → Bool} {ch : Nat → List Nat} {st : Nat → Nat} (hw : WfD kd1 ch1 st1 d id) (h8 : id < 8) (hA : AT σ t1 kd1 ch1 st1) (hst : ∀ i, i < 8 → st i = 2 ^ i) (h5 : σ t 5 = nI m) (hf : Fsh t m σ) : PlR t t1 kd1 st1 d id m σ ch1 kd ch st (T_place (fu + 1) t1 (nI id) t dep σ) := by
  have hd : ∃ d', d = d' + 1 := by cases d with | zero => exact hw.elim | succ d => exact ⟨d, rfl⟩
  obtain ⟨d', rfl⟩ := hd
  have hnd : ∀ ch : Nat → List Nat, ndD ch (d' + 1) id = [] := fun ch => by unfold ndD; rw [if_pos h8]
  have hs1 : st1 id = 2 ^ id := (Wf_leaf h8).mp ⟨_, hw⟩
  refine ⟨σ, id, ch1, kd, ch, st, ?_, hA, fun _ _ => rfl, ?_, PF.rf, ?_, ?_, fun _ _ => ⟨rfl, rfl, rfl⟩, ?_, fun _ => rfl, fun h => by omega, ?_, ?_, ?_, ?_⟩
  · show T_placeB (T_place fu) t1 (nI id) t dep σ = _
    unfold T_placeB
    exact ifn (nI_ge (b := 8) h8 (by omega)) rfl
  · rw [hnd]; intro i hi; simp at hi
  · rw [hnd]; exact h5
  · rw [hnd]; exact hf
  · rw [hnd]; intro i h1 h2; simp at h2; omega
  · unfold WfD; rw [if_pos h8]; exact hst id h8
  · rw [hst id h8, hs1]
  · intro r; rw [Fr_leaf h8, Fr_leaf h8]
  · rw [hnd, hnd]; rfl
/- what holds between two parts -/
def PlI (t t1 : Nat) (kd1 : Nat → Bool) (st1 : Nat → Nat) (d id m : Nat) (σ : Mem) (ch1 : Nat → List Nat) (kd : Nat → Bool) (ch : Nat → List Nat) (st : Nat → Nat) (C : List Nat) (j : Nat) (τ : Mem) : Prop :=
  ∃ ch1' kd' ch' st' L mj, AT τ t1 kd1 ch1' st1 ∧ ch1' id = C ∧ (∀ i, i ≠ id → (∀ c ∈ C.take j, i ∉ ndD ch1 d c) → ch1' i = ch1 i) ∧ (∀ c ∈ C.take j, ∀ i ∈ ndD ch1 d c, OrdR (kd1 i) (ch1 i) (ch1' i) ∧ CanL (kd1 i) st1 (ch1' i)) ∧
  PF t t1 m σ τ ∧ τ t 5 = nI mj ∧ mj = m + 1 + ((C.take j).flatMap (ndD ch1 d)).length ∧ Fsh t mj τ ∧
  τ (t + 1) (8 + m) = (if kd1 id = true then 1 else 0) ∧ τ (t + 2) (8 + m) = nI (orL st1 (C.take j)) ∧ τ (t + 3) (8 + m) = nI j ∧ L.length = j ∧ (∀ i, i < j → L.getD i 0 < 24 ∧ τ (t + 4) ((8 + m) * 8 + i) = nI (L.getD i 0)) ∧
  (∀ i, i < 8 + m → kd' i = kd i ∧ ch' i = ch i ∧ st' i = st i) ∧ (∀ i, 8 + m < i → i < 8 + mj → NA τ t kd' ch' st' i ∧ CanL (kd' i) st' (ch' i)) ∧
  PR (Fr kd1 ch1) (Fr kd' ch') st1 st' (C.take j) L ∧ (∀ e ∈ L, WfD kd' ch' st' d e ∧ e ≠ 8 + m ∧ ∀ i ∈ ndD ch' d e, 8 + m < i ∧ i < 8 + mj) ∧ L.flatMap (ndD ch' d) = List.range' (8 + m + 1) (mj - (m + 1))
theorem place_step (ht1 : isT t1) (ht : isT t) (hne : t ≠ t1) {d fu id m dep : Nat} {σ : Mem} {ch1 : Nat → List Nat} {kd : Nat → Bool} {ch : Nat → List Nat} {st : Nat → Nat} {C : List Nat} (hw : WfD kd1 ch1 st1 (d + 1) id) (h8 : 8 ≤ id) (hid : id < 24) (hC : C.Perm (ch1 id)) (hC24 : ∀ c ∈ C, c < 24 ∧ st1 c < 256) (hlv : ∀ i, i < 8 → st i = 2 ^ i) (hlvσ : ∀ i, i < 8 → σ (t + 2) i = nI (2 ^ i)) (hcnt : m + 1 + (C.flatMap (ndD ch1 d)).length ≤ 7) (hdep : dep + pc8 (st1 id) ≤ 8) (hcl : C.length ≤ 8)
    (IH : ∀ (c m : Nat) (σ : Mem) (ch1 : Nat → List Nat) (kd : Nat → Bool) (ch : Nat → List Nat) (st : Nat → Nat), WfD kd1 ch1 st1 d c → c < 24 → AT σ t1 kd1 ch1 st1 → (∀ i, i < 8 → st i = 2 ^ i) → (∀ i, i < 8 → σ (t + 2) i = nI (2 ^ i)) → σ t 5 = nI m → m + (ndD ch1 d c).length ≤ 7 → dep + 1 + pc8 (st1 c) ≤ 8 → Fsh t m σ → PlR t t1 kd1 st1 d c m σ ch1 kd ch st (T_place fu t1 (nI c) t (nI (dep + 1)) σ))
    {j : Nat} (hj : j < C.length) {τ : Mem} (h : PlI t t1 kd1 st1 d id m σ ch1 kd ch st C j τ) : ∃ τ2, T_place_b1 (T_place fu) t1 (nI id) t (nI dep) (nI (8 + m)) (nI j) τ = some (.inl (nI (j + 1), τ2)) ∧ PlI t t1 kd1 st1 d id m σ ch1 kd ch st C (j + 1) τ2 := by
  obtain ⟨ch1', kd', ch', st', L, mj, a1, a2, a3, a4, a5, a6, a7, a8, a9, a10, a11, a12, a13, a14, a15, a16, a17, a18⟩ := h
  have hwf : Wf kd1 ch1 st1 id := ⟨_, hw⟩
  have hcm := getD_mem hj
  have hcid : C.getD j 0 ∈ ch1 id := hC.mem_iff.mp hcm
  have hwc : ∀ c ∈ C, WfD kd1 ch1 st1 d c := fun c hc => by
    have := hw; unfold WfD at this; rw [if_neg (by omega)] at this; exact this.2.2.2.2 c (hC.mem_iff.mp hc)
  have hDC : Dj st1 C := Dj_perm hC ((Wf_node h8).mp hwf).2.2.2.1
  have edrop : C = C.take j ++ C.getD j 0 :: C.drop (j + 1) := by
    conv => lhs; rw [← List.take_append_drop j C]
    rw [List.drop_eq_getElem_cons hj, List.getD_eq_getElem?_getD, List.getElem?_eq_getElem hj]; rfl
  have hdis : ∀ e ∈ C.take j, st1 e &&& st1 (C.getD j 0) = 0 := fun e he => by
    have := hDC
    unfold Dj at this
    rw [edrop, List.pairwise_append] at this
    exact this.2.2 e he _ (by simp)
  -- the part's own tree is as it was
  have hsame : ∀ i ∈ ndD ch1 d (C.getD j 0), ch1' i = ch1 i := fun i hi => by
    refine a3 i (fun e => ?_) (fun e he hq => ?_)
    · subst e; exact nd_notin hw h8 hcid hi
    · exact nd_disj (hwc e (List.mem_of_mem_take he)) (hwc _ hcm) (hdis e he) hq hi
  have hndc := nd_same d (C.getD j 0) hsame
  have hwc' : WfD kd1 ch1' st1 d (C.getD j 0) := WfD_same d _ (hwc _ hcm) (fun i hi => ⟨rfl, hsame i hi, rfl⟩) (fun _ _ => rfl)
  have hfrc : ∀ r, Fr kd1 ch1' (C.getD j 0) r ↔ Fr kd1 ch1 (C.getD j 0) r := Fr_same d _ (hwc _ hcm) (fun i hi => ⟨rfl, hsame i hi⟩)
  have hpc : pc8 (st1 (C.getD j 0)) + 1 ≤ pc8 (st1 id) := by
    have g := (Wf_node h8).mp hwf
    have h1 : pc8 (st1 id) = pcs st1 C := by rw [g.2.2.1, orL_perm (fun c => hC.mem_iff.symm), pcs_or hDC]
    have h2 := pcs_mem hcm (fun e he => ⟨(hC24 e he).2, Wf_ne0 e ⟨_, hwc e he⟩⟩)
    have h3 := hC.length_eq
    have := g.1
    omega
  have hflat : (C.take (j + 1)).flatMap (ndD ch1 d) = (C.take j).flatMap (ndD ch1 d) ++ ndD ch1 d (C.getD j 0) := by
    rw [take_succ' hj, List.flatMap_append]; simp
  have hle : ((C.take (j + 1)).flatMap (ndD ch1 d)).length ≤ (C.flatMap (ndD ch1 d)).length := by
    conv => rhs; rw [← List.take_append_drop (j + 1) C, List.flatMap_append, List.length_append]
    omega
  rw [hflat, List.length_append] at hle
  have hst8 : ∀ i, i < 8 → st' i = 2 ^ i := fun i hi => by rw [(a14 i (by omega)).2.2]; exact hlv i hi
  have hστ : ∀ i, i < 8 → τ (t + 2) i = nI (2 ^ i) := fun i hi => by rw [(a5.2.2.1 i (by omega)).2.1]; exact hlvσ i hi
  have ih := IH (C.getD j 0) mj τ ch1' kd' ch' st' hwc' (hC24 _ hcm).1 a1 hst8 hστ a6 (by rw [hndc]; omega) (by omega) a8
  obtain ⟨υ, c', ch2', kd2, ch2, st2, b1, b2, b3, b4, b5, b6, b7, b8, b9, b10, b11, b12, b13, b14, b15⟩ := ih
  rw [hndc] at b3 b4 b6 b7 b9 b15
  have hmm : m + 1 ≤ mj := by omega
  have hc24 : c' < 24 ∧ c' ≠ 8 + m ∧ (8 ≤ C.getD j 0 → (ndD ch1 d (C.getD j 0)).length ≥ 1) := by
    refine ⟨?_, ?_, fun q => ?_⟩
    · by_cases q : C.getD j 0 < 8
      · rw [b10 q]; omega
      · rw [b11 (by omega)]; omega
    · by_cases q : C.getD j 0 < 8
      · rw [b10 q]; omega
      · rw [b11 (by omega)]; omega
    · exact List.length_pos_of_mem (nd_self (hwc _ hcm) q)
  -- its set, read back
  have hsc' : υ (t + 2) c' = nI (st2 c') := by
    by_cases q : C.getD j 0 < 8
    · rw [b10 q, (b5.2.2.1 _ (by omega)).2.1, hστ _ q, (b8 _ (by omega)).2.2, hst8 _ q]
    · have e := b11 (by omega)
      have hna := (b9 c' (by omega) (by rw [e]; have := hc24.2.2 (by omega); omega)).1
      have hus : Us ch2 c' := by
        rw [e]; right
        have := b12; rw [e] at this
        have := ((Wf_node (by omega)).mp ⟨_, this⟩).1
        intro q2; rw [q2] at this; simp at this
      exact (hna.2.2.2.1 hus).2
  have here2 : υ (t + 2) (8 + m) = nI (orL st1 (C.take j)) := by rw [(b5.2.2.1 _ (by omega)).2.1]; exact a10
  have here3 : υ (t + 3) (8 + m) = nI j := by rw [(b5.2.2.1 _ (by omega)).2.2]; exact a11
  have radd := T_add_raw (σ := υ) (t := t) (a := 8 + m) (c := c') ht (by omega) hc24.1 (by omega) here3 here2 hsc'
  have hor : orL st1 (C.take j) ||| st2 c' = orL st1 (C.take (j + 1)) := by rw [b13, take_succ' hj, orL_snoc]
  rw [hor] at radd
  -- the memory after the add
  let w := addM υ t (8 + m) j c' (orL st1 (C.take (j + 1)))
  have w2 : w (t + 2) = upd (υ (t + 2)) (8 + m) (nI (orL st1 (C.take (j + 1)))) := addM_2
  have w3 : w (t + 3) = upd (υ (t + 3)) (8 + m) (nI (j + 1)) := addM_3
  have w4 : w (t + 4) = upd (υ (t + 4)) ((8 + m) * 8 + j) (nI c') := addM_4
  have wn : ∀ k, k ≠ t + 2 → k ≠ t + 3 → k ≠ t + 4 → w k = υ k := fun k q1 q2 q3 => addM_ne q1 q2 q3
  have x1 : ∀ a, a ≤ 10 → ∀ b, b ≤ 10 → t1 + a ≠ t + b := fun a ha b hb => isT_ne ht ht1 hne a b ha hb
  have hj8 : j < 8 := by omega
  have wNA : ∀ i, 8 + m < i → NA υ t kd2 ch2 st2 i → NA w t kd2 ch2 st2 i := fun i hi hna => by
    obtain ⟨z1, z2, z3, z4, z5⟩ := hna
    unfold NA
    rw [w2, w3, w4, wn (t + 1) (by omega) (by omega) (by omega), pk_un (by omega), pk_un (by omega)]
    refine ⟨z1, z2, fun k hk => ?_, z4, z5⟩
    rw [pk_un (by omega)]; exact z3 k hk
  have keepL : ∀ e ∈ L, WfD kd2 ch2 st2 d e ∧ (∀ r, Fr kd' ch' e r ↔ Fr kd2 ch2 e r) ∧ st' e = st2 e ∧ ndD ch2 d e = ndD ch' d e := fun e he => by
    obtain ⟨y1, y2, y3⟩ := a17 e he
    have hs : ∀ i ∈ ndD ch' d e, kd2 i = kd' i ∧ ch2 i = ch' i ∧ st2 i = st' i := fun i hi => b8 i (y3 i hi).2
    refine ⟨WfD_same d e y1 hs (fun i hi => (b8 i (by omega)).2.2), fun r => ((Fr_same d e y1 (fun i hi => ⟨(hs i hi).1, (hs i hi).2.1⟩)) r).symm, ?_, nd_same d e (fun i hi => (hs i hi).2.1)⟩
    by_cases q : e < 8
    · exact ((b8 e (by omega)).2.2).symm
    · exact ((hs e (nd_self y1 (by omega))).2.2).symm
  have kids : ∀ i, 8 + m < i → i < 8 + mj → 1 ≤ (ch' i).length ∧ ∀ c ∈ ch' i, c < 8 + mj := fun i h1 h2 => by
    have hm : i ∈ L.flatMap (ndD ch' d) := by rw [a18, List.mem_range'_1]; omega
    obtain ⟨e, he, hi⟩ := List.mem_flatMap.mp hm
    obtain ⟨y1, y2, y3⟩ := a17 e he
    obtain ⟨-, g2, g3⟩ := nd_sub d e y1 i hi
    refine ⟨by have := ((Wf_node g3).mp g2).1; omega, fun c hc => ?_⟩
    by_cases q : c < 8
    · omega
    · exact (y3 c (nd_child d e y1 i hi c hc (by omega))).2
  refine ⟨w, ?_, ch2', kd2, ch2, st2, L ++ [c'], mj + (ndD ch1 d (C.getD j 0)).length, ?_, ?_, ?_, ?_, ?_, ?_, ?_, ?_, ?_, ?_, ?_, ?_, ?_, ?_, ?_, ?_, ?_, ?_⟩
  · have r1 : rd τ (t1 + 3) (nI id) = some (nI C.length) := by have := a1.size ht1 hid; rwa [a2] at this
    have r2 : T_part t1 (nI id) (nI j) τ = some (nI (C.getD j 0)) := by have := a1.part (i := j) ht1 hid (by rw [a2]; exact hj); rwa [a2] at this
    unfold T_place_b1
    refine ob r1 ?_
    refine ifn (nI_ge hj (by omega)) ?_
    refine ob r2 ?_
    rw [nI_1]
    refine ob b1 ?_
    refine lti rfl ?_
    refine lti rfl ?_
    refine ob radd ?_
    exact lti (nI_1 _) rfl
  · exact b2.same (wn _ (x1 1 (by omega) 2 (by omega)) (x1 1 (by omega) 3 (by omega)) (x1 1 (by omega) 4 (by omega))) (wn _ (x1 2 (by omega) 2 (by omega)) (x1 2 (by omega) 3 (by omega)) (x1 2 (by omega) 4 (by omega))) (wn _ (x1 3 (by omega) 2 (by omega)) (x1 3 (by omega) 3 (by omega)) (x1 3 (by omega) 4 (by omega))) (wn _ (x1 4 (by omega) 2 (by omega)) (x1 4 (by omega) 3 (by omega)) (x1 4 (by omega) 4 (by omega)))
  · rw [b3 id (nd_notin hw h8 hcid), a2]
  · intro i hi hq
    rw [b3 i (hq _ (by rw [take_succ' hj]; simp))]
    exact a3 i hi (fun c hc => hq c (by rw [take_succ' hj]; simp [hc]))
  · intro c hc i hi
    rw [take_succ' hj, List.mem_append, List.mem_singleton] at hc
    rcases hc with hc | hc
    · have hni : i ∉ ndD ch1 d (C.getD j 0) := fun q => nd_disj (hwc c (List.mem_of_mem_take hc)) (hwc _ hcm) (hdis c hc) hi q
      rw [b3 i hni]; exact a4 c hc i hi
    · subst hc
      have := b4 i hi
      rw [hsame i hi] at this
      exact this
  · refine (a5.tr b5 (by omega)).tr (m2 := m) ?_ (Nat.le_refl _)
    exact ⟨fun k q0 q1 q2 q3 q4 q5 => wn k q2 q3 q4, fun i hi => by rw [wn t (by omega) (by omega) (by omega)], fun i hi => ⟨by rw [wn (t + 1) (by omega) (by omega) (by omega)], by rw [w2, pk_un (by omega)], by rw [w3, pk_un (by omega)]⟩, fun q hq => by rw [w4, pk_un (by omega)]⟩
  · rw [wn t (by omega) (by omega) (by omega)]; exact b6
  · rw [hflat, List.length_append]; omega
  · intro i h1 h2
    rw [w2, w3, pk_un (by omega), pk_un (by omega)]; exact b7 i h1 h2
  · rw [wn (t + 1) (by omega) (by omega) (by omega), (b5.2.2.1 _ (by omega)).1]; exact a9
  · rw [w2, pk_us]
  · rw [w3, pk_us]
  · simp [a12]
  · intro i hi
    by_cases q : i = j
    · have e : (L ++ [c']).getD i 0 = c' := by rw [q, ← a12]; exact getD_app_r
      rw [e, q, w4, pk_us]; exact ⟨hc24.1, rfl⟩
    · rw [getD_app_lt (by omega), w4, pk_un (by omega)]
      obtain ⟨y1, y2⟩ := a13 i (by omega)
      refine ⟨y1, ?_⟩
      rw [b5.2.2.2 _ (by omega)]; exact y2
  · intro i hi
    obtain ⟨y1, y2, y3⟩ := b8 i (by omega)
    obtain ⟨z1, z2, z3⟩ := a14 i hi
    exact ⟨y1.trans z1, y2.trans z2, y3.trans z3⟩
  · intro i h1 h2
    by_cases q : i < 8 + mj
    · obtain ⟨y1, y2⟩ := a15 i h1 q
      obtain ⟨z1, z2, z3⟩ := b8 i q
      refine ⟨wNA i h1 (y1.keep q b5.2.2.1 b5.2.2.2 ⟨z1, z2, z3⟩), ?_⟩
      rw [z1, z2]
      refine CanL_congr (fun c hc => ?_) (kids i h1 q).1 y2
      exact ((b8 c ((kids i h1 q).2 c hc)).2.2).symm
    · obtain ⟨y1, y2⟩ := b9 i (by omega) (by omega)
      exact ⟨wNA i h1 y1, y2⟩
  · rw [take_succ' hj]
    refine PR.app (a16.congr (fun e he => ⟨fun r => (keepL e he).2.1 r, (keepL e he).2.2.1⟩)) ⟨⟨fun r => ?_, b13.symm⟩, trivial⟩
    rw [b14, hfrc]
  · intro e he
    rw [List.mem_append, List.mem_singleton] at he
    rcases he with he | he
    · refine ⟨(keepL e he).1, (a17 e he).2.1, fun i hi => ?_⟩
      rw [(keepL e he).2.2.2] at hi
      have := (a17 e he).2.2 i hi
      omega
    · subst he
      refine ⟨b12, hc24.2.1, fun i hi => ?_⟩
      rw [b15, List.mem_range'_1] at hi
      omega
  · rw [List.flatMap_append]
    have e1 : L.flatMap (ndD ch2 d) = L.flatMap (ndD ch' d) := flatMap_congr' (fun e he => (keepL e he).2.2.2)
    have e2 : [c'].flatMap (ndD ch2 d) = ndD ch2 d c' := by simp
    rw [e1, e2, a18, b15]
    have e3 : 8 + mj = 8 + m + 1 + (mj - (m + 1)) := by omega
    have e4 : mj + (ndD ch1 d (C.getD j 0)).length - (m + 1) = (mj - (m + 1)) + (ndD ch1 d (C.getD j 0)).length := by omega
    rw [e3, e4, List.range'_append_1]
end

section
variable {σ : Mem} {t : Nat}
def clrF (f : Nat → Int32) : Nat → Int32 := fun i => if 8 ≤ i ∧ i < 24 then 0 else f i
def clM (σ : Mem) (t : Nat) : Mem := mput (mput (mset (mset σ (t + 3) (clrF (σ (t + 3)))) (t + 2) (clrF (σ (t + 2)))) t 4 0) t 5 0
theorem T_clear_eq (ht : isT t) : T_clear t σ = some (clM σ t) := by
  let fj : (Nat → Int32) → Nat → Nat → Int32 := fun f j i => if 8 ≤ i ∧ i < 8 + j then 0 else f i
  have key : ∃ r, lp (fun s => T_clear_b1 t s.1 s.2) fuel (8, σ) = some r ∧ r = mset (mset σ (t + 3) (clrF (σ (t + 3)))) (t + 2) (clrF (σ (t + 2))) := by
    refine lp_for 16 (fun j s => s = (nI (8 + j), mset (mset σ (t + 3) (fj (σ (t + 3)) j)) (t + 2) (fj (σ (t + 2)) j))) _ _ 0 (by omega) ?_ (by omega) ?_ ?_
    · have e : ∀ f, fj f 0 = f := fun f => by funext i; show (if _ then _ else _) = _; rw [if_neg (by omega)]
      rw [e, e, mset_self, mset_self]; rfl
    · intro j s hj hs
      subst hs
      left
      refine ⟨_, ?_, rfl⟩
      unfold T_clear_b1
      refine ifn (nI_ge (b := 24) (by omega) (by omega)) ?_
      refine ob (wrT (lnT3 ht) (by omega) (by omega)) ?_
      refine ob (wrT (lnT2 ht) (by omega) (by omega)) ?_
      refine lti (nI_1 _) ?_
      congr 3
      show mput (mput (mset (mset σ (t + 3) (fj (σ (t + 3)) j)) (t + 2) (fj (σ (t + 2)) j)) (t + 3) (8 + j) 0) (t + 2) (8 + j) 0 = _
      have e2 : ∀ f, upd (fj f j) (8 + j) 0 = fj f (j + 1) := fun f => by
        funext i
        rw [upd_at]
        show _ = (if _ then _ else _)
        by_cases q : i = 8 + j
        · rw [if_pos q, if_pos (by omega)]
        · rw [if_neg q]
          show (if _ then _ else _) = _
          by_cases q2 : 8 ≤ i ∧ i < 8 + j
          · rw [if_pos q2, if_pos (by omega)]
          · rw [if_neg q2, if_neg (by omega)]
      rw [mset_comm (by omega), mput_mset, e2, mset_comm (by omega), mput_mset, e2]
    · intro s hs
      subst hs
      refine ⟨_, ?_, rfl⟩
      unfold T_clear_b1
      exact ifp (nI_le (a := 24) (by omega) (by omega)) rfl
  obtain ⟨r, k1, k2⟩ := key
  unfold T_clear
  refine ob k1 ?_
  refine lti rfl ?_
  refine lti rfl ?_
  rw [k2]; rfl
theorem clM_2 : clM σ t (t + 2) = clrF (σ (t + 2)) := by unfold clM; rw [mput_ne _ (by omega), mput_ne _ (by omega), mset_eq]
theorem clM_3 : clM σ t (t + 3) = clrF (σ (t + 3)) := by unfold clM; rw [mput_ne _ (by omega), mput_ne _ (by omega), mset_ne (by omega), mset_eq]
theorem clM_ne {k : Nat} (h0 : k ≠ t) (h2 : k ≠ t + 2) (h3 : k ≠ t + 3) : clM σ t k = σ k := by unfold clM; rw [mput_ne _ h0, mput_ne _ h0, mset_ne h2, mset_ne h3]
theorem clM_f {i : Nat} (h4 : i ≠ 4) (h5 : i ≠ 5) : clM σ t t i = σ t i := by unfold clM; rw [mput_at, if_neg (by omega), mput_at, if_neg (by omega), mset_ne (by omega), mset_ne (by omega)]
theorem clM_4 : clM σ t t 4 = 0 := by unfold clM; rw [mput_at, if_neg (by omega), mput_at, if_pos ⟨rfl, rfl⟩]
theorem clM_5 : clM σ t t 5 = 0 := by unfold clM; rw [mput_at, if_pos ⟨rfl, rfl⟩]
theorem clM_at (h : TW σ t) {kd : Nat → Bool} : AT (clM σ t) t kd (fun _ => []) (fun i => 2 ^ i) := by
  intro id hid
  refine ⟨by simp, ?_, fun i hi => by simp at hi, fun hu => ?_, fun q => absurd rfl q⟩
  · rw [clM_3]
    unfold clrF
    by_cases q : 8 ≤ id ∧ id < 24
    · rw [if_pos q]; rfl
    · rw [if_neg q]; exact (h.1 id (by omega)).2.1
  · rcases hu with hu | hu
    · refine ⟨?_, ?_⟩
      · exact Nat.pow_lt_pow_right (by omega) hu (a := 2)
      · rw [clM_2]; unfold clrF; rw [if_neg (by omega)]; exact (h.1 id hu).1
    · exact absurd rfl hu
theorem clM_tw (h : TW σ t) : TW (clM σ t) t := by
  obtain ⟨h1, hd, h2⟩ := h
  refine ⟨fun i hi => ⟨?_, ?_, ?_⟩, hd, ?_, ?_⟩
  · rw [clM_2]; unfold clrF; rw [if_neg (by omega)]; exact (h1 i hi).1
  · rw [clM_3]; unfold clrF; rw [if_neg (by omega)]; exact (h1 i hi).2.1
  · rw [clM_ne (by omega) (by omega) (by omega)]; exact (h1 i hi).2.2
  · rw [clM_f (by omega) (by omega)]; exact h2.1
  · rw [clM_ne (by omega) (by omega) (by omega)]; exact h2.2
theorem orL_range : ∀ n, n ≤ 8 → orL (fun i => 2 ^ i) (List.range n) = fullM n := by decide +kernel
def T0 (t : Nat) (σ τ : Mem) : Prop := ∀ k, k < t ∨ t + 10 < k → τ k = σ k
theorem T0.tr {a b c : Mem} (h1 : T0 t a b) (h2 : T0 t b c) : T0 t a c := fun k hk => (h2 k hk).trans (h1 k hk)
theorem RF.t0 {τ : Mem} (h : RF t σ τ) : T0 t σ τ := fun k hk => h.1 k (by omega)
theorem range_dj {n : Nat} : Dj (fun i => 2 ^ i) (List.range n) := by
  unfold Dj
  refine List.Pairwise.imp ?_ (List.pairwise_lt_range (n := n))
  intro a b hab
  rw [and0_iff]
  intro i h1 h2
  rw [Nat.testBit_two_pow] at h1 h2
  simp at h1 h2; omega
theorem T_plant_ok (ht : isT t) (h : TW σ t) {n : Nat} (h1 : 1 ≤ n) (hn : n ≤ 8) : ∃ τ kd ch st root, T_plant t (nI n) σ = some τ ∧ TR τ t kd ch st root ∧ T0 t σ τ ∧ st root = fullM n ∧ ((n = 1 ∧ root = 0 ∧ τ t 5 = nI 0) ∨ (2 ≤ n ∧ root = 8 ∧ τ t 5 = nI 1 ∧ ch 8 = List.range n ∧ kd 8 = false)) ∧ ∀ r, Fr kd ch root r ↔ (r.Nodup ∧ ∀ x, x ∈ r ↔ x < n) := by
  obtain ⟨hd, hla⟩ := (clM_tw h).2
  have hT0 : T0 t σ (clM σ t) := fun k hk => clM_ne (by omega) (by omega) (by omega)
  by_cases c : n = 1
  · subst c
    refine ⟨clM σ t, fun _ => false, fun _ => [], fun i => 2 ^ i, 0, ?_, ⟨clM_at h, clM_4, by omega, ?_, ?_, ?_, hd, hla⟩, hT0, by decide, Or.inl ⟨rfl, rfl, clM_5⟩, ?_⟩
    · unfold T_plant
      refine ob (T_clear_eq ht) ?_
      exact ifn (by decide) rfl
    · rw [Wf_leaf (by omega)]
    · intro i hi; exact ⟨rfl, rfl, ((clM_tw h).1 i hi).2.2⟩
    · intro id _ _ hne; exact absurd rfl hne
    · intro r
      rw [Fr_leaf (by omega)]
      constructor
      · intro e; subst e
        exact ⟨by simp, fun x => by simp⟩
      · rintro ⟨a, b⟩
        have hm : 0 ∈ r := (b 0).mpr (by omega)
        rcases r with _ | ⟨x, _ | ⟨y, r⟩⟩
        · simp at hm
        · have := (b x).mp (by simp); congr 1; omega
        · have e1 := (b x).mp (by simp)
          have e2 := (b y).mp (by simp)
          rw [List.nodup_cons] at a
          exact absurd (by simp; left; omega) a.1
  · have hn2 : 2 ≤ n := by omega
    let σ11 := mput (mput (mput (clM σ t) t 4 8) t 5 1) (t + 1) 8 0
    have q1 : σ11 (t + 1) = upd (σ (t + 1)) 8 0 := by
      show mput _ _ _ _ _ = _; rw [mput_2, mput_ne _ (by omega), mput_ne _ (by omega), clM_ne (by omega) (by omega) (by omega)]
    have q2 : ∀ k, k ≠ t → k ≠ t + 1 → σ11 k = clM σ t k := fun k a b => by
      show mput _ _ _ _ _ = _; rw [mput_ne _ b, mput_ne _ a, mput_ne _ a]
    have q4 : σ11 t 4 = 8 := by
      show mput _ _ _ _ _ _ = _; rw [mput_ne _ (by omega), mput_at, if_neg (by omega), mput_at, if_pos ⟨rfl, rfl⟩]
    have q5 : ∀ i, i ≠ 4 → i ≠ 5 → σ11 t i = clM σ t t i := fun i a b => by
      show mput _ _ _ _ _ _ = _; rw [mput_ne _ (by omega), mput_at, if_neg (by omega), mput_at, if_neg (by omega)]
    have hA0 : AT σ11 t (uf (fun _ => false) 8 false) (uf (fun _ => []) 8 []) (uf (fun i => 2 ^ i) 8 (orL (fun i => 2 ^ i) [])) := by
      intro id hid
      obtain ⟨a1, a2, a3, a4, a5⟩ := clM_at h (kd := fun _ => false) id hid
      have e0 : uf (fun _ => ([] : List Nat)) 8 [] = fun _ => [] := by funext i; unfold uf; by_cases q : i = 8 <;> simp [q]
      rw [e0, q2 (t + 2) (by omega) (by omega), q2 (t + 3) (by omega) (by omega), q2 (t + 4) (by omega) (by omega)]
      refine ⟨a1, a2, a3, fun hu => ?_, fun q => absurd rfl q⟩
      rcases hu with hu | hu
      · rw [uf_n (by omega)]; exact a4 (Or.inl hu)
      · exact absurd rfl hu
    have key : ∃ r, lp (fun s => T_plant_b1 t (nI n) s.1 s.2) fuel (0, σ11) = some r ∧ (AT r t (uf (fun _ => false) 8 false) (uf (fun _ => []) 8 (List.range n)) (uf (fun i => 2 ^ i) 8 (orL (fun i => 2 ^ i) (List.range n))) ∧ F14 t σ11 r) := by
      refine lp_for n (fun j s => s.1 = nI j ∧ AT s.2 t (uf (fun _ => false) 8 false) (uf (fun _ => []) 8 (List.range j)) (uf (fun i => 2 ^ i) 8 (orL (fun i => 2 ^ i) (List.range j))) ∧ s.2 (t + 1) 8 = 0 ∧ s.2 (t + 2) 8 = nI (orL (fun i => 2 ^ i) (List.range j)) ∧ F14 t σ11 s.2) _ _ 0 (by omega) ⟨rfl, hA0, ?_, ?_, fun _ _ _ _ _ => rfl⟩ (by omega) ?_ ?_
      · show σ11 (t + 1) 8 = 0; rw [q1, pk_us]
      · show σ11 (t + 2) 8 = _; rw [q2 (t + 2) (by omega) (by omega), clM_2]; rfl
      · intro j s hj ⟨hs, hA, k1, k2, hF⟩
        obtain ⟨s1, τ⟩ := s
        simp only at hs hA k1 k2 hF
        subst hs
        left
        obtain ⟨τ2, g1, g2, g3, g4, g5, g6⟩ := hA.add2 ht (by omega) (c := j) (by omega) (by omega) (Or.inl (by omega)) (Nat.pow_lt_pow_right (by omega) (by omega) (a := 2) (n := 8)) (by simp; omega) k1 k2 (orL_lt (fun c hc => by rw [List.mem_range] at hc; exact Nat.pow_lt_pow_right (by omega) (by omega) (a := 2) (n := 8)))
        rw [← List.range_succ] at g2 g4
        refine ⟨(nI (j + 1), τ2), ?_, rfl, g2, g3, g4, hF.tr g6⟩
        have e4 : τ t 4 = nI 8 := by rw [hF t (by omega) (by omega) (by omega) (by omega), q4]; rfl
        unfold T_plant_b1
        refine ifn (nI_ge hj (by omega)) ?_
        refine ob (a := τ2) (by show T_add t (τ t 4) _ τ = _; rw [e4]; exact g1) ?_
        exact lti (nI_1 _) rfl
      · intro s ⟨hs, hA, k1, k2, hF⟩
        obtain ⟨s1, τ⟩ := s
        simp only at hs hA k1 k2 hF
        subst hs
        refine ⟨τ, ?_, hA, hF⟩
        unfold T_plant_b1
        exact ifp (nI_le (Nat.le_refl _) (by omega)) rfl
    obtain ⟨r, l1, l2, l3⟩ := key
    rw [orL_range n hn] at l2
    have hT9 : r (t + 9) = clM σ t (t + 9) := by rw [l3 (t + 9) (by omega) (by omega) (by omega) (by omega), q2 (t + 9) (by omega) (by omega)]
    have hw : Wf (uf (fun _ => false) 8 false) (uf (fun _ => []) 8 (List.range n)) (uf (fun i => 2 ^ i) 8 (fullM n)) 8 := by
      rw [Wf_node (by omega), uf_s, uf_s, uf_s]
      have hlf : ∀ c ∈ List.range n, uf (fun i => 2 ^ i) 8 (fullM n) c = 2 ^ c := fun c hc => by rw [List.mem_range] at hc; rw [uf_n (by omega)]
      refine ⟨by simp; omega, (fun e => (by cases e)), ?_, ?_, ?_⟩
      · rw [← orL_range n hn]; exact (orL_same (st := uf (fun i => 2 ^ i) 8 (orL (fun i => 2 ^ i) (List.range n))) (st0 := fun i => 2 ^ i) (fun c hc => by rw [List.mem_range] at hc; rw [uf_n (by omega)])).symm
      · have := range_dj (n := n)
        unfold Dj at this ⊢
        refine List.Pairwise.imp_of_mem ?_ this
        intro x y hx hy hxy
        rw [hlf x hx, hlf y hy]; exact hxy
      · intro c hc
        have := hlf c hc
        rw [List.mem_range] at hc
        rw [Wf_leaf (by omega)]; exact this
    refine ⟨r, _, _, _, 8, ?_, ⟨l2, ?_, by omega, hw, ?_, ?_, hd, ?_, ?_⟩, ?_, uf_s, Or.inr ⟨hn2, rfl, ?_, uf_s, uf_s⟩, ?_⟩
    · unfold T_plant
      refine ob (T_clear_eq ht) ?_
      refine ifp (nI_le (a := 2) hn2 (by omega)) ?_
      refine lti rfl ?_
      refine lti rfl ?_
      refine ob (a := σ11) ?_ (ob l1 rfl)
      have e4 : mput (mput (clM σ t) t 4 8) t 5 1 t 4 = nI 8 := by rw [mput_at, if_neg (by omega), mput_at, if_pos ⟨rfl, rfl⟩]; rfl
      rw [e4]
      exact wrT (lnT1 ht) (by omega) (by omega)
    · rw [l3 t (by omega) (by omega) (by omega) (by omega), q4]; rfl
    · intro i hi
      exact ⟨uf_n (by omega), uf_n (by omega), by rw [hT9]; exact ((clM_tw h).1 i hi).2.2⟩
    · intro id h8 _ hne
      by_cases q : id = 8
      · subst q; exact Rc.self (by omega)
      · rw [uf_n q] at hne; exact absurd rfl hne
    · rw [l3 t (by omega) (by omega) (by omega) (by omega), q5 9 (by omega) (by omega)]; exact hla.1
    · rw [l3 _ (by omega) (by omega) (by omega) (by omega), q2 _ (by omega) (by omega)]; exact hla.2
    · intro k hk
      rw [l3 k (by omega) (by omega) (by omega) (by omega), q2 k (by omega) (by omega)]; exact hT0 k hk
    · rw [l3 t (by omega) (by omega) (by omega) (by omega)]
      show mput _ _ _ _ _ _ = _
      rw [mput_ne _ (by omega), mput_at, if_pos ⟨rfl, rfl⟩]; rfl
    · intro r2
      rw [frN_free (by omega) (by rw [uf_s]), uf_s]
      have hone : ∀ (M : List Nat), (∀ c ∈ M, c < 8) → ∀ r, SeqR (Fr (uf (fun _ => false) 8 false) (uf (fun _ => []) 8 (List.range n))) M r ↔ r = M := by
        intro M
        induction M with
        | nil => intro _ r; exact Iff.rfl
        | cons c M ih =>
          intro hM r
          constructor
          · rintro ⟨a, b, e, ha, hb⟩
            rw [Fr_leaf (hM c (by simp))] at ha
            rw [ih (fun x hx => hM x (by simp [hx]))] at hb
            rw [e, ha, hb]; rfl
          · intro e
            exact ⟨[c], M, e, (Fr_leaf (hM c (by simp))).mpr rfl, (ih (fun x hx => hM x (by simp [hx])) M).mpr rfl⟩
      constructor
      · rintro ⟨M, hM, hs⟩
        rw [hone M (fun c hc => by have := hM.mem_iff.mp hc; rw [List.mem_range] at this; omega)] at hs
        subst hs
        exact ⟨hM.nodup_iff.mpr List.nodup_range, fun x => by rw [hM.mem_iff, List.mem_range]⟩
      · rintro ⟨a, b⟩
        refine ⟨r2, ?_, (hone r2 (fun c hc => by have := (b c).mp hc; omega) r2).mpr rfl⟩
        exact (List.perm_ext_iff_of_nodup a List.nodup_range).mpr (fun x => by rw [b, List.mem_range])
end

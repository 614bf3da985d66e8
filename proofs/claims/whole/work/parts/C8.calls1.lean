theorem nI_m1 {c : Nat} (hc : c < 2 ^ 30) : (nI c - 1 : Int32).toInt = (c : Int) - 1 := by
  have := pk_sub_toInt (a := c) (b := 1) hc (by omega)
  exact this
theorem in0 {x : Int32} {c : Nat} (hc : c < 2 ^ 30) : (M_in x 0 (nI c - 1) = 1 ∧ ∃ j, j < c ∧ x = nI j) ∨ (M_in x 0 (nI c - 1) = 0 ∧ (x < 0 ∨ nI c ≤ x)) := by
  rw [M_in_eq]
  rcases pk_ix x (n := c) (by omega) with h | h | ⟨j, hj, h⟩
  · right; rw [if_pos h]; exact ⟨rfl, Or.inl h⟩
  · right
    by_cases q : x < 0
    · rw [if_pos q]; exact ⟨rfl, Or.inl q⟩
    · rw [if_neg q, if_pos]
      · exact ⟨rfl, Or.inr h⟩
      · rw [Int32.lt_iff_toInt_lt, nI_m1 hc]
        have := Int32.le_iff_toInt_le.mp h
        rw [nI_toInt (by omega)] at this
        omega
  · left
    subst h
    rw [if_neg (nI_pos (by omega)), if_neg]
    · exact ⟨rfl, j, hj, rfl⟩
    · rw [Int32.lt_iff_toInt_lt, nI_m1 hc, nI_toInt (by omega)]
      omega
theorem gr0 {x : Int32} {σ : Mem} {c : Nat} (hc : c < 2 ^ 30) (h2 : σ 0 2 = nI c) : (O_isGroup x σ = 1 ∧ ∃ j, j < c ∧ x = nI j) ∨ (O_isGroup x σ = 0 ∧ (x < 0 ∨ nI c ≤ x)) := by
  have e : O_isGroup x σ = if x < 0 then 0 else if nI c ≤ x then 0 else 1 := by
    unfold O_isGroup lt
    rw [h2]
    by_cases a : x < 0
    · simp [a]
    · by_cases b : nI c ≤ x
      · simp [a, b]
      · simp [a, b]
  rw [e]
  rcases pk_ix x (n := c) (by omega) with h | h | ⟨j, hj, h⟩
  · right; rw [if_pos h]; exact ⟨rfl, Or.inl h⟩
  · right
    by_cases q : x < 0
    · rw [if_pos q]; exact ⟨rfl, Or.inl q⟩
    · rw [if_neg q, if_pos h]; exact ⟨rfl, Or.inr h⟩
  · left
    subst h
    rw [if_neg (nI_pos (by omega)), if_neg (nI_ge hj (by omega))]
    exact ⟨rfl, j, hj, rfl⟩
theorem nget_congr {G G' : Nat → Nat} {bs more : Nat} (h : ∀ g, g < 10 → bs.testBit g = true → G g = G' g) : (List.range 11).map (nget G bs more) = (List.range 11).map (nget G' bs more) := by
  refine List.map_congr_left (fun j hj => ?_)
  rw [List.mem_range] at hj
  unfold nget
  by_cases q : j = 10
  · rw [if_pos q, if_pos q]
  · rw [if_neg q, if_neg q]
    by_cases q2 : bs.testBit j = true
    · rw [if_pos q2, if_pos q2, h j (by omega) q2]
    · rw [if_neg q2, if_neg q2]
theorem cnt_congr {n : Nat} {G G' : Nat → Nat} {bs more : Nat} (h : ∀ g, g < 10 → bs.testBit g = true → G g = G' g) : cnt n G bs more = cnt n G' bs more := by
  unfold cnt nxOf
  rw [nget_congr h]
theorem RG_congr {n : Nat} {G G' : Nat → Nat} {bs more : Nat} (h : ∀ g, g < 10 → bs.testBit g = true → G g = G' g) (r : List Nat) : RG n G bs more r ↔ RG n G' bs more r := by
  rw [rg_rw, rg_rw, nget_congr h]
theorem tkB_congr {n : Nat} {G G' : Nat → Nat} : ∀ {i : Nat}, (∀ g, g < i → G g = G' g) → tkB n G i = tkB n G' i
  | 0, _ => rfl
  | i + 1, h => by
    have e := tkB_congr (n := n) (i := i) (fun g hg => h g (by omega))
    unfold tkB
    rw [← e, cnt_congr (G' := G') (fun g _ hb => h g ?_)]
    rw [Nat.testBit_or, Bool.or_eq_true] at hb
    rcases hb with hb | hb
    · have := tkB_bit hb; omega
    · rw [Nat.testBit_two_pow] at hb; simp at hb; omega
/- what a call keeps of the rest -/
def KC (σ τ : Mem) : Prop := (∀ k, k = 2 ∨ k = 6 ∨ k = 7 ∨ k = 8 ∨ k = 9 → τ k = σ k) ∧ τ 0 5 = σ 0 5 ∧ τ 0 6 = σ 0 6
def KM (μ ν : Mem) : Prop := (∀ k, k = 60 ∨ k = 61 ∨ k = 62 ∨ k = 63 ∨ k = 64 → ν k = μ k) ∧ ν 43 22 = μ 43 22 ∧ ν 43 29 = μ 43 29
theorem FD.kc {σ τ : Mem} (h : FD σ τ) : KC σ τ := ⟨fun k hk => h.1 k (by omega) (by omega) (by omega), h.2 5 (by omega) (by omega), h.2 6 (by omega) (by omega)⟩
theorem PubM.km {μ ν : Mem} (h : PubM μ ν) : KM μ ν := ⟨fun k hk => h.2.2.2.2 k (by omega), h.2.2.1, h.2.2.2.1⟩
theorem KC.rf {σ : Mem} : KC σ σ := ⟨fun _ _ => rfl, rfl, rfl⟩
theorem KM.rf {σ : Mem} : KM σ σ := ⟨fun _ _ => rfl, rfl, rfl⟩
theorem KC.tr {a b c : Mem} (h1 : KC a b) (h2 : KC b c) : KC a c := ⟨fun k hk => (h2.1 k hk).trans (h1.1 k hk), h2.2.1.trans h1.2.1, h2.2.2.trans h1.2.2⟩
theorem KM.tr {a b c : Mem} (h1 : KM a b) (h2 : KM b c) : KM a c := ⟨fun k hk => (h2.1 k hk).trans (h1.1 k hk), h2.2.1.trans h1.2.1, h2.2.2.trans h1.2.2⟩
def CM (σ μ : Mem) (n : Nat) (G : Nat → Nat) (c : Nat) : Prop := (∃ kd ch st root, CI σ n G c kd ch st root) ∧ MI μ n G c
def CMx (σ μ : Mem) : Prop := ∃ n G c, CM σ μ n G c
theorem s_things {σ μ : Mem} (h : CMx σ μ) (x : Int32) : ∃ a σ' μ', O_things x σ = some (a, σ') ∧ M_things x μ = (a, μ') ∧ CMx σ' μ' ∧ KC σ σ' ∧ KM μ μ' := by
  obtain ⟨n, G, c, ⟨kd, ch, st, root, hC, hX⟩, hM⟩ := h
  obtain ⟨a1, a2, a3, a4, a5, a6, a7, a8, a9, a10, a11, a12⟩ := hC
  rcases in_lo (x := x) (lo := 1) (hi := 8) (by omega) (by omega) with ⟨k, k1, k2, rfl⟩ | hout
  · have e : ∀ j, j ≠ 0 → mput σ 0 0 (nI k) j = σ j := fun j hj => mput_ne j hj
    have ef : ∀ f, f ≠ 0 → mput σ 0 0 (nI k) 0 f = σ 0 f := fun f hf => by rw [mput_at, if_neg (fun q => hf q.2)]
    obtain ⟨τ, kd', ch', st', root', d1, d2, d3⟩ := drawAll_ok (σ := mput σ 0 0 (nI k)) (n := k) (G := G) (c := c) (by rw [mput_at, if_pos ⟨rfl, rfl⟩]) k1 k2 (by rw [ef 2 (by omega)]; exact a4) a5 (fun g hg => by rw [e 1 (by omega)]; exact a6 g hg) (a8.1.tw.same (fun a _ => e _ (by omega))) (a11.same (fun a _ => e _ (by omega))) (a12.same (fun a _ => e _ (by omega)))
    have hin : M_in (nI k) 1 8 = 1 := by
      rw [M_in_eq, if_neg (show ¬ nI k < 1 from nI_nlt (b := 1) k1 (by omega)), if_neg (show ¬ (8 : Int32) < nI k from nI_nlt (a := 8) k2 (by omega))]
    refine ⟨nI n, τ, mput μ 43 0 (nI k), ?_, ?_, ⟨k, G, c, ⟨kd', ch', st', root', d2⟩, ?_⟩, ?_, ?_⟩
    · unfold O_things
      refine lti (b := false) ?_ ?_
      · rw [if_neg (show ¬ nI k < 1 from nI_nlt (b := 1) k1 (by omega))]
        exact if_pos (nI_le (b := 8) k2 (by omega))
      · refine ifn (by decide) ?_
        refine lti a1 ?_
        refine lti rfl ?_
        exact ob d1 rfl
    · unfold M_things
      refine ifn (by rw [hin]; decide) ?_
      refine lti hM.1 ?_
      exact lti rfl rfl
    · obtain ⟨m1, m2, m3, m4, m5, m6⟩ := hM
      refine ⟨by rw [mput_at, if_pos ⟨rfl, rfl⟩], k1, k2, by rw [mput_at, if_neg (by omega)]; exact m4, m5, fun g hg => by rw [mput_ne _ (by omega)]; exact m6 g hg⟩
    · have := d3.kc
      exact ⟨fun j hj => by rw [this.1 j hj, e j (by omega)], by rw [this.2.1, ef 5 (by omega)], by rw [this.2.2, ef 6 (by omega)]⟩
    · exact ⟨fun j hj => mput_ne _ (by omega), by rw [mput_at, if_neg (by omega)], by rw [mput_at, if_neg (by omega)]⟩
  · have hin : M_in x 1 8 = 0 := by
      rw [M_in_eq]
      rcases hout with q | q
      · exact if_pos q
      · by_cases q2 : x < 1
        · exact if_pos q2
        · rw [if_neg q2]; exact if_pos q
    refine ⟨-2, σ, μ, ?_, ?_, ⟨n, G, c, ⟨kd, ch, st, root, ⟨a1, a2, a3, a4, a5, a6, a7, a8, a9, a10, a11, a12⟩, hX⟩, hM⟩, KC.rf, KM.rf⟩
    · unfold O_things
      refine lti (b := true) ?_ (ifp rfl rfl)
      rcases hout with q | q
      · exact if_pos q
      · by_cases q2 : x < 1
        · exact if_pos q2
        · rw [if_neg q2]; exact if_neg (Int32.not_le.mpr q)
    · unfold M_things
      exact ifp hin rfl
theorem s_back {σ μ : Mem} (h : CMx σ μ) : ∃ a σ' μ', O_back σ = some (a, σ') ∧ M_back μ = (a, μ') ∧ CMx σ' μ' ∧ KC σ σ' ∧ KM μ μ' := by
  obtain ⟨n, G, c, ⟨kd, ch, st, root, hC, hX⟩, hM⟩ := h
  obtain ⟨a1, a2, a3, a4, a5, a6, a7, a8, a9, a10, a11, a12⟩ := hC
  by_cases hc0 : c = 0
  · subst hc0
    refine ⟨-3, σ, μ, ?_, ?_, ⟨n, G, 0, ⟨kd, ch, st, root, ⟨a1, a2, a3, a4, a5, a6, a7, a8, a9, a10, a11, a12⟩, hX⟩, hM⟩, KC.rf, KM.rf⟩
    · unfold O_back
      exact ifn (by rw [a4]; decide) rfl
    · unfold M_back
      exact ifp (by rw [hM.2.2.2.1]; rfl) rfl
  · have e : ∀ j, j ≠ 0 → mput σ 0 2 (nI (c - 1)) j = σ j := fun j hj => mput_ne j hj
    have ef : ∀ f, f ≠ 2 → mput σ 0 2 (nI (c - 1)) 0 f = σ 0 f := fun f hf => by rw [mput_at, if_neg (fun q => hf q.2)]
    obtain ⟨τ, kd', ch', st', root', d1, d2, d3⟩ := drawAll_ok (σ := mput σ 0 2 (nI (c - 1))) (n := n) (G := G) (c := c - 1) (by rw [ef 0 (by omega)]; exact a1) a2 a3 (by rw [mput_at, if_pos ⟨rfl, rfl⟩]) (by omega) (fun g hg => by rw [e 1 (by omega)]; exact a6 g (by omega)) (a8.1.tw.same (fun a _ => e _ (by omega))) (a11.same (fun a _ => e _ (by omega))) (a12.same (fun a _ => e _ (by omega)))
    obtain ⟨m1, m2, m3, m4, m5, m6⟩ := hM
    refine ⟨nI (c - 1), τ, mput μ 43 1 (nI (c - 1)), ?_, ?_, ⟨n, G, c - 1, ⟨kd', ch', st', root', d2⟩, ?_⟩, ?_, ?_⟩
    · unfold O_back
      refine ifp (by rw [a4]; exact nI_le (a := 1) (by omega) (by omega)) ?_
      refine lti (b := mput σ 0 2 (nI (c - 1))) (by rw [a4, zz_dec (by omega)]) ?_
      refine ob d1 ?_
      rw [d2.1.2.2.2.1]
    · unfold M_back
      refine ifn (by rw [m4]; exact nI_ne0 (by omega) (by omega)) ?_
      refine lti (b := mput μ 43 1 (nI (c - 1))) (by rw [m4, zz_dec (by omega)]) ?_
      rw [mput_at, if_pos ⟨rfl, rfl⟩]
    · exact ⟨by rw [mput_at, if_neg (by omega)]; exact m1, m2, m3, by rw [mput_at, if_pos ⟨rfl, rfl⟩], by omega, fun g hg => by rw [mput_ne _ (by omega)]; exact m6 g (by omega)⟩
    · have := d3.kc
      exact ⟨fun j hj => by rw [this.1 j hj, e j (by omega)], by rw [this.2.1, ef 5 (by omega)], by rw [this.2.2, ef 6 (by omega)]⟩
    · exact ⟨fun j hj => mput_ne _ (by omega), by rw [mput_at, if_neg (by omega)], by rw [mput_at, if_neg (by omega)]⟩
theorem O_isTaken_eq {σ : Mem} {b j : Nat} (h : σ 0 3 = nI b) (hb : b < 1024) (hj : j < 10) : O_isTaken (nI j) σ = if b.testBit j = true then 1 else 0 := by
  unfold O_isTaken lt
  rw [h, xI_tst (by omega) (by omega)]
  by_cases q : b.testBit j = true
  · rw [if_pos q, if_pos q]; rfl
  · rw [if_neg q, if_neg q]; rfl
theorem O_taken_eq {σ : Mem} {n : Nat} {G : Nat → Nat} {c j : Nat} {kd : Nat → Bool} {ch : Nat → List Nat} {st : Nat → Nat} {root : Nat} (h : CP σ n G c c kd ch st root) (hj : j < c) : O_taken (nI j) σ = if (tkB n G c).testBit j = true then 1 else 0 := by
  obtain ⟨a1, a2, a3, a4, a5, a6, a7, -⟩ := h
  have ht := O_isTaken_eq a7 (tkB_lt (by omega)) (show j < 10 by omega)
  unfold O_taken
  rcases gr0 (x := nI j) (by omega) a4 with ⟨g, -⟩ | ⟨-, g | g⟩
  · rw [g, if_neg (by decide), ht]
    unfold lt
    by_cases q : (tkB n G c).testBit j = true
    · rw [if_pos q]; rfl
    · rw [if_neg q]; rfl
  · exact absurd g (nI_pos (by omega))
  · exact absurd g (nI_ge hj (by omega))
theorem s_taken {σ μ : Mem} (h : CMx σ μ) (x : Int32) : ∃ a μ', O_taken x σ = a ∧ M_taken x μ = some (a, μ') ∧ CMx σ μ' ∧ KM μ μ' := by
  obtain ⟨n, G, c, ⟨kd, ch, st, root, hC, hX⟩, hM⟩ := h
  have a4 := hC.2.2.2.1
  have a5 := hC.2.2.2.2.1
  have m4 := hM.2.2.2.1
  rcases gr0 (x := x) (by omega) a4 with ⟨g1, j, hj, rfl⟩ | ⟨g1, g2⟩
  · obtain ⟨w, t1⟩ := M_takenNow_eq hM
    refine ⟨_, mset μ 45 w, O_taken_eq hC hj, ?_, ⟨n, G, c, ⟨kd, ch, st, root, hC, hX⟩, hM.m45⟩, (PubM.set (by decide)).km⟩
    unfold M_taken
    refine ob (a := ((if (tkB n G c).testBit j = true then 1 else 0 : Int32), mset μ 45 w)) ?_ ?_
    · have hg : M_isGroup (nI j) μ = 1 := by
        unfold M_isGroup
        rw [m4]
        rcases in0 (x := nI j) (c := c) (by omega) with ⟨q, -⟩ | ⟨-, q | q⟩
        · exact q
        · exact absurd q (nI_pos (by omega))
        · exact absurd q (nI_ge hj (by omega))
      refine ifn (by rw [hg]; decide) ?_
      refine ob t1 ?_
      refine lti rfl ?_
      refine lti rfl ?_
      have htl := tkB_lt (n := n) (G := G) (c := c) a5
      rw [xI_tst (by omega) (by omega)]
      by_cases q : (tkB n G c).testBit j = true
      · rw [if_pos q, if_pos q]; rfl
      · rw [if_neg q, if_neg q]; rfl
    · refine lti rfl ?_
      exact lti rfl rfl
  · refine ⟨-2, μ, ?_, ?_, ⟨n, G, c, ⟨kd, ch, st, root, hC, hX⟩, hM⟩, KM.rf⟩
    · unfold O_taken
      rw [g1]; rfl
    · unfold M_taken
      refine ob (a := (-2, μ)) ?_ ?_
      · have hg : M_isGroup x μ = 0 := by
          unfold M_isGroup
          rw [m4]
          rcases in0 (x := x) (c := c) (by omega) with ⟨-, j, hj, e⟩ | ⟨q, -⟩
          · subst e
            rcases g2 with q | q
            · exact absurd q (nI_pos (by omega))
            · exact absurd q (nI_ge hj (by omega))
          · exact q
        exact ifp hg rfl
      · refine lti rfl ?_
        exact lti rfl rfl

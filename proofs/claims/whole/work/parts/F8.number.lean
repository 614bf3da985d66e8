theorem cmpW_congr {m : Nat} {P Q : Nat → Nat} {b : Bool} (hm : 1 ≤ m) (h : ∀ i j, i < m → j < m → (P i < P j ↔ Q i < Q j)) : cmpW m P b = cmpW m Q b := by
  unfold cmpW
  rw [wayN_congr h]
  have h0 := h 0 (m - 1) (by omega) (by omega)
  by_cases q : P (m - 1) ≤ P 0
  · rw [if_pos q, if_pos (show Q (m - 1) ≤ Q 0 from Nat.le_of_not_lt (fun c => by have := h0.mpr c; omega))]
  · rw [if_neg q, if_neg (show ¬ Q (m - 1) ≤ Q 0 from fun c => by have := h0.mp (by omega); omega)]
theorem one_cons {r : List Nat} (hn : r.Nodup) {x : Nat} : Cons (2 ^ x) r := by
  rw [cons_int]
  intro p q s hpq hqs hs h1 h2
  rw [Nat.testBit_two_pow] at h1 h2
  have h1 := of_decide_eq_true h1
  have h2 := of_decide_eq_true h2
  have := gD_inj hn (i := p) (j := s) (by omega) hs (by rw [← h1, ← h2])
  omega
section
variable {σ τ : Mem} {n : Nat} {kd : Nat → Bool} {ch : Nat → List Nat} {st : Nat → Nat} {root : Nat} {T : Nat → Nat}
theorem nd_places (hD : DR σ 10 kd ch st root) (hn : n ≤ 8) (hR : Row0 n n T) (hFr : Fr kd ch root (rwT n T)) (hroot : st root = fullM n) {f : Nat → Int32} (h5 : ∀ i, i < n → f (T i - 97) = nI i) (h60 : ∀ i, i < n → τ 60 i = nI (T i)) {i m : Nat} (hi : i ∈ ndD ch 8 root) (hm : m = (ch i).length) : ∃ P Q : Nat → Nat, (∀ k, k < m → f (lst (st ((ch i).getD k 0))) = nI (P k) ∧ P k < 8) ∧ (∀ k, k < m → M_placeOf (nI (st ((ch i).getD k 0))) τ = some (nI (Q k)) ∧ Q k < 8) ∧ (∀ a b, a < m → b < m → P a = P b → a = b) ∧ (∀ a b, a < m → b < m → Q a = Q b → a = b) ∧ ∀ a b, a < m → b < m → (P a < P b ↔ Q a < Q b) := by
  obtain ⟨c, -, f1, f2, f3, f4, f5, f6⟩ := hD.facts
  obtain ⟨i8, i9⟩ := (f3 i).mp hi
  obtain ⟨w1, w2, w3, w4, w5, w6⟩ := f6 i i8 i9
  have hWi : Wf kd ch st i := ⟨8, w1⟩
  have hWn := (Wf_node i8).mp hWi
  have hND : (ch i).Nodup := Dj_nodup hWn.2.2.2.1 (fun e he => (w6 e he).2.2.2.1)
  obtain ⟨r1, r2⟩ := rwT_row hR
  have hsub : ∀ e ∈ ch i, subM (st e) (fullM n) := fun e he x hx => by
    rw [← hroot]
    refine (nd_sub 8 root hD.2.1 i hi).1 x ?_
    rw [hWn.2.2.1, orL_bit]
    exact ⟨e, he, hx⟩
  have hcons : ∀ e ∈ ch i, Cons (st e) (rwT n T) := fun e he => by
    obtain ⟨q1, q2, q3, q4, q5⟩ := w6 e he
    rcases q5 with q | q
    · have e1 : st e = 2 ^ e := by
        have : WfD kd ch st (7 + 1) e := q1
        unfold WfD at this
        rw [if_pos q] at this
        exact this
      rw [e1]; exact one_cons r1
    · exact ((strong_iff hD.2.1 (st e)).mpr ⟨e, (f3 e).mpr ⟨by omega, q.2⟩, rfl⟩).1.2.2 _ hFr
  have hex : ∀ k, ∃ z : Nat × Nat, k < m → (z.1 < n ∧ f (lst (st ((ch i).getD k 0))) = nI z.1 ∧ (st ((ch i).getD k 0)).testBit ((rwT n T).getD z.1 0) = true) ∧ (z.2 < n ∧ M_placeOf (nI (st ((ch i).getD k 0))) τ = some (nI z.2) ∧ (st ((ch i).getD k 0)).testBit ((rwT n T).getD z.2 0) = true) := fun k => by
    by_cases hk : k < m
    · have he : (ch i).getD k 0 ∈ ch i := getD_mem (by omega)
      generalize (ch i).getD k 0 = e at he
      obtain ⟨q1, q2, q3, q4, q5⟩ := w6 e he
      have hb := lst_bit _ q3 q4
      have hln : lst (st e) < n := by
        have := hsub e he _ hb
        rw [full_bit] at this
        exact of_decide_eq_true this
      obtain ⟨p, hp, ep⟩ := List.mem_iff_getElem.mp ((r2 _).mpr hln)
      rw [rwT_len] at hp
      have eg : (rwT n T).getD p 0 = lst (st e) := by rw [List.getD_eq_getElem?_getD, List.getElem?_eq_getElem (by rw [rwT_len]; exact hp), ← ep]; rfl
      have eT : T p - 97 = lst (st e) := by rw [← eg, rwT_get hp]
      obtain ⟨q, g1, g2, g3, g4⟩ := M_placeOf_ok hn h60 hR q3 ⟨p, hp, by rw [eT]; exact hb⟩
      refine ⟨(p, q), fun _ => ⟨⟨hp, ?_, ?_⟩, g1, g4, ?_⟩⟩
      · rw [← eT]; exact h5 p hp
      · show (st e).testBit ((rwT n T).getD p 0) = true
        rw [eg]; exact hb
      · show (st e).testBit ((rwT n T).getD q 0) = true
        rw [rwT_get g1]; exact g2
    · exact ⟨(0, 0), fun q => absurd q hk⟩
  obtain ⟨z, hz⟩ := Classical.axiomOfChoice hex
  have dj : ∀ a b, a < m → b < m → a ≠ b → st ((ch i).getD a 0) &&& st ((ch i).getD b 0) = 0 := fun a b ha hb hne => by
    refine Dj_ne i8 hWi (getD_mem (by omega)) (getD_mem (by omega)) (fun e => hne ?_)
    exact gD_inj hND (by omega) (by omega) e
  have nob : ∀ a b x, a < m → b < m → (st ((ch i).getD a 0)).testBit x = true → (st ((ch i).getD b 0)).testBit x = true → a = b := fun a b x ha hb h1 h2 => by
    refine Classical.byContradiction (fun hne => ?_)
    have e : (st ((ch i).getD a 0) &&& st ((ch i).getD b 0)).testBit x = true := by rw [Nat.testBit_and, h1, h2]; rfl
    rw [dj a b ha hb hne, Nat.zero_testBit] at e
    cases e
  refine ⟨fun k => (z k).1, fun k => (z k).2, fun k hk => ⟨(hz k hk).1.2.1, by have := (hz k hk).1.1; show (z k).1 < 8; omega⟩, fun k hk => ⟨(hz k hk).2.2.1, by have := (hz k hk).2.1; show (z k).2 < 8; omega⟩, fun a b ha hb e => ?_, fun a b ha hb e => ?_, fun a b ha hb => ?_⟩
  · have e : (z a).1 = (z b).1 := e
    refine nob a b _ ha hb (hz a ha).1.2.2 ?_
    rw [e]; exact (hz b hb).1.2.2
  · have e : (z a).2 = (z b).2 := e
    refine nob a b _ ha hb (hz a ha).2.2.2 ?_
    rw [e]; exact (hz b hb).2.2.2
  · show (z a).1 < (z b).1 ↔ (z a).2 < (z b).2
    by_cases q : a = b
    · subst q; constructor <;> intro h <;> omega
    · have cA := hcons _ (getD_mem (C := ch i) (i := a) (by omega))
      have cB := hcons _ (getD_mem (C := ch i) (i := b) (by omega))
      obtain ⟨⟨a1, a2, a3⟩, a4, a5, a6⟩ := hz a ha
      obtain ⟨⟨b1, b2, b3⟩, b4, b5, b6⟩ := hz b hb
      have hl := rwT_len (n := n) (T := T)
      exact ⟨fun h => int_lt cA cB (dj a b ha hb q) (by omega) (by omega) (by omega) (by omega) a3 a6 b3 b6 h, fun h => int_lt cA cB (dj a b ha hb q) (by omega) (by omega) (by omega) (by omega) a6 a3 b6 b3 h⟩
def numH (wy W : Nat → Nat) : Nat → Nat
  | 0 => 0
  | j + 1 => numH wy W j * wy j + W j
theorem numberOf_ok (hD : DR σ 10 kd ch st root) (hn : n ≤ 8) (hR : Row0 n n T) (hFr : Fr kd ch root (rwT n T)) (hroot : st root = fullM n) (h5 : ∀ i, i < n → σ 5 (T i - 97) = nI i) (h60 : ∀ i, i < n → τ 60 i = nI (T i)) (hA : NdA τ kd ch st (ndD ch 8 root)) (h7 : τ 43 7 = nI (ndD ch 8 root).length) : ∃ v g, T_numberOf 10 5 σ = some (nI v, mset σ 18 g) ∧ lp (fun s => M_numberOf_b1 τ s.1 s.2) fuel (0, 0) = some (nI v) := by
  have hNF := hD.nf
  obtain ⟨-, -, -, l7, hat, hnd⟩ := hNF
  obtain ⟨c, ec, f1, f2, f3, f4, f5, f6⟩ := hD.facts
  rw [← ec] at hat l7 h7
  have hAT := hD.1.1
  have hex : ∀ j, ∃ w, j < c → (∀ g, ∃ g', T_wayOf 10 (nI (8 + j)) 5 (mset σ 18 g) = some (nI w, mset σ 18 g')) ∧ M_wayTold (nI j) τ = some (nI w) := fun j => by
    by_cases hj : j < c
    · have hi : 8 + j ∈ ndD ch 8 root := (f3 _).mpr ⟨by omega, by omega⟩
      obtain ⟨w1, w2, w3, w4, w5, w6⟩ := f6 (8 + j) (by omega) (by omega)
      have hWn := (Wf_node (show 8 ≤ 8 + j by omega)).mp ⟨8, w1⟩
      have hND : (ch (8 + j)).Nodup := Dj_nodup hWn.2.2.2.1 (fun e he => (w6 e he).2.2.2.1)
      obtain ⟨P, Q, p1, p2, p3, p4, p5⟩ := nd_places (f := σ 5) hD hn hR hFr hroot h5 h60 hi rfl
      refine ⟨cmpW (ch (8 + j)).length P (kd (8 + j)), fun _ => ⟨fun g => ?_, ?_⟩⟩
      · obtain ⟨g', e⟩ := T_wayOf_ok (t := 10) (σ := mset σ 18 g) (M8_at hAT) isT10 (nd := 8 + j) (by omega) rfl (by omega) w4 (fun e he => by
          obtain ⟨q1, q2, q3, q4, q5⟩ := w6 e he
          exact ⟨q2, q3, q4, by omega⟩) hND P (fun k hk => by rw [mset_ne (by decide)]; exact p1 k hk) p3
        exact ⟨g', by rw [e]; show some (_, mset (mset σ 18 g) 18 g') = _; rw [mset_mset]⟩
      · rw [M_wayTold_ok hA (at_ := j) (N := 8 + j) (by omega) (by omega) (by rw [hat j hj]) rfl (by omega) w4 Q p2 p4, cmpW_congr (by omega) p5]
    · exact ⟨0, fun q => absurd q hj⟩
  obtain ⟨W, hW⟩ := Classical.axiomOfChoice hex
  have lT : ∃ r, lp (fun s => T_numberOf_b1 10 5 s.1 s.2.1 s.2.2) fuel (0, 8, σ) = some r ∧ ∃ g, r = (nI (numH (fun j => wyF kd ch (8 + j)) W c), mset σ 18 g) := by
    refine lp_for c (fun j s => ∃ g, s = (nI (numH (fun j => wyF kd ch (8 + j)) W j), nI (8 + j), mset σ 18 g)) _ _ 0 (by omega) ⟨σ 18, by rw [mset_self]; rfl⟩ (by omega) ?_ ?_
    · rintro j s hj ⟨g, rfl⟩
      left
      obtain ⟨hw1, -⟩ := hW j hj
      obtain ⟨g', e⟩ := hw1 g
      obtain ⟨w1, w2, w3, w4, w5, w6⟩ := f6 (8 + j) (by omega) (by omega)
      refine ⟨(nI (numH (fun j => wyF kd ch (8 + j)) W (j + 1)), nI (8 + (j + 1)), mset σ 18 g'), ?_, g', rfl⟩
      show T_numberOf_b1 10 5 (nI (numH (fun j => wyF kd ch (8 + j)) W j)) (nI (8 + j)) (mset σ 18 g) = _
      unfold T_numberOf_b1
      have e0 : (8 : Int32) + mset σ 18 g 10 5 = nI (8 + c) := by rw [mset_ne (by decide), f2, L_8, nI_add]
      rw [e0]
      refine ifn (nI_ge (by omega) (by omega)) ?_
      refine ob ((M8_at (t := 10) hAT).ways isT10 (by omega) w2) ?_
      refine ob e ?_
      refine lti rfl ?_
      refine lti rfl ?_
      refine lti (b := nI (numH (fun j => wyF kd ch (8 + j)) W (j + 1))) ?_ (lti (nI_1 _) rfl)
      show nI _ * nI _ + nI (W j) = _
      rw [xI_mul, nI_add]; rfl
    · rintro s ⟨g, rfl⟩
      refine ⟨_, ?_, g, rfl⟩
      show T_numberOf_b1 10 5 (nI (numH (fun j => wyF kd ch (8 + j)) W c)) (nI (8 + c)) (mset σ 18 g) = _
      unfold T_numberOf_b1
      have e0 : (8 : Int32) + mset σ 18 g 10 5 = nI (8 + c) := by rw [mset_ne (by decide), f2, L_8, nI_add]
      rw [e0]
      exact ifp (nI_le (Nat.le_refl _) (by omega)) rfl
  have lM : ∃ r, lp (fun s => M_numberOf_b1 τ s.1 s.2) fuel (0, 0) = some r ∧ r = nI (numH (fun j => wyF kd ch (8 + j)) W c) := by
    refine lp_for c (fun j s => s = (nI (numH (fun j => wyF kd ch (8 + j)) W j), nI j)) _ _ 0 (by omega) rfl (by omega) ?_ ?_
    · intro j s hj e
      subst e
      left
      obtain ⟨-, hw2⟩ := hW j hj
      obtain ⟨w1, w2, w3, w4, w5, w6⟩ := f6 (8 + j) (by omega) (by omega)
      refine ⟨(nI (numH (fun j => wyF kd ch (8 + j)) W (j + 1)), nI (j + 1)), ?_, rfl⟩
      show M_numberOf_b1 τ (nI (numH (fun j => wyF kd ch (8 + j)) W j)) (nI j) = _
      unfold M_numberOf_b1
      rw [h7]
      refine ifn (nI_ge hj (by omega)) ?_
      have ew := M_waysAt_eq hA (j := j) (by omega) (by omega) (by rw [hat j hj]; omega) (by rw [hat j hj]; exact w4)
      rw [hat j hj] at ew
      refine ob ew ?_
      refine ob hw2 ?_
      refine lti (b := nI (numH (fun j => wyF kd ch (8 + j)) W (j + 1))) ?_ (lti (nI_1 _) rfl)
      rw [xI_mul, nI_add]; rfl
    · intro s e
      subst e
      refine ⟨_, ?_, rfl⟩
      show M_numberOf_b1 τ (nI (numH (fun j => wyF kd ch (8 + j)) W c)) (nI c) = _
      unfold M_numberOf_b1
      rw [h7]
      exact ifp (nI_le (Nat.le_refl _) (by omega)) rfl
  obtain ⟨r, e1, g, rfl⟩ := lT
  obtain ⟨r2, e2, rfl⟩ := lM
  refine ⟨_, g, ?_, e2⟩
  unfold T_numberOf
  refine ob e1 ?_
  exact lti rfl (lti rfl rfl)
end
theorem CI.m5 {σ : Mem} {n : Nat} {G : Nat → Nat} {c : Nat} {kd : Nat → Bool} {ch : Nat → List Nat} {st : Nat → Nat} {root : Nat} {f : Nat → Int32} (h : CI σ n G c kd ch st root) : CI (mset σ 5 f) n G c kd ch st root := h.fr (fun _ _ => by rw [mset_ne (by decide)]) (fun k hk => mset_ne (by omega))
theorem s_number {σ μ : Mem} (h : CMx σ μ) (ht : Tdx σ μ) : ∃ a σ' μ', O_number σ = some (a, σ') ∧ M_number μ = some (a, μ') ∧ CMx σ' μ' ∧ KC σ σ' ∧ KM μ μ' := by
  have h0 := h
  obtain ⟨n, G, c, ⟨kd, ch, st, root, hC⟩, hM⟩ := h
  obtain ⟨L, T, hT⟩ := ht
  have hn8 := hC.1.2.2.1
  have hc10 := hC.1.2.2.2.2.1
  rcases misses_val hC hM hT with ⟨e1, e2⟩ | ⟨rfl, hR, f, e1, hf, e2, e3⟩
  · refine ⟨-3, σ, μ, ?_, ?_, h0, KC.rf, KM.rf⟩
    · unfold O_number
      refine ob e1 ?_
      exact lti rfl (lti rfl (ifp rfl rfl))
    · unfold M_number
      refine ob e2 ?_
      refine ob (a := (-3, μ)) (ifp rfl rfl) ?_
      exact lti rfl (lti rfl rfl)
  · obtain ⟨w, k1⟩ := M_takenNow_eq hM
    have kP : PubM μ (mset μ 45 w) := PubM.set (by omega)
    have hM1 := kP.mi hM
    have kC : KC σ (mset σ 5 f) := ⟨fun k hk => mset_ne (by omega), by rw [mset_ne (by decide)], by rw [mset_ne (by decide)]⟩
    have b1 : bitsUp (msB L G T) c < 2 ^ 10 := lt_of_bits (fun i hi => by have := ((bitsUp_bit _ _ _).mp hi).1; omega)
    have d3 : ¬ nI (bitsUp (msB L G T) c) = -3 := fun e => absurd (show nI (bitsUp (msB L G T) c) < 0 by rw [e]; decide) (nI_pos (by omega))
    have et : mset σ 5 f 0 3 = nI (tkB L G c) := by rw [mset_ne (by decide)]; exact hC.1.2.2.2.2.2.2.1
    have ea : nI (bitsUp (msB L G T) c) &&& nI (tkB L G c) = nI (bitsUp (msB L G T) c &&& tkB L G c) := xI_and _ _
    have hle : bitsUp (msB L G T) c &&& tkB L G c < 2 ^ 10 := Nat.lt_of_le_of_lt Nat.and_le_left b1
    by_cases q : bitsUp (msB L G T) c &&& tkB L G c = 0
    · have hRG : RG L G (tkB L G c) 0 (rwT L T) := by
        obtain ⟨r1, r2⟩ := rwT_row hR
        refine ⟨r1, r2, fun g hg hb => ?_, by rw [Nat.zero_and]; exact cons_0 _⟩
        have hgc := tkB_bit hb
        have : (bitsUp (msB L G T) c &&& tkB L G c).testBit g = false := by rw [q, Nat.zero_testBit]
        rw [Nat.testBit_and, hb, Bool.and_true] at this
        have hms : ¬ msB L G T g = true := fun e => by
          rw [(bitsUp_bit _ _ _).mpr ⟨hgc, e⟩] at this; cases this
        unfold msB at hms
        refine cnB_iff.mp ?_
        revert hms
        cases cnB (G g &&& fullM L) (rwT L T)
        · intro e; exact absurd rfl e
        · intro _; rfl
      have hFr : Fr kd ch root (rwT L T) := (hC.1.2.2.2.2.2.2.2.2.2.1 _).mpr hRG
      have hCT := hC.ct
      obtain ⟨-, -, μ1, t1, t2⟩ := findsTree_CT hM1 rfl hCT
      obtain ⟨t3, -, -, t4, t5⟩ := t2
      have hPM := kP.tr t3
      have hC5 := hC.m5 (f := f)
      have hD := hC5.1.2.2.2.2.2.2.2.1
      obtain ⟨v, g, v1, v2⟩ := numberOf_ok (σ := mset σ 5 f) (τ := μ1) hD hn8 hR hFr hC.1.2.2.2.2.2.2.2.2.1 (fun i hi => by rw [mset_eq]; exact hf i hi) (fun i hi => by rw [hPM.2.2.2.2 60 (by omega)]; exact (hT.2.2.2 i hi).2.2) t5 t4
      have ek : ∀ k, k ≠ 18 → k ≠ 5 → mset (mset σ 5 f) 18 g k = σ k := fun k q1 q2 => by rw [mset_ne q1, mset_ne q2]
      refine ⟨nI v, mset (mset σ 5 f) 18 g, μ1, ?_, ?_, ⟨L, G, c, ⟨kd, ch, st, root, hC5.lay (fun k _ q2 _ => mset_ne q2)⟩, hPM.mi hM⟩, ⟨fun k hk => ek k (by omega) (by omega), by rw [ek 0 (by omega) (by omega)], by rw [ek 0 (by omega) (by omega)]⟩, hPM.km⟩
      · unfold O_number
        refine ob e1 ?_
        refine lti rfl ?_
        refine lti rfl ?_
        refine ifn d3 ?_
        refine ifp ?_ ?_
        · show nI (bitsUp (msB L G T) c) &&& mset σ 5 f 0 3 = 0
          rw [et, ea, q]; rfl
        refine ob v1 ?_
        exact lti rfl (lti rfl rfl)
      · unfold M_number
        refine ob e2 ?_
        refine ob (a := (nI v, μ1)) ?_ (lti rfl (lti rfl rfl))
        refine ifn (by decide) ?_
        refine ob (a := (nI v, μ1)) ?_ (lti rfl (lti rfl rfl))
        unfold M_numberOf
        refine ob e3 ?_
        refine ob k1 ?_
        refine lti rfl ?_
        refine lti rfl ?_
        refine ifp ?_ ?_
        · show nI (bitsUp (msB L G T) c) &&& nI (tkB L G c) = 0
          rw [ea, q]; rfl
        refine ob t1 ?_
        exact ob v2 rfl
    · have q0 : ¬ nI (bitsUp (msB L G T) c &&& tkB L G c) = 0 := nI_ne0 (by omega) (by omega)
      refine ⟨-1, mset σ 5 f, mset μ 45 w, ?_, ?_, ⟨L, G, c, ⟨kd, ch, st, root, hC.m5⟩, hM1⟩, kC, kP.km⟩
      · unfold O_number
        refine ob e1 ?_
        refine lti rfl ?_
        refine lti rfl ?_
        refine ifn d3 ?_
        refine ifn ?_ rfl
        show ¬ nI (bitsUp (msB L G T) c) &&& mset σ 5 f 0 3 = 0
        rw [et, ea]; exact q0
      · unfold M_number
        refine ob e2 ?_
        refine ob (a := (-1, mset μ 45 w)) ?_ (lti rfl (lti rfl rfl))
        refine ifn (by decide) ?_
        refine ob (a := (-1, mset μ 45 w)) ?_ (lti rfl (lti rfl rfl))
        unfold M_numberOf
        refine ob e3 ?_
        refine ob k1 ?_
        refine lti rfl ?_
        refine lti rfl ?_
        refine ifn ?_ rfl
        show ¬ nI (bitsUp (msB L G T) c) &&& nI (tkB L G c) = 0
        rw [ea]; exact q0

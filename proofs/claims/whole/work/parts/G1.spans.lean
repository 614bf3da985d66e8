def KSp (σ τ : Mem) : Prop := (∀ k, k ≠ 43 → k ≠ 59 → τ k = σ k) ∧ ∀ f, f ≠ 20 → f ≠ 21 → τ 43 f = σ 43 f
theorem KSp.rf {σ : Mem} : KSp σ σ := ⟨fun _ _ _ => rfl, fun _ _ _ => rfl⟩
theorem KSp.tr {a b c : Mem} (h1 : KSp a b) (h2 : KSp b c) : KSp a c := ⟨fun k q1 q2 => (h2.1 k q1 q2).trans (h1.1 k q1 q2), fun f q1 q2 => (h2.2 f q1 q2).trans (h1.2 f q1 q2)⟩
theorem KSp.p59 {σ τ : Mem} {i : Nat} {v : Int32} (h : KSp σ τ) : KSp σ (mput τ 59 i v) := h.tr ⟨fun k _ q2 => mput_ne k q2, fun f _ _ => by rw [mput_ne 43 (by decide)]⟩
theorem KSp.p20 {σ τ : Mem} {v : Int32} (h : KSp σ τ) : KSp σ (mput τ 43 20 v) := h.tr ⟨fun k q1 _ => mput_ne k q1, fun f q1 _ => by rw [mput_at, if_neg (fun q => q1 q.2)]⟩
theorem KSp.p21 {σ τ : Mem} {v : Int32} (h : KSp σ τ) : KSp σ (mput τ 43 21 v) := h.tr ⟨fun k q1 _ => mput_ne k q1, fun f _ q2 => by rw [mput_at, if_neg (fun q => q2 q.2)]⟩
def DcN (n : Nat) (L : List Nat) (x1 x2 m j q i : Nat) : Prop := ∃ m' k, (m' < m ∨ (m' = m ∧ k < j)) ∧ k < n ∧ CtN n L x1 x2 m' k q i
def WAN (n : Nat) (L : List Nat) (x1 x2 : Nat) (w : Nat → Int32) (m j : Nat) : Prop := ∀ q, q ≤ fullM n → ∃ b, b < 512 ∧ w q = nI b ∧ ∀ i, b.testBit i = true ↔ DcN n L x1 x2 m j q i
theorem pw_lt {i : Nat} (h : i ≤ 8) : 2 ^ i < 512 := by
  have : 2 ^ i ≤ 2 ^ 8 := Nat.pow_le_pow_right (by decide) h
  omega
theorem or512 {a b : Nat} (h1 : a < 512) (h2 : b < 512) : a ||| b < 512 := Nat.or_lt_two_pow (n := 9) h1 h2
section
variable {σ : Mem} {n : Nat} {L : List Nat} {nx : Nat → Nat} {x1 x2 : Nat}
theorem WAN.own (hn : n ≤ 8) (hnx : ∀ d i, (nx d).testBit i = true ↔ i < n ∧ d.testBit i = false ∧ okS (L.map (fun g => g &&& fullM n)) d i) (hne : x1 ≠ x2) {m j i : Nat} : DcN n L x1 x2 m j m i ↔ SpN n L x1 x2 m i := by
  rw [← sp_iff hn hnx hne]
  constructor
  · rintro ⟨m', k, h1, h2, h3⟩
    have h4 := occ_lt h3.2.1
    have h5 := h3.1
    exact ⟨m', k, h2, by omega, h3⟩
  · rintro ⟨m', k, h1, h2, h3⟩
    exact ⟨m', k, Or.inl h2, h1, h3⟩
theorem sp_in (hn : n ≤ 8) (h0 : σ 43 0 = nI n) (hG : GoS n L (σ 46)) (hnx : ∀ d i, (nx d).testBit i = true ↔ i < n ∧ d.testBit i = false ∧ okS (L.map (fun g => g &&& fullM n)) d i) (hx1 : x1 < n) (hx2 : x2 < n) (hne : x1 ≠ x2) {m : Nat} (hm : m < fullM n) {τ : Mem} (hK : KSp σ τ) (hW : WAN n L x1 x2 (τ 59) m 0) : ∃ τ', lp (fun s => M_spansFrom_b2 (nI x1) (nI x2) (nI m) s.1 s.2) fuel (0, τ) = some τ' ∧ KSp σ τ' ∧ τ' 43 = τ 43 ∧ WAN n L x1 x2 (τ' 59) (m + 1) 0 := by
  have hfull := full_lt hn
  have key : ∃ r, lp (fun s => M_spansFrom_b2 (nI x1) (nI x2) (nI m) s.1 s.2) fuel (0, τ) = some r ∧ (KSp σ r ∧ r 43 = τ 43 ∧ WAN n L x1 x2 (r 59) m n) := by
    refine lp_for n (fun k s => s.1 = nI k ∧ KSp σ s.2 ∧ s.2 43 = τ 43 ∧ WAN n L x1 x2 (s.2 59) m k) _ _ 0 (by omega) ⟨rfl, hK, rfl, hW⟩ (by omega) ?_ ?_
    · rintro k ⟨v1, ρ⟩ hk ⟨e1, e2, e3, e4⟩
      have e1 : v1 = nI k := e1
      subst e1
      have e2 : KSp σ ρ := e2
      have e3 : ρ 43 = τ 43 := e3
      have e4 : WAN n L x1 x2 (ρ 59) m k := e4
      left
      have hle := or_le_full (n := n) (m := m) (k := k) (by omega) hk
      obtain ⟨gm, g1, g2, g3⟩ := hG m (by omega)
      have r46 : rd ρ 46 (nI m) = some (nI gm) := by rw [rdT (N := 256) rfl (by omega) (by omega), e2.1 46 (by decide) (by decide), g2]
      obtain ⟨b, b1, b2, b3⟩ := e4 (m ||| 2 ^ k) hle
      obtain ⟨bm, c1, c2, c3⟩ := e4 m (by omega)
      have c3 : ∀ i, bm.testBit i = true ↔ SpN n L x1 x2 m i := fun i => (c3 i).trans (WAN.own hn hnx hne)
      have rN : rd ρ 59 (nI (m ||| 2 ^ k)) = some (nI b) := by rw [rdT (N := 256) rfl (by omega) (by omega), b2]
      have rM : rd ρ 59 (nI m) = some (nI bm) := by rw [rdT (N := 256) rfl (by omega) (by omega), c2]
      have eN : nI m ||| ((1 : Int32) <<< (nI k &&& 31)) = nI (m ||| 2 ^ k) := by rw [xI_bit (by omega), xI_or]
      have d0 : ρ 43 0 = nI n := by rw [e2.2 0 (by decide) (by decide), h0]
      have iG : M_isIn (nI gm) (nI k) = if gm.testBit k = true then 1 else 0 := M_isIn_eq (by omega) (by omega)
      have iX : M_isIn (nI m) (nI x2) = if m.testBit x2 = true then 1 else 0 := M_isIn_eq (by omega) (by omega)
      -- what is added
      have fin : ∀ (add : Nat) (bq45 bq64 : Bool), add < 512 → (if (M_isIn (nI gm) (nI k)) = 0 then false else if (M_isIn (nI m) (nI x2)) = 0 then if nI k = nI x2 then false else true else false : Bool) = bq45 → (if (if bq45 = true then 1 else 0 : Int32) = 0 then false else if nI k = nI x1 then true else false : Bool) = bq64 → ((if bq64 = true then (M_many (nI (m ||| 2 ^ k))).bind (fun vq76 => some (1 <<< (vq76 &&& 31))) else if (if bq45 = true then 1 else 0 : Int32) = 0 then some 0 else (rd ρ 59 (nI m)).bind (fun vq83 => some vq83) : Option (Int32))) = some (nI add) → (∀ i, add.testBit i = true ↔ CtN n L x1 x2 m k (m ||| 2 ^ k) i) → ∃ s2, M_spansFrom_b2 (nI x1) (nI x2) (nI m) (nI k) ρ = some (.inl s2) ∧ (s2.1 = nI (k + 1) ∧ KSp σ s2.2 ∧ s2.2 43 = τ 43 ∧ WAN n L x1 x2 (s2.2 59) m (k + 1)) := fun add bq45 bq64 ha q1 q2 q3 q4 => by
        refine ⟨(nI (k + 1), mput ρ 59 (m ||| 2 ^ k) (nI (b ||| add))), ?_, rfl, e2.p59, ?_, ?_⟩
        · unfold M_spansFrom_b2
          refine ifn ?_ ?_
          · rw [d0]; exact nI_ge hk (by omega)
          refine lti eN ?_
          refine ob r46 ?_
          refine lti q1 ?_
          refine lti rfl ?_
          refine ob rN ?_
          refine lti q2 ?_
          refine ob q3 ?_
          refine ob (a := mput ρ 59 (m ||| 2 ^ k) (nI (b ||| add))) (by rw [wrT (N := 256) rfl (by omega) (by omega), xI_or]) ?_
          exact lti (nI_1 _) rfl
        · show mput ρ 59 (m ||| 2 ^ k) (nI (b ||| add)) 43 = τ 43
          rw [mput_ne 43 (by decide), e3]
        · intro q hq
          show ∃ b', b' < 512 ∧ mput ρ 59 (m ||| 2 ^ k) (nI (b ||| add)) 59 q = nI b' ∧ _
          by_cases cq : q = m ||| 2 ^ k
          · subst cq
            refine ⟨b ||| add, or512 b1 ha, by rw [mput_at, if_pos ⟨rfl, rfl⟩], fun i => ?_⟩
            rw [Nat.testBit_or, Bool.or_eq_true, b3, q4]
            constructor
            · rintro (⟨m', k', u1, u2, u3⟩ | u)
              · exact ⟨m', k', by omega, u2, u3⟩
              · exact ⟨m, k, Or.inr ⟨rfl, by omega⟩, hk, u⟩
            · rintro ⟨m', k', u1, u2, u3⟩
              by_cases z : m' = m ∧ k' = k
              · rw [z.1, z.2] at u3; exact Or.inr u3
              · exact Or.inl ⟨m', k', by omega, u2, u3⟩
          · obtain ⟨b', w1, w2, w3⟩ := e4 q hq
            refine ⟨b', w1, by rw [mput_at, if_neg (fun z => cq z.2), w2], fun i => ?_⟩
            rw [w3]
            constructor
            · rintro ⟨m', k', u1, u2, u3⟩
              exact ⟨m', k', by omega, u2, u3⟩
            · rintro ⟨m', k', u1, u2, u3⟩
              refine ⟨m', k', ?_, u2, u3⟩
              by_cases z : m' = m ∧ k' = k
              · rw [z.1, z.2] at u3; exact absurd u3.1 cq
              · omega
      show ∃ s2, M_spansFrom_b2 (nI x1) (nI x2) (nI m) (nI k) ρ = some (.inl s2) ∧ _
      by_cases hc : Occ n L m k ∧ ¬ m.testBit x2 = true ∧ k ≠ x2
      · obtain ⟨o1, o2, o3⟩ := hc
        have q1 : (if (M_isIn (nI gm) (nI k)) = 0 then false else if (M_isIn (nI m) (nI x2)) = 0 then if nI k = nI x2 then false else true else false : Bool) = true := by
          rw [iG, if_pos ((g3 k).mpr o1), iX, if_neg o2, if_neg (by decide), if_pos rfl, if_neg (nI_ne (by omega) (by omega) o3)]
        by_cases ck : k = x1
        · refine fin (2 ^ pc8 (m ||| 2 ^ k)) true true (pw_lt (pc_le _ (by omega))) q1 ?_ ?_ (fun i => ?_)
          · rw [if_neg (by decide), if_pos (by rw [ck])]
          · refine ifp rfl ?_
            refine ob (M_many_eq (by omega)) ?_
            have := pc_le (m ||| 2 ^ k) (by omega)
            show some _ = some _
            rw [xI_bit (by omega)]
          · rw [Nat.testBit_two_pow, decide_eq_true_iff]
            constructor
            · intro e; exact ⟨rfl, o1, o2, o3, Or.inl ⟨ck, e.symm⟩⟩
            · rintro ⟨-, -, -, -, u | u⟩
              · exact u.2.symm
              · exact absurd ck u.1
        · refine fin bm true false c1 q1 ?_ ?_ (fun i => ?_)
          · rw [if_neg (by decide), if_neg (nI_ne (by omega) (by omega) ck)]
          · refine ifn (by decide) ?_
            refine ifn (by decide) ?_
            exact ob rM rfl
          · rw [c3]
            constructor
            · intro e; exact ⟨rfl, o1, o2, o3, Or.inr ⟨ck, e⟩⟩
            · rintro ⟨-, -, -, -, u | u⟩
              · exact absurd u.1 ck
              · exact u.2
      · refine fin 0 false false (by decide) ?_ ?_ ?_ (fun i => ?_)
        · by_cases o1 : gm.testBit k = true
          · rw [iG, if_pos o1, if_neg (by decide), iX]
            by_cases o2 : m.testBit x2 = true
            · rw [if_pos o2, if_neg (by decide)]
            · rw [if_neg o2, if_pos rfl]
              by_cases o3 : k = x2
              · rw [if_pos (by rw [o3])]
              · exact absurd ⟨(g3 k).mp o1, o2, o3⟩ hc
          · rw [iG, if_neg o1, if_pos rfl]
        · rfl
        · rfl
        · rw [Nat.zero_testBit]
          constructor
          · intro e; cases e
          · rintro ⟨-, u1, u2, u3, -⟩
            exact absurd ⟨u1, u2, u3⟩ hc
    · rintro ⟨v1, ρ⟩ ⟨e1, e2, e3, e4⟩
      have e1 : v1 = nI n := e1
      subst e1
      have e2 : KSp σ ρ := e2
      refine ⟨ρ, ?_, e2, e3, e4⟩
      have d0 : ρ 43 0 = nI n := by rw [e2.2 0 (by decide) (by decide), h0]
      show M_spansFrom_b2 (nI x1) (nI x2) (nI m) (nI n) ρ = _
      unfold M_spansFrom_b2
      exact ifp (by rw [d0]; exact nI_le (Nat.le_refl _) (by omega)) rfl
  obtain ⟨r, k1, k2, k3, k4⟩ := key
  refine ⟨r, k1, k2, k3, fun q hq => ?_⟩
  obtain ⟨b, b1, b2, b3⟩ := k4 q hq
  refine ⟨b, b1, b2, fun i => ?_⟩
  rw [b3]
  constructor
  · rintro ⟨m', k', u1, u2, u3⟩
    exact ⟨m', k', by omega, u2, u3⟩
  · rintro ⟨m', k', u1, u2, u3⟩
    exact ⟨m', k', by omega, u2, u3⟩
theorem sp_out (hn : n ≤ 8) (hG : GoS n L (σ 46)) (hx2 : x2 < n) {m : Nat} (hm : m < fullM n) {τ : Mem} (hK : KSp σ τ) {b : Nat} (hb : b < 512) (h59 : τ 59 m = nI b) (hbit : ∀ i, b.testBit i = true ↔ SpN n L x1 x2 m i) {E : Nat → Prop} (hE : MMx (τ 43 20) (τ 43 21) E) : ∃ τ', lp (fun s => M_spansFrom_b3 (nI x2) (nI m) s.1 s.2) fuel (0, τ) = some τ' ∧ KSp σ τ' ∧ τ' 59 = τ 59 ∧ MMx (τ' 43 20) (τ' 43 21) (fun s => E s ∨ ∃ i, Occ n L m x2 ∧ SpN n L x1 x2 m i ∧ s = pc8 m - i) := by
  have hfull := full_lt hn
  obtain ⟨gm, g1, g2, g3⟩ := hG m (by omega)
  have iG : M_isIn (nI gm) (nI x2) = if gm.testBit x2 = true then 1 else 0 := M_isIn_eq (by omega) (by omega)
  have r46 : ∀ ρ, KSp σ ρ → rd ρ 46 (nI m) = some (nI gm) := fun ρ e2 => by rw [rdT (N := 256) rfl (by omega) (by omega), e2.1 46 (by decide) (by decide), g2]
  have hpc := pc_le m (by omega)
  by_cases ho : Occ n L m x2
  · have iG1 : ¬ M_isIn (nI gm) (nI x2) = 0 := by rw [iG, if_pos ((g3 x2).mpr ho)]; decide
    have key : ∃ r, lp (fun s => M_spansFrom_b3 (nI x2) (nI m) s.1 s.2) fuel (0, τ) = some r ∧ (KSp σ r ∧ r 59 = τ 59 ∧ MMx (r 43 20) (r 43 21) (fun s => E s ∨ ∃ i, i < 9 ∧ SpN n L x1 x2 m i ∧ s = pc8 m - i)) := by
      refine lp_for 9 (fun j s => s.1 = nI j ∧ KSp σ s.2 ∧ s.2 59 = τ 59 ∧ MMx (s.2 43 20) (s.2 43 21) (fun s => E s ∨ ∃ i, i < j ∧ SpN n L x1 x2 m i ∧ s = pc8 m - i)) _ _ 0 (by omega) ⟨rfl, hK, rfl, hE.congr (fun s => ⟨fun h => Or.inl h, fun h => h.resolve_right (fun ⟨i, hi, _⟩ => by omega)⟩)⟩ (by omega) ?_ ?_
      · rintro j ⟨v1, ρ⟩ hj ⟨e1, e2, e3, e4⟩
        have e1 : v1 = nI j := e1
        subst e1
        have e2 : KSp σ ρ := e2
        have e3 : ρ 59 = τ 59 := e3
        have e4 : MMx (ρ 43 20) (ρ 43 21) (fun s => E s ∨ ∃ i, i < j ∧ SpN n L x1 x2 m i ∧ s = pc8 m - i) := e4
        left
        have r59 : rd ρ 59 (nI m) = some (nI b) := by rw [rdT (N := 256) rfl (by omega) (by omega), e3, h59]
        have iB : M_isIn (nI b) (nI j) = if b.testBit j = true then 1 else 0 := M_isIn_eq (by omega) (by omega)
        have cond : ((if (9 : Int32) ≤ nI j then some false else (rd ρ 46 (nI m)).bind (fun vq104 => if (M_isIn vq104 (nI x2)) = 0 then some false else some true) : Option (Bool))) = some true := by
          refine ifn (show ¬ (9 : Int32) ≤ nI j from nI_ge (b := 9) hj (by omega)) ?_
          refine ob (r46 ρ e2) ?_
          exact ifn iG1 rfl
        show ∃ s2, M_spansFrom_b3 (nI x2) (nI m) (nI j) ρ = some (.inl s2) ∧ _
        by_cases cb : b.testBit j = true
        · have hS := (hbit j).mp cb
          have hi := sp_le hn hS
          have e4' := e4.add (s := pc8 m - j) (by omega)
          refine ⟨(nI (j + 1), mput (mput ρ 43 20 (if (if ρ 43 20 = -1 then true else if ρ 43 20 ≤ nI (pc8 m - j) then false else true : Bool) = true then nI (pc8 m - j) else ρ 43 20)) 43 21 (if nI (pc8 m - j) ≤ ρ 43 21 then ρ 43 21 else nI (pc8 m - j))), ?_, rfl, e2.p20.p21, ?_, ?_⟩
          · unfold M_spansFrom_b3
            refine ob cond ?_
            refine ifp rfl ?_
            refine ob r59 ?_
            refine ob (a := mput (mput ρ 43 20 (if (if ρ 43 20 = -1 then true else if ρ 43 20 ≤ nI (pc8 m - j) then false else true : Bool) = true then nI (pc8 m - j) else ρ 43 20)) 43 21 (if nI (pc8 m - j) ≤ ρ 43 21 then ρ 43 21 else nI (pc8 m - j))) ?_ (lti (nI_1 _) rfl)
            refine ifn (by rw [iB, if_pos cb]; decide) ?_
            refine ob (M_many_eq (by omega)) ?_
            refine lti (b := nI (pc8 m - j)) (pk_sub (by omega)) ?_
            refine lti rfl ?_
            refine lti rfl ?_
            refine lti rfl ?_
            refine lti (b := if nI (pc8 m - j) ≤ ρ 43 21 then ρ 43 21 else nI (pc8 m - j)) ?_ (lti rfl rfl)
            have z3 : ∀ u, mput ρ 43 20 u 43 21 = ρ 43 21 := fun u => by rw [mput_at, if_neg (fun q => absurd q.2 (by decide))]
            rw [z3]
          · have z5 : ∀ u v, mput (mput ρ 43 20 u) 43 21 v 59 = τ 59 := fun u v => by rw [mput_ne 59 (by decide), mput_ne 59 (by decide), e3]
            dsimp only
            rw [z5]
          · have z1 : ∀ u v, mput (mput ρ 43 20 u) 43 21 v 43 20 = u := fun u v => by rw [mput_at, if_neg (fun q => absurd q.2 (by decide)), mput_at, if_pos ⟨rfl, rfl⟩]
            have z2 : ∀ u v, mput (mput ρ 43 20 u) 43 21 v 43 21 = v := fun u v => by rw [mput_at, if_pos ⟨rfl, rfl⟩]
            dsimp only
            rw [z1, z2]
            refine e4'.congr (fun s => ?_)
            constructor
            · rintro ((h | ⟨i, i1, i2, i3⟩) | h)
              · exact Or.inl h
              · exact Or.inr ⟨i, by omega, i2, i3⟩
              · exact Or.inr ⟨j, by omega, hS, h⟩
            · rintro (h | ⟨i, i1, i2, i3⟩)
              · exact Or.inl (Or.inl h)
              · by_cases z : i = j
                · exact Or.inr (by rw [i3, z])
                · exact Or.inl (Or.inr ⟨i, by omega, i2, i3⟩)
        · refine ⟨(nI (j + 1), ρ), ?_, rfl, e2, e3, e4.congr (fun s => ?_)⟩
          · unfold M_spansFrom_b3
            refine ob cond ?_
            refine ifp rfl ?_
            refine ob r59 ?_
            refine ob (a := ρ) (ifp (by rw [iB, if_neg cb]) rfl) ?_
            exact lti (nI_1 _) rfl
          · constructor
            · rintro (h | ⟨i, i1, i2, i3⟩)
              · exact Or.inl h
              · exact Or.inr ⟨i, by omega, i2, i3⟩
            · rintro (h | ⟨i, i1, i2, i3⟩)
              · exact Or.inl h
              · refine Or.inr ⟨i, ?_, i2, i3⟩
                have : i ≠ j := fun z => cb (by rw [← z]; exact (hbit i).mpr i2)
                omega
      · rintro ⟨v1, ρ⟩ ⟨e1, e2, e3, e4⟩
        have e1 : v1 = nI 9 := e1
        subst e1
        refine ⟨ρ, ?_, e2, e3, e4⟩
        show M_spansFrom_b3 (nI x2) (nI m) (nI 9) ρ = _
        unfold M_spansFrom_b3
        refine ob (a := false) (ifp (by decide) rfl) ?_
        exact ifn (by decide) rfl
    obtain ⟨r, k1, k2, k3, k4⟩ := key
    refine ⟨r, k1, k2, k3, k4.congr (fun s => ?_)⟩
    constructor
    · rintro (h | ⟨i, i1, i2, i3⟩)
      · exact Or.inl h
      · exact Or.inr ⟨i, ho, i2, i3⟩
    · rintro (h | ⟨i, i1, i2, i3⟩)
      · exact Or.inl h
      · exact Or.inr ⟨i, by have := sp_le hn i2; omega, i2, i3⟩
  · refine ⟨τ, ?_, hK, rfl, hE.congr (fun s => ⟨fun h => Or.inl h, fun h => h.resolve_right (fun ⟨i, hi, _⟩ => ho hi)⟩)⟩
    refine lp_fu (n := 1) ?_ (by omega)
    refine lp_stop ?_
    show M_spansFrom_b3 (nI x2) (nI m) 0 τ = some (.inr τ)
    unfold M_spansFrom_b3
    refine ob (a := false) ?_ (ifn (by decide) rfl)
    refine ifn (by decide) ?_
    refine ob (r46 τ hK) ?_
    refine ifp ?_ rfl
    rw [iG, if_neg (fun h => ho ((g3 x2).mp h))]
end

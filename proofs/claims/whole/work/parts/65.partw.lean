theorem filt_len {p q : Nat → Bool} : ∀ l : List Nat, (∀ x ∈ l, p x = true → q x = true) → (l.filter p).length ≤ (l.filter q).length := by
  intro l
  induction l with
  | nil => intro _; simp
  | cons x l ih =>
    intro h
    have h1 := ih (fun y hy => h y (by simp [hy]))
    cases hp : p x with
    | false =>
      cases hq : q x with
      | false => simp [List.filter_cons, hp, hq]; exact h1
      | true => simp [List.filter_cons, hp, hq]; omega
    | true =>
      have hq := h x (by simp) hp
      simp [List.filter_cons, hp, hq]; exact h1
theorem filt_eq {p q : Nat → Bool} : ∀ l : List Nat, (∀ x ∈ l, p x = true → q x = true) → (l.filter q).length ≤ (l.filter p).length → ∀ x ∈ l, q x = true → p x = true := by
  intro l
  induction l with
  | nil => intro _ _ x hx; simp at hx
  | cons y l ih =>
    intro h hl x hx hqx
    have hsub : ∀ x ∈ l, p x = true → q x = true := fun z hz => h z (by simp [hz])
    have h1 := filt_len l hsub
    cases hp : p y with
    | false =>
      cases hq : q y with
      | false =>
        simp [List.filter_cons, hp, hq] at hl
        rcases List.mem_cons.mp hx with rfl | hx
        · rw [hq] at hqx; cases hqx
        · exact ih hsub hl x hx hqx
      | true =>
        simp [List.filter_cons, hp, hq] at hl
        omega
    | true =>
      have hq := h y (by simp) hp
      simp [List.filter_cons, hp, hq] at hl
      rcases List.mem_cons.mp hx with rfl | hx
      · exact hp
      · exact ih hsub hl x hx hqx
theorem pc_sub_eq {a b : Nat} (hb : b < 256) (hs : subM a b) (hp : pc8 b ≤ pc8 a) : a = b := by
  apply subM_anti hs
  intro i hi
  have h8 := bit_lt8 hb hi
  exact filt_eq (p := fun k => a.testBit k) (q := fun k => b.testBit k) (List.range 8) (fun x _ h => hs x h) hp i (List.mem_range.mpr h8) hi
theorem sub_lt {a b : Nat} (hs : subM a b) (hne : a ≠ b) : a < b := by
  have h1 : a ≤ b := Nat.le_of_testBit hs
  omega
theorem sd_sub {a b : Nat} : sd a b = 0 ↔ subM a b := sd0_iff
/-- the marks of the nodes -/
def NdS (kd : Nat → Bool) (ch : Nat → List Nat) (st : Nat → Nat) (d root X : Nat) : Prop := ∃ N ∈ ndD ch d root, X = st N
/-- which node is within which: a node within N's set is N or below one of N's parts -/
theorem nd_within {kd : Nat → Bool} {ch : Nat → List Nat} {st : Nat → Nat} : ∀ (d id : Nat), WfD kd ch st d id → ∀ N ∈ ndD ch d id, ∀ M ∈ ndD ch d id, subM (st M) (st N) → M = N ∨ ∃ c ∈ ch N, 8 ≤ c ∧ subM (st M) (st c) := by
  intro d
  induction d with
  | zero => intro id h; exact absurd h (by simp [WfD])
  | succ d ih =>
    intro id hwd N hN M hM hs
    by_cases h8 : id < 8
    · unfold ndD at hN; rw [if_pos h8] at hN; simp at hN
    · have hid : 8 ≤ id := by omega
      have hw : Wf kd ch st id := ⟨_, hwd⟩
      obtain ⟨w1, -, w3, w4, w5⟩ := (Wf_node hid).mp hw
      have hch : ∀ c ∈ ch id, WfD kd ch st d c := by
        unfold WfD at hwd; rw [if_neg h8] at hwd; exact hwd.2.2.2.2
      have big : ∀ c, c ∈ ch id → ∀ Q, Q ∈ ndD ch d c → 8 ≤ c := by
        intro c hc Q hQ
        cases d with
        | zero => simp [ndD] at hQ
        | succ d =>
          by_cases hc8 : c < 8
          · unfold ndD at hQ; rw [if_pos hc8] at hQ; simp at hQ
          · omega
      have hnodup : (ch id).Nodup := Dj_nodup w4 (fun c hc => Wf_ne0 c (w5 c hc))
      rcases (nd_in h8).mp hN with rfl | ⟨c, hc, hN⟩
      · rcases (nd_in h8).mp hM with rfl | ⟨c2, hc2, hM⟩
        · exact Or.inl rfl
        · exact Or.inr ⟨c2, hc2, big c2 hc2 M hM, (nd_sub d c2 (hch c2 hc2) M hM).1⟩
      · obtain ⟨n1, n2, n3⟩ := nd_sub d c (hch c hc) N hN
        rcases (nd_in h8).mp hM with rfl | ⟨c2, hc2, hM⟩
        · exfalso
          obtain ⟨b, hb, hne⟩ := two_len w1 hnodup c
          obtain ⟨i, hi⟩ := Nat.exists_testBit_of_ne_zero (Wf_ne0 b (w5 b hb))
          have h1 : (st M).testBit i = true := by rw [w3, orL_bit]; exact ⟨b, hb, hi⟩
          exact hne (Dj_uniq w4 hb hc (and_ne0.mpr ⟨i, hi, n1 i (hs i h1)⟩))
        · obtain ⟨m1, m2, m3⟩ := nd_sub d c2 (hch c2 hc2) M hM
          obtain ⟨i, hi⟩ := Nat.exists_testBit_of_ne_zero (Wf_ne0 M m2)
          have e := Dj_uniq w4 hc2 hc (and_ne0.mpr ⟨i, m1 i hi, n1 i (hs i hi)⟩)
          subst e
          exact ih c2 (hch c2 hc) N hN M hM hs
theorem nd_child {kd : Nat → Bool} {ch : Nat → List Nat} {st : Nat → Nat} : ∀ (d id : Nat), WfD kd ch st d id → ∀ N ∈ ndD ch d id, ∀ c ∈ ch N, 8 ≤ c → c ∈ ndD ch d id := by
  intro d
  induction d with
  | zero => intro id h; exact absurd h (by simp [WfD])
  | succ d ih =>
    intro id hwd N hN c hc hc8
    by_cases h8 : id < 8
    · unfold ndD at hN; rw [if_pos h8] at hN; simp at hN
    · have hch : ∀ c ∈ ch id, WfD kd ch st d c := by
        unfold WfD at hwd; rw [if_neg h8] at hwd; exact hwd.2.2.2.2
      rw [nd_in h8]
      rcases (nd_in h8).mp hN with rfl | ⟨c2, hc2, hN⟩
      · right
        refine ⟨c, hc, ?_⟩
        have := hch c hc
        cases d with
        | zero => exact absurd this (by simp [WfD])
        | succ d => rw [nd_in (by omega)]; exact Or.inl rfl
      · exact Or.inr ⟨c2, hc2, ih c2 (hch c2 hc2) N hN c hc hc8⟩
theorem M_partWith_eq {τ : Mem} {kd : Nat → Bool} {ch : Nat → List Nat} {st : Nat → Nat} {d root n : Nat} (hn : n ≤ 8) (hwd : WfD kd ch st d root) (hroot : st root = fullM n) (hN54 : Mk01 n (τ 54) (NdS kd ch st d root)) {N : Nat} (hN : N ∈ ndD ch d root) {c : Nat} (hc : c ∈ ch N) {k : Nat} (hk : (st c).testBit k = true) : M_partWith (nI (st N)) (nI k) τ = some (nI (st c)) := by
  have hfull := full_lt hn
  obtain ⟨n1, n2, n3⟩ := nd_sub d root hwd N hN
  obtain ⟨w1, -, w3, w4, w5⟩ := (Wf_node n3).mp n2
  have hXf : st N ≤ fullM n := by rw [← hroot]; exact Nat.le_of_testBit n1
  have hcN : subM (st c) (st N) := fun i hi => by rw [w3, orL_bit]; exact ⟨c, hc, hi⟩
  have hcf : st c ≤ st N := Nat.le_of_testBit hcN
  have hk8 : k < 8 := bit_lt8 (by omega) hk
  -- a node set within N, not N's, that has k, is within c
  have hcand : ∀ Y, Y < st N → NdS kd ch st d root Y → subM Y (st N) → Y.testBit k = true → subM Y (st c) := by
    rintro Y hY ⟨M, hM, rfl⟩ hs hYk
    rcases nd_within d root hwd N hN M hM hs with rfl | ⟨c2, hc2, -, h2⟩
    · omega
    · have e := Dj_uniq w4 hc2 hc (and_ne0.mpr ⟨k, h2 k hYk, hk⟩)
      rw [← e]; exact h2
  have h2k : subM (2 ^ k) (st c) := fun i hi => by
    rw [Nat.testBit_two_pow] at hi; simp at hi; rw [← hi]; exact hk
  have h2k256 : 2 ^ k < 256 := by
    have : 2 ^ k ≤ st c := Nat.le_of_testBit h2k
    omega
  have hlt : st c < st N := by
    have hne : st c ≠ st N := by
      intro e
      have hnodup : (ch N).Nodup := Dj_nodup w4 (fun c hc => Wf_ne0 c (w5 c hc))
      obtain ⟨b, hb, hbc⟩ := two_len w1 hnodup c
      obtain ⟨i, hi⟩ := Nat.exists_testBit_of_ne_zero (Wf_ne0 b (w5 b hb))
      exact hbc (Dj_uniq w4 hb hc (and_ne0.mpr ⟨i, hi, by rw [e, w3, orL_bit]; exact ⟨b, hb, hi⟩⟩))
    omega
  have key : ∃ r, lp (fun s => M_partWith_b1 (nI (st N)) (nI k) τ s.1 s.2) fuel (nI (2 ^ k), nI 0) = some r ∧ r = nI (st c) := by
    refine lp_for (st N) (fun j s => ∃ b, s = (nI b, nI j) ∧ b < 256 ∧ subM b (st c) ∧ (∀ Y, Y < j → NdS kd ch st d root Y → subM Y (st N) → Y.testBit k = true → pc8 Y ≤ pc8 b) ∧ subM (2 ^ k) b) _ _ 0 (by omega) ⟨2 ^ k, rfl, h2k256, h2k, fun Y h => by omega, fun i hi => hi⟩ (by omega) ?_ ?_
    · rintro j s hj ⟨b, rfl, hb, hbs, hbm, hb2⟩
      left
      obtain ⟨s1, s2⟩ := hN54 j (by omega)
      have hpj := pc_le j (by omega)
      have hpb := pc_le b hb
      have hsd := sd_lt (a := j) (X := st N) (by omega)
      show ∃ s2, M_partWith_b1 (nI (st N)) (nI k) τ (nI b) (nI j) = some (.inl s2) ∧ _
      unfold M_partWith_b1
      simp only [lt]
      have c0 : ¬ nI (st N) ≤ nI j := nI_ge hj (by omega)
      rw [if_neg c0, rd_nI (by show j < 256; omega) (by decide), M_many_eq (m := j) (by omega), M_many_eq hb, M_isIn_eq (by omega) (by omega), xI_diff]
      simp only [Option.bind_some]
      have d1 : nI (sd j (st N)) = 0 ↔ subM j (st N) := by
        rw [← sd_sub]; exact nI_eq (a := sd j (st N)) (b := 0) (by omega) (by omega)
      have d2 : nI (pc8 j) ≤ nI (pc8 b) ↔ pc8 j ≤ pc8 b := nI_leI (by omega) (by omega)
      have d3 : τ 54 j = 1 ↔ NdS kd ch st d root j := s2
      simp only [d1, d2]
      by_cases hC : NdS kd ch st d root j ∧ subM j (st N) ∧ j.testBit k = true
      · obtain ⟨q1, q2, q3⟩ := hC
        rw [d3.mpr q1]
        by_cases hgt : pc8 j ≤ pc8 b
        · refine ⟨(nI b, nI (j + 1)), ?_, b, rfl, hb, hbs, fun Y hY => ?_, hb2⟩
          · simp [d1, d2, q2, q3, hgt, nI_1]
          · by_cases e : Y = j
            · subst e; exact fun _ _ _ => hgt
            · exact hbm Y (by omega)
        · refine ⟨(nI j, nI (j + 1)), ?_, j, rfl, by omega, hcand j hj q1 q2 q3, fun Y hY a1 a2 a3 => ?_, fun i hi => ?_⟩
          · simp [d1, d2, q2, q3, hgt, nI_1]
          · by_cases e : Y = j
            · rw [e]; exact Nat.le_refl _
            · have := hbm Y (by omega) a1 a2 a3; omega
          · rw [Nat.testBit_two_pow] at hi; simp at hi; rw [← hi]; exact q3
      · refine ⟨(nI b, nI (j + 1)), ?_, b, rfl, hb, hbs, fun Y hY => ?_, hb2⟩
        · by_cases q1 : τ 54 j = 1
          · by_cases q2 : subM j (st N)
            · have q3 : ¬ j.testBit k = true := fun q3 => hC ⟨d3.mp q1, q2, q3⟩
              simp [d1, d2, q1, q2, q3, nI_1]
            · simp [d1, d2, q1, q2, nI_1]
          · simp [d1, d2, q1, nI_1]
        · by_cases e : Y = j
          · subst e; exact fun a1 a2 a3 => absurd ⟨a1, a2, a3⟩ hC
          · exact hbm Y (by omega)
    · rintro s ⟨b, rfl, hb, hbs, hbm, hb2⟩
      refine ⟨nI b, ?_, ?_⟩
      · show M_partWith_b1 (nI (st N)) (nI k) τ (nI b) (nI (st N)) = _
        unfold M_partWith_b1
        rw [if_pos (nI_le (Nat.le_refl _) (by omega))]
      · congr 1
        by_cases hc8 : c < 8
        · have e := (Wf_leaf hc8).mp (w5 c hc)
          have hkc : k = c := by rw [e, Nat.testBit_two_pow] at hk; simp at hk; exact hk.symm
          apply subM_anti hbs
          rw [e, ← hkc]; exact hb2
        · exact pc_sub_eq (by omega) hbs (hbm (st c) hlt ⟨c, nd_child d root hwd N hN c hc (by omega), rfl⟩ hcN hk)
  obtain ⟨r, er, rfl⟩ := key
  unfold M_partWith
  simp only [lt]
  rw [xI_bit (by omega)]
  show (lp _ fuel (nI (2 ^ k), nI 0)).bind _ = _
  rw [er]; rfl

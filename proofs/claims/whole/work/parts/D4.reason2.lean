theorem shl2 : ∀ j, j < 10 → (2 : Int32) <<< (nI j &&& 31) = nI (2 ^ (j + 1)) := by decide +kernel
theorem RP_mono {n : Nat} {G : Nat → Nat} {P Q : Nat → Prop} (h : ∀ g, g < 10 → P g → Q g) {r : List Nat} (hr : RP n G Q r) : RP n G P r := ⟨hr.1, hr.2.1, fun g hg hp => hr.2.2 g hg (h g hg hp)⟩
theorem cnt_rp {n : Nat} {G : Nat → Nat} {P : Nat → Prop} {bs : Nat} (hn : n ≤ 8) (h : ∀ g, g < 10 → (bs.testBit g = true ↔ P g)) : cnt n G bs 0 = 0 ↔ ¬ ∃ r, RP n G P r := by
  have h1 := cnt_pos (n := n) (G := G) (bs := bs) (more := 0) hn
  constructor
  · rintro e ⟨r, hr⟩
    have := h1.mpr ⟨r, (RP_rg h r).mpr hr⟩
    omega
  · intro hno
    exact Classical.byContradiction (fun q => by
      obtain ⟨r, hr⟩ := h1.mp (by omega)
      exact hno ⟨r, (RP_rg h r).mp hr⟩)
theorem wo_bit {left i j g : Nat} : (sd left (2 ^ j) ||| 2 ^ i).testBit g = true ↔ (g = i ∨ (left.testBit g = true ∧ g ≠ j)) := by
  rw [Nat.testBit_or, sd_bit, Nat.testBit_two_pow, Nat.testBit_two_pow]
  simp only [Bool.or_eq_true, Bool.and_eq_true, Bool.not_eq_true', decide_eq_true_iff, decide_eq_false_iff_not]
  constructor
  · rintro (⟨a, b⟩ | b)
    · exact Or.inr ⟨a, fun e => b e.symm⟩
    · exact Or.inl b.symm
  · rintro (b | ⟨a, b⟩)
    · exact Or.inr b.symm
    · exact Or.inl ⟨a, fun e => b e.symm⟩
theorem and_full_bit {a k b : Nat} : (a &&& fullM k).testBit b = true ↔ (a.testBit b = true ∧ b < k) := by
  rw [Nat.testBit_and, Bool.and_eq_true, full_bit, decide_eq_true_iff]
theorem rsF_drop {n : Nat} {G : Nat → Nat} {i j : Nat} (hn : n ≤ 8) (hi : i < 10) : ∀ (k left : Nat), j + 1 + k ≤ i → (∀ b, left.testBit b = true → b < i) → (¬ ∃ r, RP n G (fun g => g = i ∨ (left.testBit g = true ∧ g < j + 1)) r) → rsF n G i k left = left &&& fullM (i - k)
  | 0, left, _, hb, _ => by
    show left = _
    rw [Nat.sub_zero]
    apply Nat.eq_of_testBit_eq
    intro b
    cases q : left.testBit b
    · cases q2 : (left &&& fullM i).testBit b
      · rfl
      · rw [and_full_bit, q] at q2; cases q2.1
    · exact (and_full_bit.mpr ⟨q, hb b q⟩).symm
  | k + 1, left, hk, hb, hno => by
    show rsF n G i k (rsS n G i left (i - (k + 1))) = _
    have hbit : ∀ b, (rsS n G i left (i - (k + 1))).testBit b = true ↔ (left.testBit b = true ∧ b ≠ i - (k + 1)) := fun b => by
      by_cases q : left.testBit (i - (k + 1)) = true
      · have hz : cnt n G (sd left (2 ^ (i - (k + 1))) ||| 2 ^ i) 0 = 0 := by
          rw [cnt_rp hn (fun g _ => wo_bit)]
          rintro ⟨r, hr⟩
          refine hno ⟨r, RP_mono (fun g _ hp => ?_) hr⟩
          rcases hp with hp | ⟨hp1, hp2⟩
          · exact Or.inl hp
          · exact Or.inr ⟨hp1, by omega⟩
        have e : rsS n G i left (i - (k + 1)) = sd left (2 ^ (i - (k + 1))) := if_pos ⟨q, hz⟩
        rw [e, sd_bit, Nat.testBit_two_pow]
        simp only [Bool.and_eq_true, Bool.not_eq_true', decide_eq_false_iff_not]
        exact ⟨fun ⟨a, b⟩ => ⟨a, fun e => b e.symm⟩, fun ⟨a, b⟩ => ⟨a, fun e => b e.symm⟩⟩
      · have e : rsS n G i left (i - (k + 1)) = left := if_neg (fun w => q w.1)
        rw [e]
        exact ⟨fun a => ⟨a, fun e => q (by rw [← e]; exact a)⟩, fun a => a.1⟩
    rw [rsF_drop (j := j) hn hi k _ (by omega) (fun b h => hb b ((hbit b).mp h).1) ?_]
    · apply Nat.eq_of_testBit_eq
      intro b
      have h1 : (rsS n G i left (i - (k + 1)) &&& fullM (i - k)).testBit b = true ↔ (left &&& fullM (i - (k + 1))).testBit b = true := by
        rw [and_full_bit, and_full_bit, hbit]
        constructor
        · rintro ⟨⟨a, c⟩, d⟩; exact ⟨a, by omega⟩
        · rintro ⟨a, c⟩; exact ⟨⟨a, by omega⟩, by omega⟩
      cases q1 : (rsS n G i left (i - (k + 1)) &&& fullM (i - k)).testBit b
      · cases q2 : (left &&& fullM (i - (k + 1))).testBit b
        · rfl
        · rw [h1.mpr q2] at q1; cases q1
      · exact (h1.mp q1).symm
    · rintro ⟨r, hr⟩
      refine hno ⟨r, RP_mono (fun g _ hp => ?_) hr⟩
      rcases hp with hp | ⟨hp1, hp2⟩
      · exact Or.inl hp
      · exact Or.inr ⟨(hbit g).mpr ⟨hp1, by omega⟩, hp2⟩
theorem tst_bit {a k : Nat} (ha : a < 2 ^ 31) (hk : k < 32) : ((nI a >>> (nI k &&& 31)) &&& 1 = 0) ↔ a.testBit k = false := by
  rw [xI_tst ha hk]
  cases a.testBit k
  · simp; rfl
  · simp; decide
section
variable {σ : Mem} {n : Nat} {G : Nat → Nat} {c : Nat}
/- the trial by the groups behind j -/
theorem reason_in (hn : n ≤ 8) {i j left : Nat} (hi : i < 10) (hji : j < i) (hlt : left < 1024) (hbi : ∀ b, left.testBit b = true → b < i) (hG : ∀ g, g < i → σ 1 g = nI (G g) ∧ G g < 256) (h32 : TP σ 32 n G (fun g => g = i ∨ (left.testBit g = true ∧ g < j))) : ∃ v τ, lp (fun s => O_reason_b1 (nI i) (nI left) s.1 s.2.1 s.2.2) fuel (1, nI (j + 1), σ) = some (v, τ) ∧ TW τ 32 ∧ (∀ k, (k < 32 ∨ 42 < k) → τ k = σ k) ∧ ((v = 1 ∧ ∃ r, RP n G (fun g => g = i ∨ (left.testBit g = true ∧ g ≠ j)) r) ∨ (v = 0 ∧ ¬ ∃ r, RP n G (fun g => g = i ∨ (left.testBit g = true ∧ g ≠ j)) r)) := by
  have key : ∃ r, lp (fun s => O_reason_b1 (nI i) (nI left) s.1 s.2.1 s.2.2) fuel (1, nI (j + 1), σ) = some r ∧ ∃ v τ, r = (v, τ) ∧ TW τ 32 ∧ (∀ k, (k < 32 ∨ 42 < k) → τ k = σ k) ∧ ((v = 1 ∧ ∃ r, RP n G (fun g => g = i ∨ (left.testBit g = true ∧ g ≠ j)) r) ∨ (v = 0 ∧ ¬ ∃ r, RP n G (fun g => g = i ∨ (left.testBit g = true ∧ g ≠ j)) r)) := by
    refine lp_for i (fun k s => j + 1 ≤ k ∧ s.2.1 = nI k ∧ (∀ x, (x < 32 ∨ 42 < x) → s.2.2 x = σ x) ∧ ((s.1 = 1 ∧ TP s.2.2 32 n G (fun g => g = i ∨ (left.testBit g = true ∧ g < k ∧ g ≠ j))) ∨ (s.1 = 0 ∧ TW s.2.2 32 ∧ ¬ ∃ r, RP n G (fun g => g = i ∨ (left.testBit g = true ∧ g ≠ j)) r))) _ _ (j + 1) (by omega) ⟨by omega, rfl, fun _ _ => rfl, Or.inl ⟨rfl, h32.congr (fun g _ => ?_)⟩⟩ (by omega) ?_ ?_
    · constructor
      · rintro (a | ⟨a, b⟩)
        · exact Or.inl a
        · exact Or.inr ⟨a, by omega, by omega⟩
      · rintro (a | ⟨a, b, d⟩)
        · exact Or.inl a
        · exact Or.inr ⟨a, by omega⟩
    · intro k s hk ⟨hk1, e, hF, hD⟩
      obtain ⟨v, s2, τ⟩ := s
      simp only at e hF hD
      subst e
      rcases hD with ⟨e1, hT⟩ | ⟨e1, hW, hno⟩
      · subst e1
        left
        have hb : (if nI i ≤ nI k then false else if (1 : Int32) = 0 then false else true : Bool) = true := by
          rw [if_neg (nI_ge hk (by omega))]; exact if_neg (by decide)
        by_cases cb : left.testBit k = true
        · obtain ⟨υ, w, r1, r2, r3⟩ := red_step hT isT32 (show k < 10 by omega) (hG k hk).2
          have hgk : rd τ 1 (nI k) = some (nI (G k)) := by rw [rdT (N := 10) rfl (by omega) (by omega), hF 1 (by omega), (hG k hk).1]
          have hcong : ∀ g, g < 10 → (((g = i ∨ (left.testBit g = true ∧ g < k ∧ g ≠ j)) ∨ g = k) ↔ (g = i ∨ (left.testBit g = true ∧ g < k + 1 ∧ g ≠ j))) := fun g _ => by
            constructor
            · rintro ((a | ⟨a, b, d⟩) | a)
              · exact Or.inl a
              · exact Or.inr ⟨a, by omega, d⟩
              · subst a; exact Or.inr ⟨cb, by omega, by omega⟩
            · rintro (a | ⟨a, b, d⟩)
              · exact Or.inl (Or.inl a)
              · by_cases q : g = k
                · exact Or.inr q
                · exact Or.inl (Or.inr ⟨a, by omega, d⟩)
          have hFυ : ∀ x, (x < 32 ∨ 42 < x) → υ x = σ x := fun x hx => by rw [r2.1 x (by omega)]; exact hF x hx
          rcases r3 with ⟨ev, hT2⟩ | ⟨ev, hW, hno⟩
          · subst ev
            refine ⟨(1, nI (k + 1), υ), ?_, by omega, rfl, hFυ, Or.inl ⟨rfl, hT2.congr hcong⟩⟩
            unfold O_reason_b1
            refine lti hb ?_
            refine ifp rfl ?_
            refine ob (a := (true, υ)) ?_ ?_
            · refine ifn (fun q => by rw [tst_bit (by omega) (by omega)] at q; rw [q] at cb; cases cb) ?_
              refine ob hgk ?_
              refine ob r1 ?_
              refine lti rfl ?_
              refine lti rfl ?_
              exact ifn (show ¬ (1 : Int32) = 0 by decide) rfl
            · refine lti rfl ?_
              refine lti rfl ?_
              refine lti rfl ?_
              exact lti (nI_1 _) rfl
          · subst ev
            refine ⟨(0, nI (k + 1), υ), ?_, by omega, rfl, hFυ, Or.inr ⟨rfl, hW, ?_⟩⟩
            · unfold O_reason_b1
              refine lti hb ?_
              refine ifp rfl ?_
              refine ob (a := (false, υ)) ?_ ?_
              · refine ifn (fun q => by rw [tst_bit (by omega) (by omega)] at q; rw [q] at cb; cases cb) ?_
                refine ob hgk ?_
                refine ob r1 ?_
                refine lti rfl ?_
                refine lti rfl ?_
                exact ifp rfl rfl
              · refine lti rfl ?_
                refine lti rfl ?_
                refine lti rfl ?_
                exact lti (nI_1 _) rfl
            · rintro ⟨r, hr⟩
              refine hno ⟨r, RP_mono (fun g hg hp => ?_) hr⟩
              rcases (hcong g hg).mp hp with a | ⟨a, b, d⟩
              · exact Or.inl a
              · exact Or.inr ⟨a, d⟩
        · refine ⟨(1, nI (k + 1), τ), ?_, by omega, rfl, hF, Or.inl ⟨rfl, hT.congr (fun g _ => ?_)⟩⟩
          · unfold O_reason_b1
            refine lti hb ?_
            refine ifp rfl ?_
            refine ob (a := (true, τ)) ?_ ?_
            · exact ifp ((tst_bit (by omega) (by omega)).mpr (by simpa using cb)) rfl
            · refine lti rfl ?_
              refine lti rfl ?_
              refine lti rfl ?_
              exact lti (nI_1 _) rfl
          · constructor
            · rintro (a | ⟨a, b, d⟩)
              · exact Or.inl a
              · exact Or.inr ⟨a, by omega, d⟩
            · rintro (a | ⟨a, b, d⟩)
              · exact Or.inl a
              · refine Or.inr ⟨a, ?_, d⟩
                by_cases q : g = k
                · subst q; exact absurd a cb
                · omega
      · subst e1
        right
        refine ⟨(0, τ), ?_, 0, τ, rfl, hW, hF, Or.inr ⟨rfl, hno⟩⟩
        unfold O_reason_b1
        refine lti (b := false) ?_ (ifn (by decide) rfl)
        rw [if_neg (nI_ge hk (by omega))]; exact if_pos rfl
    · intro s ⟨hk1, e, hF, hD⟩
      obtain ⟨v, s2, τ⟩ := s
      simp only at e hF hD
      subst e
      have hex : O_reason_b1 (nI i) (nI left) v (nI i) τ = some (.inr (v, τ)) := by
        unfold O_reason_b1
        refine lti (b := false) ?_ (ifn (by decide) rfl)
        exact if_pos (nI_le (Nat.le_refl _) (by omega))
      rcases hD with ⟨e1, hT⟩ | ⟨e1, hW, hno⟩
      · refine ⟨_, hex, v, τ, rfl, hT.tw, hF, Or.inl ⟨e1, ?_⟩⟩
        obtain ⟨r, hr⟩ := hT.ex
        refine ⟨r, RP_mono (fun g _ hp => ?_) hr⟩
        rcases hp with a | ⟨a, b⟩
        · exact Or.inl a
        · exact Or.inr ⟨a, hbi g a, b⟩
      · exact ⟨_, hex, v, τ, rfl, hW, hF, Or.inr ⟨e1, hno⟩⟩
  obtain ⟨r, k1, v, τ, k2, k3⟩ := key
  exact ⟨v, τ, by rw [k1, k2], k3⟩
end

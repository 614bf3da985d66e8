def SureB (n : Nat) (L : List Nat) (X : Nat) : Prop := two X ∧ ∀ r, Rw n L r → Cons X r
theorem sd_ne0 {a X : Nat} : sd a X ≠ 0 ↔ ∃ i, a.testBit i = true ∧ X.testBit i = false := by
  rw [Ne, sd0_iff]
  constructor
  · intro h
    simp only [Classical.not_forall] at h
    obtain ⟨k, hk, hx⟩ := h
    exact ⟨k, hk, by simpa using hx⟩
  · rintro ⟨i, h1, h2⟩ h
    have := h i h1; rw [h2] at this; cases this
theorem M_areCrossing_eq {a b : Nat} (ha : a < 256) (hb : b < 256) : (M_areCrossing (nI a) (nI b) = 0 ∧ ¬ Crs a b) ∨ (M_areCrossing (nI a) (nI b) = 1 ∧ Crs a b) := by
  have h1 : a &&& b < 256 := and_lt256 hb
  have h2 := sd_lt (X := b) ha
  have h3 := sd_lt (X := a) hb
  unfold M_areCrossing Crs
  simp only [lt]
  rw [xI_and, xI_diff, xI_diff, ← sd_ne0, ← sd_ne0]
  have d1 : nI (a &&& b) = 0 ↔ a &&& b = 0 := nI_eq (a := a &&& b) (b := 0) (by omega) (by omega)
  have d2 : nI (sd a b) = 0 ↔ sd a b = 0 := nI_eq (a := sd a b) (b := 0) (by omega) (by omega)
  have d3 : nI (sd b a) = 0 ↔ sd b a = 0 := nI_eq (a := sd b a) (b := 0) (by omega) (by omega)
  simp only [d1, d2, d3]
  by_cases c1 : a &&& b = 0 <;> by_cases c2 : sd a b = 0 <;> by_cases c3 : sd b a = 0 <;> simp [c1, c2, c3]
/-- an array of marks 0 and 1 -/
def Mk01 (n : Nat) (f : Nat → Int32) (P : Nat → Prop) : Prop := ∀ X, X ≤ fullM n → (f X = 0 ∨ f X = 1) ∧ (f X = 1 ↔ P X)
theorem strong_l1 {σ1 : Mem} {n : Nat} {L : List Nat} (h0 : σ1 43 0 = nI n) (hn : n ≤ 8) (hG : GoS n L (σ1 46)) : ∃ r, lp (fun s => M_findsStrong_b1 s.1 s.2) fuel (nI 0, mset σ1 48 (σ1 48)) = some r ∧ ∃ f, r = mset σ1 48 f ∧ Mk01 n f (SureB n L) := by
  have hfull := full_lt hn
  have hall : ∀ f, M_all (mset σ1 48 f) = nI (fullM n) := fun f => M_all_eq (by rw [mset_ne (by decide)]; exact h0) hn
  refine lp_for (fullM n + 1) (fun j s => ∃ f, s = (nI j, mset σ1 48 f) ∧ ∀ X, X < j → (f X = 0 ∨ f X = 1) ∧ (f X = 1 ↔ SureB n L X)) _ _ 0 (by omega) ⟨_, rfl, fun m h => by omega⟩ (by omega) ?_ ?_
  · rintro j s hj ⟨f, rfl, hf⟩
    left
    show ∃ s2, M_findsStrong_b1 (nI j) (mset σ1 48 f) = some (.inl s2) ∧ _
    obtain ⟨v, ev, hv, hv2⟩ := M_isSure_eq (τ := mset σ1 48 f) (L := L) (by rw [mset_ne (by decide)]; exact h0) hn (by rw [mset_ne (by decide)]; exact hG) (X := j) (by omega)
    have hpc := pc_le j (by omega)
    unfold M_findsStrong_b1
    simp only [lt]
    rw [hall, if_neg (by rw [nI_ltI (by omega) (by omega)]; omega), M_many_eq (by omega)]
    simp only [Option.bind_some]
    have e1 : ∃ b : Bool, ((if nI (pc8 j) ≤ 1 then some false else (M_isSure (nI j) (mset σ1 48 f)).bind (fun vq26 => if vq26 = 0 then some false else some true)) : Option Bool) = some b ∧ (b = true ↔ SureB n L j) := by
      unfold SureB
      rw [two_iff (by omega), ev, ← hv2]
      by_cases c : 1 < pc8 j
      · rw [if_neg (by rw [L_1, nI_leI (by omega) (by omega)]; omega)]
        rcases hv with rfl | rfl
        · exact ⟨false, rfl, by simp⟩
        · exact ⟨true, rfl, by simp [c]⟩
      · rw [if_pos (by rw [L_1, nI_leI (by omega) (by omega)]; omega)]
        exact ⟨false, rfl, by simp [c]⟩
    obtain ⟨b, e1, hb⟩ := e1
    rw [e1]
    simp only [Option.bind_some]
    rw [wr_nI (by show j < 256; omega) (by decide), mput_mset]
    simp only [Option.bind_some]
    refine ⟨_, rfl, upd f j (if b = true then 1 else 0), by rw [nI_1], fun X hX => ?_⟩
    rw [upd_at]
    by_cases e : X = j
    · subst e
      rw [if_pos rfl, ← hb]
      cases b <;> simp
    · rw [if_neg e]; exact hf X (by omega)
  · rintro s ⟨f, rfl, hf⟩
    show ∃ r, M_findsStrong_b1 (nI (fullM n + 1)) (mset σ1 48 f) = some (.inr r) ∧ _
    unfold M_findsStrong_b1
    rw [hall, if_pos (by rw [nI_ltI (by omega) (by omega)]; omega)]
    exact ⟨_, rfl, f, rfl, fun X hX => hf X (by omega)⟩
theorem strong_in {τ : Mem} {n : Nat} {P : Nat → Prop} (h0 : τ 43 0 = nI n) (hn : n ≤ 8) (hS : Mk01 n (τ 48) P) {X : Nat} (hX : X ≤ fullM n) (i0 : Int32) (hi0 : i0 = 0 ∨ i0 = 1) : ∃ r, lp (fun s => M_findsStrong_b2 (nI X) τ s.1 s.2) fuel (i0, nI 0) = some r ∧ (r = 0 ∨ r = 1) ∧ (r = 1 ↔ (i0 = 1 ∧ ∀ Z, Z ≤ fullM n → P Z → ¬ Crs X Z)) := by
  have hfull := full_lt hn
  have hall := M_all_eq h0 hn
  refine lp_for (fullM n + 1) (fun j s => ∃ v, s = (v, nI j) ∧ (v = 0 ∨ v = 1) ∧ (v = 1 ↔ (i0 = 1 ∧ ∀ Z, Z < j → P Z → ¬ Crs X Z))) _ _ 0 (by omega) ⟨i0, rfl, hi0, by simp⟩ (by omega) ?_ ?_
  · rintro j s hj ⟨v, rfl, hv, hv2⟩
    rcases hv with rfl | rfl
    · right
      refine ⟨0, ?_, Or.inl rfl, ?_⟩
      · show M_findsStrong_b2 (nI X) τ 0 (nI j) = _
        unfold M_findsStrong_b2
        simp only [lt]
        have c0 : ¬ nI (fullM n) < nI j := nI_nlt (by omega) (by omega)
        rw [hall, if_neg c0]
        simp
      · refine ⟨fun h => absurd h (by decide), fun h => ?_⟩
        exact hv2.mpr ⟨h.1, fun Z hZ => h.2 Z (by omega)⟩
    · left
      obtain ⟨s1, s2⟩ := hS j (by omega)
      have hcr := M_areCrossing_eq (a := X) (b := j) (by omega) (by omega)
      show ∃ s2, M_findsStrong_b2 (nI X) τ 1 (nI j) = some (.inl s2) ∧ _
      unfold M_findsStrong_b2
      simp only [lt]
      have c0 : ¬ nI (fullM n) < nI j := nI_nlt (by omega) (by omega)
      rw [hall, if_neg c0]
      have e2 : (if (if (1 : Int32) = 0 then false else true) = true then (rd τ 48 (nI j)).bind (fun vq82 => some (Sum.inl (α := Int32 × Int32) (β := Int32) ((if (if vq82 = 0 then true else if M_areCrossing (nI X) (nI j) = 0 then true else false) = true then 1 else 0), nI j + 1))) else some (Sum.inr 1)) = some (Sum.inl ((if (τ 48 j = 0 ∨ M_areCrossing (nI X) (nI j) = 0) then 1 else 0), nI (j + 1))) := by
        rw [if_pos (by decide), rd_nI (by show j < 256; omega) (by decide)]
        simp only [Option.bind_some]
        rw [nI_1]
        by_cases c1 : τ 48 j = 0 <;> by_cases c2 : M_areCrossing (nI X) (nI j) = 0 <;> simp [c1, c2]
      refine ⟨_, e2, _, rfl, by split; exact Or.inr rfl; exact Or.inl rfl, ?_⟩
      have hall1 := hv2.mp rfl
      by_cases c : τ 48 j = 0 ∨ M_areCrossing (nI X) (nI j) = 0
      · rw [if_pos c]
        refine ⟨fun _ => ⟨hall1.1, fun Z hZ hP => ?_⟩, fun _ => rfl⟩
        by_cases e : Z = j
        · subst e
          rcases c with c | c
          · have := s2.mpr hP; rw [c] at this; exact absurd this (by decide)
          · rcases hcr with ⟨-, h⟩ | ⟨h, -⟩
            · exact h
            · rw [c] at h; exact absurd h (by decide)
        · exact hall1.2 Z (by omega) hP
      · rw [if_neg c]
        refine ⟨fun h => absurd h (by decide), fun h => ?_⟩
        exfalso
        apply c
        rcases s1 with s1 | s1
        · exact Or.inl s1
        · right
          rcases hcr with ⟨h1, -⟩ | ⟨-, h1⟩
          · exact h1
          · exact absurd h1 (h.2 j (by omega) (s2.mp s1))
  · rintro s ⟨v, rfl, hv, hv2⟩
    refine ⟨v, ?_, hv, ?_⟩
    · show M_findsStrong_b2 (nI X) τ v (nI (fullM n + 1)) = _
      unfold M_findsStrong_b2
      simp only [lt]
      have c0 : nI (fullM n) < nI (fullM n + 1) := nI_lt (by omega) (by omega)
      rw [hall, if_pos c0]
      simp
    · rw [hv2]
      exact ⟨fun h => ⟨h.1, fun Z hZ => h.2 Z (by omega)⟩, fun h => ⟨h.1, fun Z hZ => h.2 Z (by omega)⟩⟩
theorem M_findsStrong_eq {σ : Mem} {n : Nat} {G : Nat → Nat} {c : Nat} (h : MI σ n G c) {L : List Nat} (hL : L = (List.range 11).map (nget G (tkB n G c) 0)) : ∃ τ, M_findsStrong σ = some τ ∧ PubM σ τ ∧ GoS n L (τ 46) ∧ Mk01 n (τ 48) (SureB n L) ∧ Mk01 n (τ 54) (fun X => SureB n L X ∧ ∀ Z, Z ≤ fullM n → SureB n L Z → ¬ Crs X Z) := by
  obtain ⟨σ1, e1, p1, hgo⟩ := M_findsGo_eq h
  have hn := h.2.2.1
  have hfull := full_lt hn
  have hM1 := p1.mi h
  have hG : GoS n L (σ1 46) := by
    rw [hL]
    exact go_sem hn (nxOf_bit n G (tkB n G c) 0) hgo
  obtain ⟨r1, e2, f, rfl, hf⟩ := strong_l1 (L := L) hM1.1 hn hG
  rw [mset_self] at e2
  have h43 : ∀ g, (mset (mset σ1 48 f) 54 g) 43 0 = nI n := fun g => by rw [mset_ne (by decide), mset_ne (by decide)]; exact hM1.1
  have h48 : ∀ g, (mset (mset σ1 48 f) 54 g) 48 = f := fun g => by rw [mset_ne (by decide), mset_eq]
  have key : ∃ r, lp (fun s => M_findsStrong_b3 s.1 s.2) fuel (nI 0, mset (mset σ1 48 f) 54 ((mset σ1 48 f) 54)) = some r ∧ ∃ g, r = mset (mset σ1 48 f) 54 g ∧ Mk01 n g (fun X => SureB n L X ∧ ∀ Z, Z ≤ fullM n → SureB n L Z → ¬ Crs X Z) := by
    refine lp_for (fullM n + 1) (fun j s => ∃ g, s = (nI j, mset (mset σ1 48 f) 54 g) ∧ ∀ X, X < j → (g X = 0 ∨ g X = 1) ∧ (g X = 1 ↔ (SureB n L X ∧ ∀ Z, Z ≤ fullM n → SureB n L Z → ¬ Crs X Z))) _ _ 0 (by omega) ⟨_, rfl, fun m h => by omega⟩ (by omega) ?_ ?_
    · rintro j s hj ⟨g, rfl, hg⟩
      left
      have hall := M_all_eq (h43 g) hn
      obtain ⟨s1, s2⟩ := hf j (by omega)
      show ∃ s2, M_findsStrong_b3 (nI j) (mset (mset σ1 48 f) 54 g) = some (.inl s2) ∧ _
      unfold M_findsStrong_b3
      simp only [lt]
      rw [hall, if_neg (by rw [nI_ltI (by omega) (by omega)]; omega), rd_nI (by show j < 256; omega) (by decide), h48]
      simp only [Option.bind_some]
      obtain ⟨v, ev, hv, hv2⟩ := strong_in (τ := mset (mset σ1 48 f) 54 g) (P := SureB n L) (h43 g) hn (by rw [h48]; exact hf) (X := j) (by omega) (if f j = 1 then 1 else 0) (by split; exact Or.inr rfl; exact Or.inl rfl)
      have ev' : lp (fun s => M_findsStrong_b2 (nI j) (mset (mset σ1 48 f) 54 g) s.1 s.2) fuel (if f j = 1 then 1 else 0, 0) = _ := ev
      rw [ev']
      simp only [Option.bind_some]
      rw [wr_nI (by show j < 256; omega) (by decide), mput_mset]
      simp only [Option.bind_some]
      refine ⟨_, rfl, upd g j (if v = 0 then 0 else 1), by rw [nI_1], fun X hX => ?_⟩
      rw [upd_at]
      by_cases e : X = j
      · subst e
        rw [if_pos rfl]
        refine ⟨by split; exact Or.inl rfl; exact Or.inr rfl, ?_⟩
        have : ((if v = 0 then (0 : Int32) else 1) = 1) ↔ v = 1 := by
          rcases hv with rfl | rfl <;> decide
        rw [this, hv2, ← s2]
        refine and_congr_left fun _ => ?_
        rcases s1 with s1 | s1 <;> rw [s1] <;> decide
      · rw [if_neg e]; exact hg X (by omega)
    · rintro s ⟨g, rfl, hg⟩
      have hall := M_all_eq (h43 g) hn
      show ∃ r, M_findsStrong_b3 (nI (fullM n + 1)) (mset (mset σ1 48 f) 54 g) = some (.inr r) ∧ _
      unfold M_findsStrong_b3
      rw [hall, if_pos (by rw [nI_ltI (by omega) (by omega)]; omega)]
      exact ⟨_, rfl, g, rfl, fun X hX => hg X (by omega)⟩
  obtain ⟨r2, e3, g, rfl, hg⟩ := key
  rw [mset_self] at e3
  refine ⟨mset (mset σ1 48 f) 54 g, ?_, p1.tr ((PubM.set (by decide)).tr (PubM.set (by decide))), ?_, by rw [h48]; exact hf, by rw [mset_eq]; exact hg⟩
  · unfold M_findsStrong
    rw [e1]
    simp only [Option.bind_some]
    show (lp _ fuel (nI 0, σ1)).bind _ = _
    rw [e2]
    simp only [Option.bind_some]
    show (lp _ fuel (nI 0, mset σ1 48 f)).bind _ = _
    rw [e3]; rfl
  · rw [mset_ne (by decide), mset_ne (by decide)]; exact hG

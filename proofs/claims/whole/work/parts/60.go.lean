-- ===== the model's go and ends =====
def PubM (σ τ : Mem) : Prop := τ 43 0 = σ 43 0 ∧ τ 43 1 = σ 43 1 ∧ τ 43 22 = σ 43 22 ∧ τ 43 29 = σ 43 29 ∧ ∀ k, k = 44 ∨ k = 60 ∨ k = 61 ∨ k = 62 ∨ k = 63 ∨ k = 64 → τ k = σ k
theorem PubM.rf (σ : Mem) : PubM σ σ := ⟨rfl, rfl, rfl, rfl, fun _ _ => rfl⟩
theorem PubM.tr {a b c : Mem} (h1 : PubM a b) (h2 : PubM b c) : PubM a c := ⟨h2.1.trans h1.1, h2.2.1.trans h1.2.1, h2.2.2.1.trans h1.2.2.1, h2.2.2.2.1.trans h1.2.2.2.1, fun k hk => (h2.2.2.2.2 k hk).trans (h1.2.2.2.2 k hk)⟩
theorem PubM.set {σ : Mem} {k : Nat} {f : Nat → Int32} (h : k ≠ 43 ∧ k ≠ 44 ∧ k ≠ 60 ∧ k ≠ 61 ∧ k ≠ 62 ∧ k ≠ 63 ∧ k ≠ 64) : PubM σ (mset σ k f) := by
  have h43 : mset σ k f 43 = σ 43 := mset_ne (fun e => h.1 e.symm)
  refine ⟨by rw [h43], by rw [h43], by rw [h43], by rw [h43], fun j hj => mset_ne ?_⟩
  omega
theorem PubM.mi {σ τ : Mem} {n : Nat} {G : Nat → Nat} {c : Nat} (h : PubM σ τ) (hM : MI σ n G c) : MI τ n G c := hM.same ⟨h.1, h.2.1⟩ (h.2.2.2.2 44 (Or.inl rfl))
def bitsUp (c : Nat → Bool) : Nat → Nat
  | 0 => 0
  | j + 1 => bitsUp c j ||| (if c j = true then 2 ^ j else 0)
theorem bitsUp_bit (c : Nat → Bool) : ∀ j i, (bitsUp c j).testBit i = true ↔ i < j ∧ c i = true := by
  intro j
  induction j with
  | zero => intro i; simp [bitsUp]
  | succ j ih =>
    intro i
    unfold bitsUp
    rw [Nat.testBit_or, Bool.or_eq_true, ih]
    by_cases h : c j = true
    · rw [if_pos h, Nat.testBit_two_pow]
      simp only [decide_eq_true_eq]
      constructor
      · rintro (⟨h1, h2⟩ | rfl)
        · exact ⟨by omega, h2⟩
        · exact ⟨by omega, h⟩
      · rintro ⟨h1, h2⟩
        by_cases e : j = i
        · exact Or.inr e
        · exact Or.inl ⟨by omega, h2⟩
    · rw [if_neg h]
      simp only [Nat.zero_testBit, Bool.false_eq_true, or_false]
      constructor
      · rintro ⟨h1, h2⟩; exact ⟨by omega, h2⟩
      · rintro ⟨h1, h2⟩
        refine ⟨?_, h2⟩
        have : i ≠ j := fun e => h (e ▸ h2)
        omega
theorem bitsUp_lt {c : Nat → Bool} {j : Nat} (h : j ≤ 8) : bitsUp c j < 256 := by
  have h1 := lt_of_bits (c := j) (fun i hi => ((bitsUp_bit c j i).mp hi).1)
  have h2 : 2 ^ j ≤ 2 ^ 8 := Nat.pow_le_pow_right (by decide) h
  omega
theorem mset_mset {σ : Mem} {k : Nat} {f g : Nat → Int32} : mset (mset σ k f) k g = mset σ k g := by
  funext j; unfold mset; by_cases h : j = k <;> simp [h]
theorem mset_comm {σ : Mem} {k l : Nat} {f g : Nat → Int32} (h : k ≠ l) : mset (mset σ k f) l g = mset (mset σ l g) k f := by
  funext j; unfold mset
  by_cases h1 : j = k
  · subst h1; simp [h]
  · simp [h1]
/-- two cells of scratch -/
def ms2 (σ : Mem) (g e : Nat → Int32) : Mem := mset (mset σ 46 g) 47 e
theorem ms2_46 {σ : Mem} {g e : Nat → Int32} : ms2 σ g e 46 = g := by unfold ms2; rw [mset_ne (by decide), mset_eq]
theorem ms2_47 {σ : Mem} {g e : Nat → Int32} : ms2 σ g e 47 = e := by unfold ms2; rw [mset_eq]
theorem ms2_ne {σ : Mem} {g e : Nat → Int32} {k : Nat} (h1 : k ≠ 46) (h2 : k ≠ 47) : ms2 σ g e k = σ k := by unfold ms2; rw [mset_ne h2, mset_ne h1]
theorem ms2_p46 {σ : Mem} {g e : Nat → Int32} {i : Nat} {v : Int32} : mput (ms2 σ g e) 46 i v = ms2 σ (upd g i v) e := by
  unfold mput
  rw [ms2_46]
  unfold ms2
  rw [mset_comm (by decide), mset_mset, mset_comm (by decide)]
theorem ms2_p47 {σ : Mem} {g e : Nat → Int32} {i : Nat} {v : Int32} : mput (ms2 σ g e) 47 i v = ms2 σ g (upd e i v) := by
  unfold mput
  rw [ms2_47]
  unfold ms2
  rw [mset_mset]
theorem ms2_pub {σ : Mem} {g e : Nat → Int32} : PubM σ (ms2 σ g e) := (PubM.set (by decide)).tr (PubM.set (by decide))
theorem upd_upd {g : Nat → Int32} {i : Nat} {v w : Int32} : upd (upd g i v) i w = upd g i w := by
  funext j; unfold upd; by_cases h : j = i <;> simp [h]
theorem i_or1 (a k : Nat) (hk : k < 31) : nI a ||| ((1 : Int32) <<< (nI k &&& 31)) = nI (a ||| 2 ^ k) := by rw [xI_bit hk, xI_or]
def cB (e : Nat → Int32) (x d k : Nat) : Bool := x.testBit k && decide (e (d ||| 2 ^ k) = 1)
theorem go_inner {σ : Mem} {n : Nat} (h0 : σ 43 0 = nI n) (hn : n ≤ 8) {d x : Nat} (hd : d < 256) (hx : x < 256) (hxd : ∀ k, x.testBit k = true → d.testBit k = false) (g e : Nat → Int32) (ev : Int32) (hev : ev = 0 ∨ ev = 1) : ∃ r, lp (fun s => M_findsGo_b1 (nI d) (nI x) s.1 s.2) fuel (nI 0, ms2 σ (upd g d (nI 0)) (upd e d ev)) = some r ∧ r = ms2 σ (upd g d (nI (bitsUp (cB e x d) n))) (upd e d (if bitsUp (cB e x d) n = 0 then ev else 1)) := by
  refine lp_for n (fun j s => s = (nI j, ms2 σ (upd g d (nI (bitsUp (cB e x d) j))) (upd e d (if bitsUp (cB e x d) j = 0 then ev else 1)))) _ _ 0 (by omega) (by rfl) (by omega) ?_ ?_
  · rintro j s hj rfl
    left
    refine ⟨_, ?_, rfl⟩
    show M_findsGo_b1 (nI d) (nI x) (nI j) (ms2 σ _ _) = _
    generalize hb : bitsUp (cB e x d) j = bm
    have hbs : bitsUp (cB e x d) (j + 1) = bm ||| (if cB e x d j = true then 2 ^ j else 0) := by rw [← hb]; rfl
    have hor := or_bit_lt (d := d) (k := j) hd (by omega)
    unfold M_findsGo_b1
    simp only [lt]
    rw [ms2_ne (by decide) (by decide), h0, if_neg (by rw [nI_leI (by omega) (by omega)]; omega), M_isIn_eq (by omega) (by omega), i_or1 d j (by omega), rd_nI (by show _ < 256; omega) (by decide), ms2_47]
    by_cases c : x.testBit j = true
    · have hne : d ||| 2 ^ j ≠ d := by
        intro h1
        have h2 := hxd j c
        have h3 : (d ||| 2 ^ j).testBit j = true := by rw [Nat.testBit_or, Nat.testBit_two_pow]; simp
        rw [h1, h2] at h3; cases h3
      rw [upd_at, if_neg hne]
      by_cases c2 : e (d ||| 2 ^ j) = 1
      · have hc : cB e x d j = true := by unfold cB; simp [c, c2]
        rw [hbs, if_pos hc]
        have hz : ¬ bm ||| 2 ^ j = 0 := by
          intro h1
          have h3 : (bm ||| 2 ^ j).testBit j = true := by rw [Nat.testBit_or, Nat.testBit_two_pow]; simp
          rw [h1] at h3; simp at h3
        rw [if_neg hz]
        simp only [c, c2, if_true, Option.bind_some]
        rw [if_neg (by decide)]
        simp only [Option.bind_some, if_true]
        rw [rd_nI (by show d < 256; omega) (by decide), ms2_46, upd_at, if_pos rfl]
        simp only [Option.bind_some]
        rw [i_or1 bm j (by omega), wr_nI (by show d < 256; omega) (by decide), ms2_p46]
        simp only [Option.bind_some]
        rw [wr_nI (by show d < 256; omega) (by decide), ms2_p47, upd_upd, upd_upd]
        simp only [Option.bind_some]
        rw [nI_1]
      · have hc : ¬ cB e x d j = true := by unfold cB; simp [c2]
        rw [hbs, if_neg hc, Nat.or_zero]
        simp only [c, c2, if_true, if_false, Option.bind_some]
        rw [if_neg (by decide)]
        simp only [Option.bind_some, Bool.false_eq_true, if_false]
        rw [nI_1]
    · have hc : ¬ cB e x d j = true := by unfold cB; simp [c]
      rw [hbs, if_neg hc, Nat.or_zero]
      simp only [c, if_false, if_true, Bool.false_eq_true, Option.bind_some]
      rw [nI_1]
  · rintro s rfl
    show ∃ r, M_findsGo_b1 (nI d) (nI x) (nI n) (ms2 σ _ _) = some (.inr r) ∧ _
    unfold M_findsGo_b1
    rw [ms2_ne (by decide) (by decide), h0, if_pos (by rw [nI_leI (by omega) (by omega)]; omega)]
    exact ⟨_, rfl, rfl⟩

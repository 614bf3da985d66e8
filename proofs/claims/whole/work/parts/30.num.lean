-- ===== numbers: ints that are naturals; bits =====
theorem xI_bv (a : Nat) : (nI a).toBitVec = BitVec.ofNat 32 a := rfl
theorem xI_ext {x y : Int32} (h : x.toBitVec = y.toBitVec) : x = y := Int32.toBitVec_inj.mp h
theorem xI_and (a b : Nat) : nI a &&& nI b = nI (a &&& b) := by
  apply xI_ext
  show BitVec.ofNat 32 a &&& BitVec.ofNat 32 b = BitVec.ofNat 32 (a &&& b)
  apply BitVec.eq_of_toNat_eq
  simp [Nat.and_mod_two_pow]
theorem xI_or (a b : Nat) : nI a ||| nI b = nI (a ||| b) := by
  apply xI_ext
  show BitVec.ofNat 32 a ||| BitVec.ofNat 32 b = BitVec.ofNat 32 (a ||| b)
  apply BitVec.eq_of_toNat_eq
  simp [Nat.or_mod_two_pow]
/-- a without b -/
def sd (a b : Nat) : Nat := a ^^^ (a &&& b)
theorem sd_bit (a b i : Nat) : (sd a b).testBit i = (a.testBit i && !b.testBit i) := by
  simp only [sd, Nat.testBit_xor, Nat.testBit_and]
  cases a.testBit i <;> cases b.testBit i <;> rfl
theorem xI_diff (a b : Nat) : nI a &&& (nI b ^^^ (-1)) = nI (sd a b) := by
  apply xI_ext
  show BitVec.ofNat 32 a &&& (BitVec.ofNat 32 b ^^^ (-1#32)) = BitVec.ofNat 32 (sd a b)
  apply BitVec.eq_of_getLsbD_eq
  intro i hi
  have h0 : ∀ i, i < 32 → (-1#32 : BitVec 32).getLsbD i = true := by decide +kernel
  have h1 := h0 i hi
  rw [BitVec.getLsbD_and, BitVec.getLsbD_xor, h1]
  simp only [BitVec.getLsbD_ofNat, hi, decide_true, Bool.true_and, sd_bit]
  cases a.testBit i <;> cases b.testBit i <;> rfl
theorem xI_bit {k : Nat} (hk : k < 31) : (1 : Int32) <<< (nI k &&& 31) = nI (2 ^ k) := by
  have : ∀ k, k < 31 → (1 : Int32) <<< (nI k &&& 31) = nI (2 ^ k) := by decide +kernel
  exact this k hk
theorem xI_sh {k : Nat} (hk : k < 32) : (((nI k) &&& 31).toBitVec.smod 32).toNat = k := by
  have : ∀ k, k < 32 → (((nI k) &&& 31).toBitVec.smod 32).toNat = k := by decide +kernel
  exact this k hk
theorem xI_shr {a k : Nat} (ha : a < 2 ^ 31) (hk : k < 32) : nI a >>> (nI k &&& 31) = nI (a / 2 ^ k) := pk_shrN ha _ k (xI_sh hk)
theorem tb_div (a k : Nat) : a / 2 ^ k % 2 = if a.testBit k = true then 1 else 0 := by
  rw [Nat.testBit_eq_decide_div_mod_eq]
  by_cases h : a / 2 ^ k % 2 = 1
  · simp [h]
  · simp [h]; omega
theorem and_one' (a : Nat) : a &&& 1 = a % 2 := Nat.and_one_is_mod a
theorem xI_tst {a k : Nat} (ha : a < 2 ^ 31) (hk : k < 32) : (nI a >>> (nI k &&& 31)) &&& 1 = nI (if a.testBit k = true then 1 else 0) := by
  rw [xI_shr ha hk, show (1 : Int32) = nI 1 from rfl, xI_and, and_one', tb_div]
theorem M_isIn_eq {a k : Nat} (ha : a < 2 ^ 31) (hk : k < 32) : M_isIn (nI a) (nI k) = if a.testBit k = true then 1 else 0 := by
  unfold M_isIn lt
  rw [xI_tst ha hk]
  cases a.testBit k <;> rfl
-- reading and writing
theorem rd_nI {σ : Mem} {k i : Nat} (h : i < lenOf k) (h2 : lenOf k < 2 ^ 31) : rd σ k (nI i) = some (σ k i) := by
  unfold rd
  rw [if_neg (nI_in h h2), nI_clamp (by omega)]
theorem wr_nI {σ : Mem} {k i : Nat} {v : Int32} (h : i < lenOf k) (h2 : lenOf k < 2 ^ 31) : wr σ k (nI i) v = some (mput σ k i v) := by
  unfold wr
  rw [if_neg (nI_in h h2), nI_clamp (by omega)]
theorem mput_at {σ : Mem} {k i : Nat} {v : Int32} {k2 j : Nat} : mput σ k i v k2 j = if k2 = k ∧ j = i then v else σ k2 j := by
  unfold mput mset upd
  by_cases h : k2 = k
  · subst h; simp
  · simp [h]
theorem mset_at {σ : Mem} {k : Nat} {f : Nat → Int32} {k2 : Nat} : mset σ k f k2 = if k2 = k then f else σ k2 := rfl
theorem mput_mset {σ : Mem} {k i : Nat} {f : Nat → Int32} {v : Int32} : mput (mset σ k f) k i v = mset σ k (upd f i v) := by
  funext k2
  unfold mput mset
  by_cases h : k2 = k
  · simp [h]
  · simp [h]
-- loops
theorem lp_mono {S R : Type} (f : S → Option (S ⊕ R)) : ∀ (n m : Nat) (s : S) (r : R), n ≤ m → lp f n s = some r → lp f m s = some r := by
  intro n
  induction n with
  | zero => intro m s r _ h; cases h
  | succ n ih =>
    intro m s r hm h
    obtain ⟨m, rfl⟩ : ∃ q, m = q + 1 := ⟨m - 1, by omega⟩
    obtain ⟨y, hy, h2⟩ := obind h
    show (f s).bind _ = some r
    rw [hy]
    cases y with
    | inl s2 => exact ih m s2 r (by omega) h2
    | inr r2 => exact h2
theorem lp_fu {S R : Type} {f : S → Option (S ⊕ R)} {n : Nat} {s : S} {r : R} (h : lp f n s = some r) (hn : n ≤ 1000000) : lp f fuel s = some r := lp_mono f n fuel s r (Nat.le_trans hn fuel_ge) h
theorem lp_rule {S R : Type} {f : S → Option (S ⊕ R)} (I : S → Prop) (Q : R → Prop) (μ : S → Nat) (h : ∀ s, I s → (∃ s2, f s = some (.inl s2) ∧ I s2 ∧ μ s2 < μ s) ∨ (∃ r, f s = some (.inr r) ∧ Q r)) : ∀ (n : Nat) (s : S), I s → μ s < n → ∃ r, lp f n s = some r ∧ Q r := by
  intro n
  induction n with
  | zero => intro s _ h; omega
  | succ n ih =>
    intro s hI hμ
    rcases h s hI with ⟨s2, h1, h2, h3⟩ | ⟨r, h1, h2⟩
    · obtain ⟨r, h4, h5⟩ := ih s2 h2 (by omega)
      refine ⟨r, ?_, h5⟩
      show (f s).bind _ = some r
      rw [h1]; exact h4
    · refine ⟨r, ?_, h2⟩
      show (f s).bind _ = some r
      rw [h1]; rfl
theorem lp_inv {S R : Type} {f : S → Option (S ⊕ R)} (I : S → Prop) (Q : R → Prop) (μ : S → Nat) (s : S) (hs : I s) (hμ : μ s < 1000000) (h : ∀ s, I s → (∃ s2, f s = some (.inl s2) ∧ I s2 ∧ μ s2 < μ s) ∨ (∃ r, f s = some (.inr r) ∧ Q r)) : ∃ r, lp f fuel s = some r ∧ Q r :=
  lp_rule I Q μ h fuel s hs (Nat.lt_of_lt_of_le hμ fuel_ge)
/-- a counted loop: at the j-th turn the state is of I j -/
theorem lp_for {S R : Type} {f : S → Option (S ⊕ R)} (N : Nat) (I : Nat → S → Prop) (Q : R → Prop) (s : S) (j0 : Nat) (hj : j0 ≤ N) (hs : I j0 s) (hN : N < 1000000) (hstep : ∀ j s, j < N → I j s → (∃ s2, f s = some (.inl s2) ∧ I (j + 1) s2) ∨ (∃ r, f s = some (.inr r) ∧ Q r)) (hend : ∀ s, I N s → ∃ r, f s = some (.inr r) ∧ Q r) : ∃ r, lp f fuel s = some r ∧ Q r := by
  have key : ∀ (n : Nat) (j : Nat) (s : S), j ≤ N → I j s → N - j < n → ∃ r, lp f n s = some r ∧ Q r := by
    intro n
    induction n with
    | zero => intro j s _ _ h; omega
    | succ n ih =>
      intro j s hj hI hn
      have fin : (∃ r, f s = some (.inr r) ∧ Q r) → ∃ r, lp f (n + 1) s = some r ∧ Q r := by
        rintro ⟨r, h1, h2⟩
        refine ⟨r, ?_, h2⟩
        show (f s).bind _ = some r
        rw [h1]; rfl
      by_cases hjN : j = N
      · subst hjN; exact fin (hend s hI)
      · rcases hstep j s (by omega) hI with ⟨s2, h1, h2⟩ | h1
        · obtain ⟨r, h4, h5⟩ := ih (j + 1) s2 (by omega) h2 (by omega)
          refine ⟨r, ?_, h5⟩
          show (f s).bind _ = some r
          rw [h1]; exact h4
        · exact fin h1
  obtain ⟨r, h1, h2⟩ := key (N + 1) j0 s hj hs (by omega)
  exact ⟨r, lp_fu h1 (by omega), h2⟩
theorem L_0 : (0 : Int32) = nI 0 := rfl
theorem L_1 : (1 : Int32) = nI 1 := rfl
theorem L_2 : (2 : Int32) = nI 2 := rfl
theorem L_3 : (3 : Int32) = nI 3 := rfl
theorem L_4 : (4 : Int32) = nI 4 := rfl
theorem L_5 : (5 : Int32) = nI 5 := rfl
theorem L_6 : (6 : Int32) = nI 6 := rfl
theorem L_7 : (7 : Int32) = nI 7 := rfl
theorem L_8 : (8 : Int32) = nI 8 := rfl
theorem L_9 : (9 : Int32) = nI 9 := rfl
theorem L_10 : (10 : Int32) = nI 10 := rfl
theorem L_11 : (11 : Int32) = nI 11 := rfl
theorem L_24 : (24 : Int32) = nI 24 := rfl
theorem L_31 : (31 : Int32) = nI 31 := rfl
theorem L_39 : (39 : Int32) = nI 39 := rfl
theorem L_40 : (40 : Int32) = nI 40 := rfl
theorem L_60 : (60 : Int32) = nI 60 := rfl
theorem L_97 : (97 : Int32) = nI 97 := rfl
theorem L_192 : (192 : Int32) = nI 192 := rfl
theorem L_240 : (240 : Int32) = nI 240 := rfl
theorem L_255 : (255 : Int32) = nI 255 := rfl
theorem L_256 : (256 : Int32) = nI 256 := rfl
theorem L_1000 : (1000 : Int32) = nI 1000 := rfl
theorem L_40319 : (40319 : Int32) = nI 40319 := rfl
theorem L_40320 : (40320 : Int32) = nI 40320 := rfl
theorem ifB {b : Bool} {α : Type} {x y : α} : (if b = true then x else y) = (bif b then x else y) := by cases b <;> rfl
theorem nI_ne {a b : Nat} (ha : a < 2 ^ 31) (hb : b < 2 ^ 31) (h : a ≠ b) : ¬ nI a = nI b := fun e => h ((nI_eq ha hb).mp e)

-- ===== groups by their bits; what is taken =====
def RG (n : Nat) (G : Nat → Nat) (bs more : Nat) (r : List Nat) : Prop := r.Nodup ∧ (∀ x, x ∈ r ↔ x < n) ∧ (∀ g, g < 10 → bs.testBit g = true → Cons (G g &&& fullM n) r) ∧ Cons (more &&& fullM n) r
theorem cons_0 (r : List Nat) : Cons 0 r := ⟨r, [], [], by simp, fun x _ => by simp, fun x h => by simp at h, fun x h => by simp at h⟩
theorem rg_rw {n : Nat} {G : Nat → Nat} {bs more : Nat} {r : List Nat} : RG n G bs more r ↔ Rw n ((List.range 11).map (nget G bs more)) r := by
  unfold RG Rw
  refine and_congr_right fun _ => and_congr_right fun _ => ?_
  constructor
  · rintro ⟨h1, h2⟩ g hg
    obtain ⟨j, hj, rfl⟩ := List.mem_map.mp hg
    have hj : j < 11 := List.mem_range.mp hj
    unfold nget
    by_cases c : j = 10
    · rw [if_pos c]; exact h2
    · rw [if_neg c]
      by_cases c2 : bs.testBit j = true
      · rw [if_pos c2]; exact h1 j (by omega) c2
      · rw [if_neg c2]; simp; exact cons_0 r
  · intro h
    refine ⟨fun g hg c => ?_, ?_⟩
    · have := h (nget G bs more g) (List.mem_map.mpr ⟨g, List.mem_range.mpr (by omega), rfl⟩)
      unfold nget at this
      rw [if_neg (by omega), if_pos c] at this
      exact this
    · have := h (nget G bs more 10) (List.mem_map.mpr ⟨10, List.mem_range.mpr (by omega), rfl⟩)
      unfold nget at this
      rw [if_pos rfl] at this
      exact this
def cnt (n : Nat) (G : Nat → Nat) (bs more : Nat) : Nat := cw n (nxOf n G bs more) (fullM n)
theorem nxOf_bit (n : Nat) (G : Nat → Nat) (bs more d i : Nat) : (nxOf n G bs more d).testBit i = true ↔ i < n ∧ d.testBit i = false ∧ okS (((List.range 11).map (nget G bs more)).map (fun g => g &&& fullM n)) d i := nxF_bit n d i _
theorem cnt_pos {n : Nat} {G : Nat → Nat} {bs more : Nat} (hn : n ≤ 8) : 0 < cnt n G bs more ↔ ∃ r, RG n G bs more r := by
  unfold cnt
  rw [cw_pos hn (nxOf_bit n G bs more)]
  simp only [rg_rw]
theorem cnt_len {n : Nat} {G : Nat → Nat} {bs more : Nat} (hn : n ≤ 8) (A : List (List Nat)) (hA : A.Nodup) (h : ∀ r, r ∈ A ↔ RG n G bs more r) : A.length = cnt n G bs more :=
  cw_count hn (nxOf_bit n G bs more) A hA (fun r => by rw [h, rg_rw])
theorem cnt_lt {n : Nat} {G : Nat → Nat} {bs more : Nat} (hn : n ≤ 8) : cnt n G bs more < 2 ^ 25 := cw_lt hn (full_lt hn)
def tkB (n : Nat) (G : Nat → Nat) : Nat → Nat
  | 0 => 0
  | i + 1 => tkB n G i ||| (if 0 < cnt n G (tkB n G i ||| 2 ^ i) 0 then 2 ^ i else 0)
theorem tkB_bit {n : Nat} {G : Nat → Nat} : ∀ {c i : Nat}, (tkB n G c).testBit i = true → i < c := by
  intro c
  induction c with
  | zero => intro i h; simp [tkB] at h
  | succ c ih =>
    intro i h
    unfold tkB at h
    rw [Nat.testBit_or, Bool.or_eq_true] at h
    rcases h with h | h
    · have := ih h; omega
    · split at h
      · rw [Nat.testBit_two_pow] at h; simp at h; omega
      · simp at h
theorem lt_of_bits {b c : Nat} (h : ∀ i, b.testBit i = true → i < c) : b < 2 ^ c := by
  apply Nat.lt_pow_two_of_testBit
  intro i hi
  cases hb : b.testBit i with
  | false => rfl
  | true => have := h i hb; omega
theorem tkB_lt {n : Nat} {G : Nat → Nat} {c : Nat} (hc : c ≤ 10) : tkB n G c < 1024 := by
  have h1 := lt_of_bits (fun i h => tkB_bit (n := n) (G := G) (c := c) h)
  have h2 : 2 ^ c ≤ 2 ^ 10 := Nat.pow_le_pow_right (by decide) hc
  omega
/-- the model's memory: n things, c groups -/
def MI (σ : Mem) (n : Nat) (G : Nat → Nat) (c : Nat) : Prop := σ 43 0 = nI n ∧ 1 ≤ n ∧ n ≤ 8 ∧ σ 43 1 = nI c ∧ c ≤ 10 ∧ ∀ g, g < c → σ 44 g = nI (G g) ∧ G g < 256
theorem MI.same {σ σ2 : Mem} {n : Nat} {G : Nat → Nat} {c : Nat} (h : MI σ n G c) (h3 : σ2 43 0 = σ 43 0 ∧ σ2 43 1 = σ 43 1) (h4 : σ2 44 = σ 44) : MI σ2 n G c := by
  obtain ⟨a1, a2, a3, a4, a5, a6⟩ := h
  exact ⟨by rw [h3.1]; exact a1, a2, a3, by rw [h3.2]; exact a4, a5, fun g hg => by rw [h4]; exact a6 g hg⟩
theorem MI.m45 {σ : Mem} {n : Nat} {G : Nat → Nat} {c : Nat} {w : Nat → Int32} (h : MI σ n G c) : MI (mset σ 45 w) n G c := h.same ⟨by rw [mset_ne (by decide)], by rw [mset_ne (by decide)]⟩ (mset_ne (by decide))
theorem M_rowsBy_MI {σ : Mem} {n : Nat} {G : Nat → Nat} {c bs more : Nat} (h : MI σ n G c) (hb : ∀ i, bs.testBit i = true → i < c) (hm : more < 256) : ∃ w, M_rowsBy (nI bs) (nI more) σ = some (nI (cnt n G bs more), mset σ 45 w) ∧ ∀ m, m ≤ fullM n → w m = nI (cw n (nxOf n G bs more) m) := by
  obtain ⟨a1, a2, a3, a4, a5, a6⟩ := h
  have h1 := lt_of_bits hb
  have h2 : 2 ^ c ≤ 2 ^ 10 := Nat.pow_le_pow_right (by decide) a5
  exact M_rowsBy_eq a1 a3 (fun g _ hg2 => a6 g (hb g hg2)) (by omega) hm
theorem M_takenNow_eq {σ : Mem} {n : Nat} {G : Nat → Nat} {c : Nat} (h : MI σ n G c) : ∃ w, M_takenNow σ = some (nI (tkB n G c), mset σ 45 w) := by
  have h5 := h.2.2.2.2.1
  have hn8 := h.2.2.1
  have key : ∃ r, lp (fun s => M_takenNow_b1 s.1 s.2.1 s.2.2) fuel (nI 0, nI 0, mset σ 45 (σ 45)) = some r ∧ ∃ w, r = (nI (tkB n G c), mset σ 45 w) := by
    refine lp_for c (fun j s => ∃ w, s = (nI (tkB n G j), nI j, mset σ 45 w)) _ _ 0 (by omega) ⟨_, rfl⟩ (by omega) ?_ ?_
    · rintro j s hj ⟨w, rfl⟩
      left
      show ∃ s2, M_takenNow_b1 (nI (tkB n G j)) (nI j) (mset σ 45 w) = some (.inl s2) ∧ _
      have hM := h.m45 (w := w)
      unfold M_takenNow_b1
      simp only [lt]
      rw [hM.2.2.2.1, if_neg (by rw [nI_leI (by omega) (by omega)]; omega), xI_bit (by omega), xI_or]
      obtain ⟨w2, e, -⟩ := M_rowsBy_MI hM (bs := tkB n G j ||| 2 ^ j) (more := 0) (by
        intro i hi
        rw [Nat.testBit_or, Bool.or_eq_true] at hi
        rcases hi with hi | hi
        · have := tkB_bit hi; omega
        · rw [Nat.testBit_two_pow] at hi; simp at hi; omega) (by decide)
      have e : M_rowsBy (nI (tkB n G j ||| 2 ^ j)) 0 (mset σ 45 w) = _ := e
      rw [e]
      simp only [Option.bind_some]
      have hcl := cnt_lt (G := G) (bs := tkB n G j ||| 2 ^ j) (more := 0) hn8
      have e2 : (if nI (cnt n G (tkB n G j ||| 2 ^ j) 0) ≤ 0 then (0 : Int32) else nI (2 ^ j)) = nI (if 0 < cnt n G (tkB n G j ||| 2 ^ j) 0 then 2 ^ j else 0) := by
        by_cases c0 : 0 < cnt n G (tkB n G j ||| 2 ^ j) 0
        · rw [if_pos c0, if_neg (nI_nle c0 (by omega))]
        · have : cnt n G (tkB n G j ||| 2 ^ j) 0 = 0 := by omega
          rw [this]; rfl
      rw [e2, xI_or, nI_1]
      refine ⟨_, rfl, w2, ?_⟩
      have e3 : mset (mset σ 45 w) 45 w2 = mset σ 45 w2 := by
        funext k; unfold mset; by_cases hk : k = 45 <;> simp [hk]
      rw [e3]; rfl
    · rintro s ⟨w, rfl⟩
      show ∃ r, M_takenNow_b1 (nI (tkB n G c)) (nI c) (mset σ 45 w) = some (.inr r) ∧ _
      unfold M_takenNow_b1
      rw [(h.m45 (w := w)).2.2.2.1, if_pos (by rw [nI_leI (by omega) (by omega)]; omega)]
      exact ⟨_, rfl, _, rfl⟩
  obtain ⟨r, e, w, rfl⟩ := key
  refine ⟨w, ?_⟩
  unfold M_takenNow
  rw [mset_self] at e
  show (lp _ fuel (nI 0, nI 0, σ)).bind _ = _
  rw [e]; rfl

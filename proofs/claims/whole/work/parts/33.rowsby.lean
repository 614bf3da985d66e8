-- ===== rowsBy =====
theorem nstep_bit (full down nx g i : Nat) : (nstep full down nx g).testBit i = true ↔ nx.testBit i = true ∧ (down &&& (g &&& full) ≠ 0 → down &&& (g &&& full) ≠ g &&& full → (g &&& full).testBit i = true) := by
  unfold nstep
  by_cases c : down &&& (g &&& full) ≠ 0 ∧ down &&& (g &&& full) ≠ g &&& full
  · rw [if_pos c, Nat.testBit_and, Bool.and_eq_true]
    exact ⟨fun h => ⟨h.1, fun _ _ => h.2⟩, fun h => ⟨h.1, h.2 c.1 c.2⟩⟩
  · rw [if_neg c]
    exact ⟨fun h => ⟨h, fun a b => absurd ⟨a, b⟩ c⟩, fun h => h.1⟩
theorem nfold_bit (full down i : Nat) : ∀ (L : List Nat) (nx : Nat), (L.foldl (nstep full down) nx).testBit i = true ↔ nx.testBit i = true ∧ okS (L.map (fun g => g &&& full)) down i := by
  intro L
  induction L with
  | nil => intro nx; simp [okS]
  | cons g L ih =>
    intro nx
    rw [List.foldl_cons, ih, nstep_bit]
    simp only [okS, List.map_cons, List.forall_mem_cons, and_assoc]
theorem nxF_bit (n down i : Nat) (L : List Nat) : (nxF (fullM n) down L).testBit i = true ↔ i < n ∧ down.testBit i = false ∧ okS (L.map (fun g => g &&& fullM n)) down i := by
  unfold nxF
  rw [nfold_bit, sd_bit, full_bit]
  simp [and_assoc]
theorem nxF_lt {n down : Nat} {L : List Nat} (hn : n ≤ 8) : nxF (fullM n) down L < 256 := by
  apply Nat.lt_pow_two_of_testBit (n := 8)
  intro i hi
  cases h : (nxF (fullM n) down L).testBit i with
  | false => rfl
  | true => have := ((nxF_bit n down i L).mp h).1; omega
theorem mset_self (σ : Mem) (k : Nat) : mset σ k (σ k) = σ := by
  funext j; unfold mset; by_cases h : j = k
  · simp [h]
  · simp [h]
theorem mset_ne {σ : Mem} {k j : Nat} {f : Nat → Int32} (h : j ≠ k) : mset σ k f j = σ j := by simp [mset, h]
theorem mset_eq {σ : Mem} {k : Nat} {f : Nat → Int32} : mset σ k f k = f := by simp [mset]
theorem upd_at {f : Nat → Int32} {k j : Nat} {x : Int32} : upd f k x j = if j = k then x else f j := rfl
theorem or_bit_lt {d k : Nat} (hd : d < 256) (hk : k < 8) : d ||| 2 ^ k < 256 := (mk_or d hd k hk).1
theorem nI_add' (a b : Nat) : nI a + nI b = nI (a + b) := nI_add a b
def nxOf (n : Nat) (G : Nat → Nat) (bs more : Nat) : Nat → Nat := fun d => nxF (fullM n) d ((List.range 11).map (nget G bs more))
set_option maxRecDepth 4000 in
theorem M_rowsBy_eq {σ : Mem} {n : Nat} {G : Nat → Nat} {bs more : Nat} (h0 : σ 43 0 = nI n) (hn : n ≤ 8) (hG : ∀ g, g < 10 → bs.testBit g = true → σ 44 g = nI (G g) ∧ G g < 256) (hb : bs < 2 ^ 31) (hm : more < 256) :
    ∃ w, M_rowsBy (nI bs) (nI more) σ = some (nI (cw n (nxOf n G bs more) (fullM n)), mset σ 45 w) ∧ ∀ m, m ≤ fullM n → w m = nI (cw n (nxOf n G bs more) m) := by
  have hfull := full_lt hn
  have hall : ∀ w, M_all (mset σ 45 w) = nI (fullM n) := fun w => M_all_eq (by rw [mset_ne (by decide)]; exact h0) hn
  have h43 : ∀ w, (mset σ 45 w) 43 0 = nI n := fun w => by rw [mset_ne (by decide)]; exact h0
  generalize hnx : nxOf n G bs more = nx
  have hnexts : ∀ d w, d < 256 → M_nexts (nI d) (nI bs) (nI more) (mset σ 45 w) = some (nI (nx d)) := fun d w hd => by
    rw [← hnx]
    exact M_nexts_eq (h43 w) hn (fun g hg hg2 => by rw [mset_ne (by decide)]; exact hG g hg hg2) hd hb hm
  have hnx1 : ∀ d k, (nx d).testBit k = true → d.testBit k = false := fun d k h => by
    rw [← hnx] at h; exact ((nxF_bit n d k _).mp h).2.1
  have hnx2 : ∀ d, nx d < 256 := fun d => by rw [← hnx]; exact nxF_lt hn
  -- the first loop
  have k1 : ∃ r, lp (fun s => M_rowsBy_b1 s.1 s.2) fuel (nI 0, mset σ 45 (σ 45)) = some r ∧ ∃ w, r = mset σ 45 w ∧ ∀ m, m ≤ fullM n → w m = nI (ps n nx m 0 0) := by
    refine lp_for (fullM n + 1) (fun j s => ∃ w, s = (nI j, mset σ 45 w) ∧ ∀ m, m < j → w m = nI (if m = 0 then 1 else 0)) _ _ 0 (by omega) ⟨_, rfl, fun m h => by omega⟩ (by omega) ?_ ?_
    · rintro j s hj ⟨w, rfl, hw⟩
      left
      show ∃ s2, M_rowsBy_b1 (nI j) (mset σ 45 w) = some (.inl s2) ∧ _
      unfold M_rowsBy_b1
      simp only [lt]
      rw [hall, if_neg (by rw [nI_ltI (by omega) (by omega)]; omega), wr_nI (by show j < 256; omega) (by decide), mput_mset]
      refine ⟨_, rfl, _, by rw [nI_1], fun m hm2 => ?_⟩
      rw [upd_at]
      by_cases e : m = j
      · subst e
        rw [if_pos rfl]
        by_cases e0 : m = 0
        · subst e0; rfl
        · rw [if_neg e0, if_neg (nI_ne0 (by omega) (by omega))]; rfl
      · rw [if_neg e]; exact hw m (by omega)
    · rintro s ⟨w, rfl, hw⟩
      show ∃ r, M_rowsBy_b1 (nI (fullM n + 1)) (mset σ 45 w) = some (.inr r) ∧ _
      unfold M_rowsBy_b1
      rw [hall, if_pos (by rw [nI_ltI (by omega) (by omega)]; omega)]
      refine ⟨_, rfl, _, rfl, fun m hm2 => ?_⟩
      rw [hw m (by omega)]
      unfold ps
      rw [sumR_congr (g := fun _ => 0) (fun k _ => by rw [if_neg (by omega)])]
      congr 1
      have : ∀ n, sumR n (fun _ => 0) = 0 := by intro n; induction n with
        | zero => rfl
        | succ n ih => rw [sumR_s, ih]
      rw [this]; rfl
  obtain ⟨r1, e1, w1, rfl, hw1⟩ := k1
  -- the inner loop
  have k2 : ∀ d w x, d < fullM n → x < 256 → (∀ k, k < n → cw n nx d ≠ 0 → (x.testBit k = true ↔ (nx d).testBit k = true)) → (cw n nx d = 0 → x = 0) → (∀ m, m ≤ fullM n → w m = nI (ps n nx m d 0)) → ∃ r, lp (fun s => M_rowsBy_b2 (nI d) (nI x) s.1 s.2) fuel (nI 0, mset σ 45 w) = some r ∧ ∃ w2, r = mset σ 45 w2 ∧ ∀ m, m ≤ fullM n → w2 m = nI (ps n nx m d n) := by
    intro d w x hd hx hx1 hx2 hw
    refine lp_for n (fun j s => ∃ w, s = (nI j, mset σ 45 w) ∧ ∀ m, m ≤ fullM n → w m = nI (ps n nx m d j)) _ _ 0 (by omega) ⟨_, rfl, hw⟩ (by omega) ?_ ?_
    · rintro j s hj ⟨w, rfl, hw⟩
      left
      show ∃ s2, M_rowsBy_b2 (nI d) (nI x) (nI j) (mset σ 45 w) = some (.inl s2) ∧ _
      have hor := or_bit_lt (d := d) (k := j) (by omega) (by omega)
      have horf : d ||| 2 ^ j ≤ fullM n := by
        apply Nat.le_of_testBit
        intro i hi
        rw [Nat.testBit_or, Nat.testBit_two_pow] at hi
        rw [full_bit]
        rcases Bool.or_eq_true _ _ |>.mp hi with h | h
        · have : ¬ n ≤ i := fun hh => by
            have h1 := Nat.ge_two_pow_of_testBit h
            have h2 : 2 ^ n ≤ 2 ^ i := Nat.pow_le_pow_right (by decide) hh
            unfold fullM at hd; omega
          simp; omega
        · simp at h; simp; omega
      unfold M_rowsBy_b2
      simp only [lt]
      rw [h43, if_neg (by rw [nI_leI (by omega) (by omega)]; omega), xI_bit (by omega), xI_or, rd_nI (by show _ < 256; omega) (by decide), M_isIn_eq (by omega) (by omega), rd_nI (by show d < 256; omega) (by decide), mset_eq, hw d (by omega), hw _ horf, ps_fin (Nat.le_refl d)]
      have hc : ((if (if x.testBit j = true then (1 : Int32) else 0) = 0 then some 0 else (some (nI (cw n nx d))).bind fun vq67 => some vq67) : Option Int32) = some (nI (if (nx d).testBit j = true then cw n nx d else 0)) := by
        by_cases c0 : cw n nx d = 0
        · rw [hx2 c0, c0]; simp; rfl
        · have := hx1 j hj c0
          by_cases c : (nx d).testBit j = true
          · rw [this.mpr c]; simp [c]
          · rw [if_neg c, if_pos (by rw [if_neg (fun h => c (this.mp h))])]; rfl
      rw [hc]
      simp only [Option.bind_some]
      rw [nI_add, wr_nI (by show _ < 256; omega) (by decide), mput_mset]
      refine ⟨_, rfl, _, by rw [nI_1], fun m hm2 => ?_⟩
      rw [upd_at, ps_step hj hn (by omega) (by omega) (hnx1 d j)]
      by_cases e : m = d ||| 2 ^ j
      · rw [if_pos e, e]
        by_cases c : (nx d).testBit j = true
        · rw [if_pos c, if_pos ⟨rfl, c⟩]
        · rw [if_neg c, if_neg (fun h => c h.2)]
      · rw [if_neg e, if_neg (fun h => e h.1)]; exact hw m hm2
    · rintro s ⟨w, rfl, hw⟩
      show ∃ r, M_rowsBy_b2 (nI d) (nI x) (nI n) (mset σ 45 w) = some (.inr r) ∧ _
      unfold M_rowsBy_b2
      rw [h43, if_pos (by rw [nI_leI (by omega) (by omega)]; omega)]
      exact ⟨_, rfl, _, rfl, hw⟩
  -- the outer loop
  have k3 : ∃ r, lp (fun s => M_rowsBy_b3 (nI bs) (nI more) s.1 s.2) fuel (nI 0, mset σ 45 w1) = some r ∧ ∃ w, r = mset σ 45 w ∧ ∀ m, m ≤ fullM n → w m = nI (ps n nx m (fullM n) 0) := by
    refine lp_for (fullM n) (fun j s => ∃ w, s = (nI j, mset σ 45 w) ∧ ∀ m, m ≤ fullM n → w m = nI (ps n nx m j 0)) _ _ 0 (by omega) ⟨_, rfl, hw1⟩ (by omega) ?_ ?_
    · rintro d s hd ⟨w, rfl, hw⟩
      left
      show ∃ s2, M_rowsBy_b3 (nI bs) (nI more) (nI d) (mset σ 45 w) = some (.inl s2) ∧ _
      unfold M_rowsBy_b3
      simp only [lt]
      have hcl := cw_lt (nx := nx) hn (m := d) (by omega)
      rw [hall, if_neg (by rw [nI_leI (by omega) (by omega)]; omega), rd_nI (by show d < 256; omega) (by decide), mset_eq, hw d (by omega), ps_fin (Nat.le_refl d), hnexts d w (by omega)]
      simp only [Option.bind_some]
      have hc : ((if nI (cw n nx d) = 0 then some 0 else some (nI (nx d))) : Option Int32) = some (nI (if cw n nx d = 0 then 0 else nx d)) := by
        by_cases c0 : cw n nx d = 0
        · rw [c0]; rfl
        · rw [if_neg c0, if_neg (nI_ne0 (by omega) (by omega))]
      rw [hc]
      simp only [Option.bind_some]
      obtain ⟨r2, e2, w2, rfl, hw2⟩ := k2 d w (if cw n nx d = 0 then 0 else nx d) hd (by split; omega; exact hnx2 d) (fun k _ c => by rw [if_neg c]) (fun c => by rw [if_pos c]) hw
      show ∃ s2, (lp _ fuel (nI 0, mset σ 45 w)).bind _ = _ ∧ _
      rw [e2]
      simp only [Option.bind_some]
      refine ⟨_, rfl, _, by rw [nI_1], fun m hm2 => ?_⟩
      rw [ps_next]; exact hw2 m hm2
    · rintro s ⟨w, rfl, hw⟩
      show ∃ r, M_rowsBy_b3 (nI bs) (nI more) (nI (fullM n)) (mset σ 45 w) = some (.inr r) ∧ _
      unfold M_rowsBy_b3
      rw [hall, if_pos (by rw [nI_leI (by omega) (by omega)]; omega)]
      exact ⟨_, rfl, _, rfl, hw⟩
  obtain ⟨r3, e3, w3, rfl, hw3⟩ := k3
  refine ⟨w3, ?_, fun m hm2 => by rw [hw3 m hm2, ps_fin hm2]⟩
  unfold M_rowsBy
  rw [mset_self] at e1
  show (lp _ fuel (nI 0, σ)).bind _ = _
  rw [e1]
  simp only [Option.bind_some]
  show (lp _ fuel (nI 0, mset σ 45 w1)).bind _ = _
  rw [e3]
  simp only [Option.bind_some]
  rw [hall, rd_nI (by show _ < 256; omega) (by decide), mset_eq, hw3 _ (Nat.le_refl _), ps_fin (Nat.le_refl _)]
  rfl

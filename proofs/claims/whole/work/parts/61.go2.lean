def GoAt (n : Nat) (nx : Nat → Nat) (g e : Nat → Int32) (m : Nat) : Prop := (e m = 0 ∨ e m = 1) ∧ ∃ gm, gm < 256 ∧ g m = nI gm ∧ (∀ k, gm.testBit k = true ↔ (k < n ∧ cw n nx m ≠ 0 ∧ (nx m).testBit k = true ∧ e (m ||| 2 ^ k) = 1)) ∧ (e m = 1 ↔ (m = fullM n ∨ gm ≠ 0))
theorem or_ge {m k : Nat} : m ≤ m ||| 2 ^ k := Nat.left_le_or
theorem or_gt {m k : Nat} (h : m.testBit k = false) : m < m ||| 2 ^ k := by
  have h1 : m ≤ m ||| 2 ^ k := Nat.left_le_or
  have h2 : m ≠ m ||| 2 ^ k := by
    intro e
    have h3 : (m ||| 2 ^ k).testBit k = true := by rw [Nat.testBit_or, Nat.testBit_two_pow]; simp
    rw [← e, h] at h3; cases h3
  omega
theorem curr_dec {a : Nat} (h : 0 < a) : nI a + (-1) = nI (a - 1) := by
  obtain ⟨b, rfl⟩ : ∃ b, a = b + 1 := ⟨a - 1, by omega⟩
  rw [pk_m1]; rfl
theorem M_findsGo_eq {σ : Mem} {n : Nat} {G : Nat → Nat} {c : Nat} (h : MI σ n G c) : ∃ τ, M_findsGo σ = some τ ∧ PubM σ τ ∧ ∀ m, m ≤ fullM n → GoAt n (nxOf n G (tkB n G c) 0) (τ 46) (τ 47) m := by
  obtain ⟨w1, e1⟩ := M_takenNow_eq h
  have hM1 := h.m45 (w := w1)
  have hn := h.2.2.1
  have hfull := full_lt hn
  have htk := tkB_lt (n := n) (G := G) h.2.2.2.2.1
  obtain ⟨w2, e2, hw2⟩ := M_rowsBy_MI hM1 (bs := tkB n G c) (more := 0) (fun i hi => tkB_bit hi) (by decide)
  rw [mset_mset] at e2
  have hM2 := h.m45 (w := w2)
  generalize hσ1 : mset σ 45 w2 = σ1 at e2 hM2
  generalize hnx : nxOf n G (tkB n G c) 0 = nx at hw2 ⊢
  have h0 := hM2.1
  have hnx1 : ∀ d k, (nx d).testBit k = true → d.testBit k = false := fun d k hh => by
    rw [← hnx] at hh; exact ((nxOf_bit n G _ 0 d k).mp hh).2.1
  have hnx0 : ∀ d k, (nx d).testBit k = true → k < n := fun d k hh => by
    rw [← hnx] at hh; exact ((nxOf_bit n G _ 0 d k).mp hh).1
  have hnx2 : ∀ d, nx d < 256 := fun d => by rw [← hnx]; exact nxF_lt hn
  have h45 : ∀ g e m, m ≤ fullM n → ms2 σ1 g e 45 m = nI (cw n nx m) := fun g e m hm => by
    rw [ms2_ne (by decide) (by decide), ← hσ1, mset_eq]; exact hw2 m hm
  have hall : ∀ g e, M_all (ms2 σ1 g e) = nI (fullM n) := fun g e => M_all_eq (by rw [ms2_ne (by decide) (by decide)]; exact h0) hn
  have hnexts : ∀ d g e, d < 256 → M_nexts (nI d) (nI (tkB n G c)) 0 (ms2 σ1 g e) = some (nI (nx d)) := fun d g e hd => by
    have hM3 : MI (ms2 σ1 g e) n G c := ms2_pub.mi hM2
    rw [← hnx]
    exact M_nexts_eq (more := 0) hM3.1 hn (fun q _ hq2 => hM3.2.2.2.2.2 q (tkB_bit hq2)) hd (by omega) (by decide)
  have key : ∃ r, lp (fun s => M_findsGo_b2 (nI (tkB n G c)) s.1 s.2) fuel (nI (fullM n), ms2 σ1 (σ1 46) (σ1 47)) = some r ∧ ∃ g e, r = ms2 σ1 g e ∧ ∀ m, m ≤ fullM n → GoAt n nx g e m := by
    refine lp_for (fullM n + 1) (fun j s => ∃ g e, s = ((if j ≤ fullM n then nI (fullM n - j) else -1), ms2 σ1 g e) ∧ ∀ m, m ≤ fullM n → fullM n < m + j → GoAt n nx g e m) _ _ 0 (by omega) ⟨_, _, by rw [if_pos (by omega)]; rfl, fun m h1 h2 => by omega⟩ (by omega) ?_ ?_
    · rintro j s hj ⟨g, e, rfl, hG⟩
      left
      rw [if_pos (by omega)]
      obtain ⟨d, hd⟩ : ∃ d, d = fullM n - j := ⟨_, rfl⟩
      rw [← hd]
      have hcl := cw_lt (nx := nx) hn (m := d) (by omega)
      have hdf : d ≤ fullM n := by omega
      show ∃ s2, M_findsGo_b2 (nI (tkB n G c)) (nI d) (ms2 σ1 g e) = some (.inl s2) ∧ _
      unfold M_findsGo_b2
      simp only [lt]
      rw [if_neg (nI_pos (by omega)), rd_nI (by show d < 256; omega) (by decide), h45 g e d hdf, hnexts d g e (by omega)]
      simp only [Option.bind_some]
      have hc : ((if nI (cw n nx d) = 0 then some 0 else some (nI (nx d))) : Option Int32) = some (nI (if cw n nx d = 0 then 0 else nx d)) := by
        by_cases c0 : cw n nx d = 0
        · rw [c0]; rfl
        · rw [if_neg c0, if_neg (nI_ne0 (by omega) (by omega))]
      rw [hc]
      simp only [Option.bind_some]
      rw [wr_nI (by show d < 256; omega) (by decide), ms2_p46]
      simp only [Option.bind_some]
      rw [hall, wr_nI (by show d < 256; omega) (by decide), ms2_p47]
      simp only [Option.bind_some]
      have hev : (if nI d = nI (fullM n) then (1 : Int32) else 0) = (if d = fullM n then 1 else 0) := by
        by_cases c1 : d = fullM n
        · rw [if_pos c1, c1, if_pos rfl]
        · rw [if_neg c1, if_neg (nI_ne (by omega) (by omega) c1)]
      rw [hev]
      obtain ⟨x, hx⟩ : ∃ x, x = (if cw n nx d = 0 then 0 else nx d) := ⟨_, rfl⟩
      rw [← hx]
      have hx256 : x < 256 := by rw [hx]; split; omega; exact hnx2 d
      have hxd : ∀ k, x.testBit k = true → d.testBit k = false := by
        intro k hk
        rw [hx] at hk
        split at hk
        · simp at hk
        · exact hnx1 d k hk
      obtain ⟨r, er, rfl⟩ := go_inner h0 hn (d := d) (by omega) hx256 hxd g e (if d = fullM n then 1 else 0) (by split; exact Or.inr rfl; exact Or.inl rfl)
      have er' : lp (fun s => M_findsGo_b1 (nI d) (nI x) s.1 s.2) fuel (0, ms2 σ1 (upd g d 0) (upd e d (if d = fullM n then 1 else 0))) = _ := er
      rw [er']
      simp only [Option.bind_some]
      refine ⟨_, rfl, upd g d (nI (bitsUp (cB e x d) n)), upd e d (if bitsUp (cB e x d) n = 0 then (if d = fullM n then 1 else 0) else 1), ?_, ?_⟩
      · have e5 : nI d + -1 = (if j + 1 ≤ fullM n then nI (fullM n - (j + 1)) else -1) := by
          by_cases c1 : j + 1 ≤ fullM n
          · rw [if_pos c1, curr_dec (by omega), show d - 1 = fullM n - (j + 1) by omega]
          · rw [if_neg c1, show d = 0 by omega]; rfl
        rw [e5]
      · intro m hm hmj
        by_cases em : m = d
        · subst em
          refine ⟨?_, bitsUp (cB e x m) n, bitsUp_lt hn, by rw [upd_at, if_pos rfl], fun k => ?_, ?_⟩
          · rw [upd_at, if_pos rfl]
            split
            · split
              · exact Or.inr rfl
              · exact Or.inl rfl
            · exact Or.inr rfl
          · rw [bitsUp_bit]
            refine and_congr_right fun hk => ?_
            unfold cB
            rw [Bool.and_eq_true, decide_eq_true_eq]
            rw [hx]
            by_cases c0 : cw n nx m = 0
            · rw [if_pos c0]; simp [c0]
            · rw [if_neg c0]
              constructor
              · rintro ⟨h1, h2⟩
                refine ⟨c0, h1, ?_⟩
                have := or_gt (hnx1 m k h1)
                rw [upd_at, if_neg (by omega)]; exact h2
              · rintro ⟨-, h1, h2⟩
                have := or_gt (hnx1 m k h1)
                rw [upd_at, if_neg (by omega)] at h2
                exact ⟨h1, h2⟩
          · rw [upd_at, if_pos rfl]
            by_cases c1 : m = fullM n
            · rw [if_pos c1]
              simp [c1]
            · rw [if_neg c1]
              by_cases c2 : bitsUp (cB e x m) n = 0
              · rw [if_pos c2]; simp [c1, c2]
              · rw [if_neg c2]; simp [c2]
        · obtain ⟨a1, gm, a2, a3, a4, a5⟩ := hG m hm (by omega)
          have hmd : d < m := by omega
          refine ⟨by rw [upd_at, if_neg em]; exact a1, gm, a2, by rw [upd_at, if_neg em]; exact a3, fun k => ?_, by rw [upd_at, if_neg em]; exact a5⟩
          have := or_ge (m := m) (k := k)
          rw [upd_at, if_neg (by omega)]; exact a4 k
    · rintro s ⟨g, e, rfl, hG⟩
      rw [if_neg (by omega)]
      show ∃ r, M_findsGo_b2 (nI (tkB n G c)) (-1) (ms2 σ1 g e) = some (.inr r) ∧ _
      unfold M_findsGo_b2
      rw [if_pos (by decide)]
      exact ⟨_, rfl, _, _, rfl, fun m hm => hG m hm (by omega)⟩
  obtain ⟨r, er, g, e, rfl, hG⟩ := key
  have hself : ms2 σ1 (σ1 46) (σ1 47) = σ1 := by
    unfold ms2
    have : mset σ1 46 (σ1 46) = σ1 := mset_self σ1 46
    rw [this, mset_self]
  rw [hself] at er
  refine ⟨ms2 σ1 g e, ?_, ?_, fun m hm => by rw [ms2_46, ms2_47]; exact hG m hm⟩
  · unfold M_findsGo
    rw [e1]
    simp only [Option.bind_some, lt]
    have e2' : M_rowsBy (nI (tkB n G c)) 0 (mset σ 45 w1) = _ := e2
    rw [e2']
    simp only [Option.bind_some]
    have ha : M_all σ1 = nI (fullM n) := M_all_eq h0 hn
    rw [ha, er]
    rfl
  · rw [← hσ1]
    exact (PubM.set (by decide)).tr ms2_pub

/- the law's loop -/
theorem l_and31 (x : Int32) : ∃ k, k < 32 ∧ x &&& 31 = nI k := by
  refine ⟨(x &&& 31).toBitVec.toNat, ?_, ?_⟩
  · show (x.toBitVec &&& (31#32)).toNat < 32
    rw [BitVec.toNat_and]
    exact Nat.lt_of_le_of_lt Nat.and_le_right (by decide)
  · apply xI_ext
    rw [xI_bv]
    exact (BitVec.eq_of_toNat_eq (by rw [BitVec.toNat_ofNat, Nat.mod_eq_of_lt (x &&& 31).toBitVec.isLt]))
theorem l_L {Z : Lx} (hZ : Lw Z) : zL Z ≤ 3072 := by
  obtain ⟨p, l, e, s, m, below, meth, c, b, L, xs, Y⟩ := Z
  obtain ⟨hx, hb, hml, ho, hts, hK, hI0, hI1, hA0, hA1, hdj, hSt, hN, hX, hbl, hr, hlk, hL⟩ := hZ
  exact hL
set_option maxHeartbeats 2000000 in
theorem l_sw {Z : Lx} (hZ : Lw Z) {σ μ : Mem} {i k : Nat} (hk : k < 32) (hi : i + 6 ≤ zL Z) (h : Rel σ μ) (kk : ∀ σ2 μ2 : Mem, Rel σ2 μ2 → GL Z σ2 μ2 (LV Z i) 876 []) : GL Z σ μ (LV Z i) 33 [.int (nI k)] := by
  rcases (show k = 0 ∨ k = 1 ∨ k = 2 ∨ k = 3 ∨ k = 4 ∨ k = 5 ∨ k = 6 ∨ k = 7 ∨ k = 8 ∨ k = 9 ∨ k = 10 ∨ k = 11 ∨ k = 12 ∨ k = 13 ∨ k = 14 ∨ k = 15 ∨ k = 16 ∨ k = 17 ∨ k = 18 ∨ k = 19 ∨ k = 20 ∨ k = 21 ∨ k = 22 ∨ k = 23 ∨ k = 24 ∨ k = 25 ∨ k = 26 ∨ k = 27 ∨ k = 28 ∨ k = 29 ∨ k = 30 ∨ k = 31 by omega) with rfl | rfl | rfl | rfl | rfl | rfl | rfl | rfl | rfl | rfl | rfl | rfl | rfl | rfl | rfl | rfl | rfl | rfl | rfl | rfl | rfl | rfl | rfl | rfl | rfl | rfl | rfl | rfl | rfl | rfl | rfl | rfl
  · exact l_tabIn hZ (off := 127) 160 d_L_33 (by decide) (by decide) (by decide +kernel) (by decide) (lc_things hZ hi h kk)
  · exact l_tabIn hZ (off := 150) 183 d_L_33 (by decide) (by decide) (by decide +kernel) (by decide) (lc_group hZ hi h kk)
  · exact l_tabIn hZ (off := 173) 206 d_L_33 (by decide) (by decide) (by decide +kernel) (by decide) (lc_back hZ hi h kk)
  · exact l_tabIn hZ (off := 186) 219 d_L_33 (by decide) (by decide) (by decide +kernel) (by decide) (lc_taken hZ hi h kk)
  · exact l_tabIn hZ (off := 209) 242 d_L_33 (by decide) (by decide) (by decide +kernel) (by decide) (lc_reason hZ hi h kk)
  · exact l_tabIn hZ (off := 232) 265 d_L_33 (by decide) (by decide) (by decide +kernel) (by decide) (lc_read hZ hi h kk)
  · exact l_tabIn hZ (off := 255) 288 d_L_33 (by decide) (by decide) (by decide +kernel) (by decide) (lc_many hZ hi h kk)
  · exact l_tabIn hZ (off := 269) 302 d_L_33 (by decide) (by decide) (by decide +kernel) (by decide) (lc_tree hZ hi h kk)
  · exact l_tabIn hZ (off := 292) 325 d_L_33 (by decide) (by decide) (by decide +kernel) (by decide) (lc_node hZ hi h kk)
  · exact l_tabIn hZ (off := 325) 358 d_L_33 (by decide) (by decide) (by decide +kernel) (by decide) (lc_row hZ hi h kk)
  · exact l_tabIn hZ (off := 358) 391 d_L_33 (by decide) (by decide) (by decide +kernel) (by decide) (lc_may hZ hi h kk)
  · exact l_tabIn hZ (off := 381) 414 d_L_33 (by decide) (by decide) (by decide +kernel) (by decide) (lc_must hZ hi h kk)
  · exact l_tabIn hZ (off := 404) 437 d_L_33 (by decide) (by decide) (by decide +kernel) (by decide) (lc_apart hZ hi h kk)
  · exact l_tabIn hZ (off := 447) 480 d_L_33 (by decide) (by decide) (by decide +kernel) (by decide) (lc_spare hZ hi h kk)
  · exact l_tabIn hZ (off := 460) 493 d_L_33 (by decide) (by decide) (by decide +kernel) (by decide) (lc_type hZ hi h kk)
  · exact l_tabIn hZ (off := 483) 516 d_L_33 (by decide) (by decide) (by decide +kernel) (by decide) (lc_wipe hZ hi h kk)
  · exact l_tabIn hZ (off := 496) 529 d_L_33 (by decide) (by decide) (by decide +kernel) (by decide) (lc_undo hZ hi h kk)
  · exact l_tabIn hZ (off := 509) 542 d_L_33 (by decide) (by decide) (by decide +kernel) (by decide) (lc_fault hZ hi h kk)
  · exact l_tabIn hZ (off := 522) 555 d_L_33 (by decide) (by decide) (by decide +kernel) (by decide) (lc_misses hZ hi h kk)
  · exact l_tabIn hZ (off := 535) 568 d_L_33 (by decide) (by decide) (by decide +kernel) (by decide) (lc_number hZ hi h kk)
  · exact l_tabIn hZ (off := 548) 581 d_L_33 (by decide) (by decide) (by decide +kernel) (by decide) (lc_sheet hZ hi h kk)
  · exact l_tabIn hZ (off := 591) 624 d_L_33 (by decide) (by decide) (by decide +kernel) (by decide) (lc_lose hZ hi h kk)
  · exact l_tabIn hZ (off := 614) 647 d_L_33 (by decide) (by decide) (by decide +kernel) (by decide) (lc_put hZ hi h kk)
  · exact l_tabIn hZ (off := 667) 700 d_L_33 (by decide) (by decide) (by decide +kernel) (by decide) (lc_get hZ hi h kk)
  · exact l_tabIn hZ (off := 710) 743 d_L_33 (by decide) (by decide) (by decide +kernel) (by decide) (lc_copy hZ hi h kk)
  · exact l_tabIn hZ (off := 773) 806 d_L_33 (by decide) (by decide) (by decide +kernel) (by decide) (lc_write hZ hi h kk)
  · exact l_tabIn hZ (off := 806) 839 d_L_33 (by decide) (by decide) (by decide +kernel) (by decide) (lc_count hZ hi h kk)
  · exact l_tabIn hZ (off := 829) 862 d_L_33 (by decide) (by decide) (by decide +kernel) (by decide) (lc_digest hZ hi h kk)
  · exact l_tabOut hZ 876 d_L_33 (Or.inr (by decide)) (by decide) (kk σ μ h)
  · exact l_tabOut hZ 876 d_L_33 (Or.inr (by decide)) (by decide) (kk σ μ h)
  · exact l_tabOut hZ 876 d_L_33 (Or.inr (by decide)) (by decide) (kk σ μ h)
  · exact l_tabOut hZ 876 d_L_33 (Or.inr (by decide)) (by decide) (kk σ μ h)
theorem l_step {Z : Lx} (hZ : Lw Z) {i : Nat} {σ μ : Mem} (hi : i ≤ 4000) (h : Rel σ μ) (kk : i + 6 ≤ zL Z → ∀ σ2 μ2 : Mem, Rel σ2 μ2 → GL Z σ2 μ2 (LV Z (i + 6)) 18 []) : GL Z σ μ (LV Z i) 18 [] := by
  have hL := l_L hZ
  refine l_iload hZ d_L_18 0 rfl ?_
  refine l_aload hZ d_L_19 3 rfl ?_
  refine l_slen hZ d_L_20 ?_
  refine l_bipush hZ 6 d_L_21 (by decide) ?_
  refine l_isub hZ d_L_23 ?_
  refine l_gt hZ 882 d_L_24 (by decide) (fun _ => ?_) (fun hg => ?_)
  · refine l_iconst hZ 1 d_L_882 (by decide) ?_
    exact l_ret hZ d_L_883
  · have h6 : i + 6 ≤ zL Z := by
      refine Nat.le_of_not_lt (fun hc => hg ?_)
      have e1 : (nI (zL Z) - nI 6).toInt = (zL Z : Int) - ((6 : Nat) : Int) := pk_sub_toInt (by omega) (by omega)
      show nI (zL Z) - nI 6 < nI i
      rw [Int32.lt_iff_toInt_lt, e1, nI_toInt (by omega)]
      omega
    refine l_aload hZ d_L_27 3 rfl ?_
    refine l_iload hZ d_L_28 0 rfl ?_
    refine l_sld hZ (i := i) (by omega) d_L_29 ?_
    refine l_bipush hZ 31 d_L_30 (by decide) ?_
    refine l_iand hZ d_L_32 ?_
    obtain ⟨k, hk, ek⟩ := l_and31 (zx Z i)
    rw [ek]
    refine l_sw hZ hk h6 h (fun σ2 μ2 h2 => ?_)
    refine l_iinc hZ (nI (i + 6)) (LV Z (i + 6)) d_L_876 0 rfl (nI_add i 6) (by decide) rfl ?_
    exact l_goto hZ 18 d_L_879 (by decide) (kk h6 σ2 μ2 h2)
theorem l_loop {Z : Lx} (hZ : Lw Z) : ∀ (n i : Nat) (σ μ : Mem), zL Z ≤ i + n → i ≤ 4000 → Rel σ μ → GL Z σ μ (LV Z i) 18 []
  | 0, i, σ, μ, h1, h2, h => l_step hZ h2 h (fun h6 => by omega)
  | n + 1, i, σ, μ, h1, h2, h => l_step hZ h2 h (fun h6 σ2 μ2 h3 => l_loop hZ n (i + 6) σ2 μ2 (by omega) (by have := l_L hZ; omega) h3)

/- the first memories are related -/
theorem sg0_tw : TW sg0 10 ∧ TW sg0 21 ∧ TW sg0 32 := by
  have h1 : ∀ i, i < 8 → fSt 8 i = nI (2 ^ i) ∧ fLn 8 i = 1 := fun i hi => by
    unfold fSt fLn
    rw [if_pos hi, if_pos hi]; exact ⟨rfl, rfl⟩
  refine ⟨⟨fun i hi => ⟨(h1 i hi).1, rfl, (h1 i hi).2⟩, [], rfl, fun i hi => by simp at hi⟩, ⟨fun i hi => ⟨(h1 i hi).1, rfl, (h1 i hi).2⟩, [], rfl, fun i hi => by simp at hi⟩, ⟨fun i hi => ⟨(h1 i hi).1, rfl, (h1 i hi).2⟩, [], rfl, fun i hi => by simp at hi⟩⟩
theorem start_rel : ∃ σ1, O_drawAll sg0 = some σ1 ∧ Rel σ1 mu0 := by
  obtain ⟨t1, t2, t3⟩ := sg0_tw
  obtain ⟨τ, kd, ch, st, root, d1, d2, d3⟩ := drawAll_ok (σ := sg0) (n := 5) (G := fun _ => 0) (c := 0) rfl (by omega) (by omega) rfl (by omega) (fun g hg => by omega) t1 t2 t3
  refine ⟨τ, d1, ⟨5, fun _ => 0, 0, ⟨kd, ch, st, root, d2⟩, ⟨rfl, by omega, by omega, rfl, by omega, fun g hg => by omega⟩⟩, ⟨0, fun _ => 0, ?_, by omega, rfl, fun i hi => by omega⟩, ?_, fun s hs => Or.inl ⟨?_, rfl⟩⟩
  · rw [d3.2 5 (by omega) (by omega)]; rfl
  · show τ 0 6 = mu0 43 29
    rw [d3.2 6 (by omega) (by omega)]; rfl
  · rw [d3.1 7 (by omega) (by omega) (by omega)]
    show fM1 s = -1
    rcases (show s = 0 ∨ s = 1 ∨ s = 2 ∨ s = 3 by omega) with rfl | rfl | rfl | rfl <;> rfl
theorem Rel.ks {σ μ σ' μ' : Mem} (h : Rel σ μ) (h1 : CMx σ' μ') (h2 : Tdx σ' μ') (h3 : KS σ σ') (h4 : KT μ μ') : Rel σ' μ' := by
  refine ⟨h1, h2, ?_, h.2.2.2.keep (fun k hk => h3.1 k (by omega)) (fun k hk => h4.1 k (by omega))⟩
  have hf : σ 0 6 = μ 43 29 := h.2.2.1
  show σ' 0 6 = μ' 43 29
  rw [h3.2, h4.2, hf]
/- the class's constant arrays -/
theorem sts_in : ∀ k, k < 3 → Cond.laysStatic "OrderTrees" (stNm k) "[I" ∈ lw_tbl ∧ Cond.arrayOf (Term.static "OrderTrees" (stNm k) "[I") .int ∈ flatC (Jvm.Cond.and given_1 narrow_1) ∧ Cond.eq (Term.length (Term.static "OrderTrees" (stNm k) "[I")) (.int (Int32.ofNat (stA k).length)) ∈ flatC (Jvm.Cond.and given_1 narrow_1) := by decide +kernel
theorem sts_el : ∀ k, k < 3 → ∀ j, j < (stA k).length → Cond.eq (Term.elem (Term.static "OrderTrees" (stNm k) "[I") (.int (Int32.ofNat j))) (.int ((stA k).getD j 0)) ∈ flatC (Jvm.Cond.and given_1 narrow_1) := by decide +kernel
theorem stA_len : ∀ k, (stA k).length < 2 ^ 31
  | 0 => by decide
  | 1 => by decide
  | _ + 2 => by show [3, 6, 12, 5, 7, 14].length < 2 ^ 31; decide
theorem sts_0 {s : State} {args : Array Value} (hts : ∀ w ∈ lw_tbl, w.before args s = true) (hgv : (Jvm.Cond.and given_1 narrow_1).before args s = true) : ∃ sd : Nat → Nat, ∀ (D : va_G) (cI cZ : ClassId) (a : Nat → Nat), Sts (D, cI, cZ, a, sd) (fun q => s.heap.size ≤ q) s s.heap := by
  have hs := flat_of_before _ hgv
  have hini : (Cond.initialized "OrderTrees").before args s = true := hts _ (List.mem_filter.mp q_1).1
  have key : ∀ k, ∃ t : Nat, k < 3 → va_Z "OrderTrees" (stNm k) "[I" (.ref t) (fun q => s.heap.size ≤ q) s s.heap ∧ va_T .int t (stA k).length (fun j => .int ((stA k).getD j 0)) (fun q => s.heap.size ≤ q) s s.heap := fun k => by
    by_cases hk : k < 3
    · obtain ⟨w1, w2, w3⟩ := sts_in k hk
      obtain ⟨t, ht, hT⟩ := va_Tof (f := fun j => .int ((stA k).getD j 0)) (A := fun q => s.heap.size ≤ q) (stA_len k) (hs _ w2) (va_eqt (hs _ w3)) (fun j hj => va_eqt (hs _ (sts_el k hk j hj))) (fun a ha => Nat.not_le.mpr ha)
      exact ⟨t, fun _ => ⟨va_Zref (hts _ w1) hini ht (fun a ha => Nat.not_le.mpr ha), hT⟩⟩
    · exact ⟨0, fun h => absurd h hk⟩
  obtain ⟨sd, hsd⟩ := Classical.axiomOfChoice key
  exact ⟨sd, fun D cI cZ a k hk => hsd k hk⟩

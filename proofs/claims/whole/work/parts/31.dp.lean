-- ===== the model's rows by sets put down so far =====
def fullM (n : Nat) : Nat := 2 ^ n - 1
/-- popcount below 256 -/
def pc8 (m : Nat) : Nat := ((List.range 8).filter (fun k => m.testBit k)).length
def okS (gs : List Nat) (down k : Nat) : Prop := ∀ g ∈ gs, down &&& g ≠ 0 → down &&& g ≠ g → g.testBit k = true
def nstep (full down : Nat) (nx g : Nat) : Nat := if down &&& (g &&& full) ≠ 0 ∧ down &&& (g &&& full) ≠ g &&& full then nx &&& (g &&& full) else nx
def nxF (full down : Nat) (L : List Nat) : Nat := L.foldl (nstep full down) (sd full down)
/-- the sets that a turn of nexts looks at: none where the group isn't asked for -/
def nget (G : Nat → Nat) (bs more j : Nat) : Nat := if j = 10 then more else if bs.testBit j = true then G j else 0
theorem nstep_0 (full down nx : Nat) : nstep full down nx 0 = nx := by simp [nstep]
theorem full_lt {n : Nat} (h : n ≤ 8) : fullM n < 256 := by
  have : ∀ n, n ≤ 8 → fullM n < 256 := by decide
  exact this n h
theorem full_bit {n k : Nat} : (fullM n).testBit k = decide (k < n) := by
  unfold fullM; exact Nat.testBit_two_pow_sub_one n k
theorem M_all_eq {σ : Mem} {n : Nat} (h : σ 43 0 = nI n) (hn : n ≤ 8) : M_all σ = nI (fullM n) := by
  unfold M_all
  rw [h, xI_bit (by omega)]
  show nI (2 ^ n) - nI 1 = nI (fullM n)
  rw [pk_sub (Nat.one_le_two_pow)]
  rfl
theorem and_lt256 {a b : Nat} (h : b < 256) : a &&& b < 256 := Nat.lt_of_le_of_lt Nat.and_le_right h
set_option maxRecDepth 4000 in
theorem M_nexts_eq {σ : Mem} {n : Nat} {G : Nat → Nat} {d bs more : Nat} (h0 : σ 43 0 = nI n) (hn : n ≤ 8) (hG : ∀ g, g < 10 → bs.testBit g = true → σ 44 g = nI (G g) ∧ G g < 256) (hd : d < 256) (hb : bs < 2 ^ 31) (hm : more < 256) : M_nexts (nI d) (nI bs) (nI more) σ = some (nI (nxF (fullM n) d ((List.range 11).map (nget G bs more)))) := by
  have hall := M_all_eq h0 hn
  have hfull := full_lt hn
  unfold M_nexts
  rw [hall, xI_diff]
  have key : ∃ r, lp (fun s => M_nexts_b1 (nI d) (nI bs) (nI more) σ s.1 s.2) fuel (nI (sd (fullM n) d), nI 0) = some r ∧ r = nI (nxF (fullM n) d ((List.range 11).map (nget G bs more))) := by
   refine lp_for 11 (fun j s => s = (nI (nxF (fullM n) d ((List.range j).map (nget G bs more))), nI j)) (fun r => r = nI (nxF (fullM n) d ((List.range 11).map (nget G bs more)))) _ 0 (by omega) (by rfl) (by omega) ?_ ?_
   · rintro j s hj rfl
     left
     refine ⟨_, ?_, rfl⟩
     show M_nexts_b1 (nI d) (nI bs) (nI more) σ (nI (nxF (fullM n) d ((List.range j).map (nget G bs more)))) (nI j) = _
     generalize hx : nxF (fullM n) d ((List.range j).map (nget G bs more)) = x
     have key : nxF (fullM n) d ((List.range (j + 1)).map (nget G bs more)) = nstep (fullM n) d x (nget G bs more j) := by
       rw [← hx]; simp [nxF, List.range_succ]
     have hg : nget G bs more j < 256 := by
       unfold nget
       split
       · exact hm
       · split
         · rename_i h; exact (hG j (by omega) h).2
         · omega
     unfold M_nexts_b1
     simp only [lt]
     rw [L_11, L_10, if_neg (by rw [nI_leI (by omega) (by omega)]; omega)]
     have e1 : (if nI j = nI 10 then (true : Bool) else if M_isIn (nI bs) (nI j) = 0 then false else true) = decide (j = 10 ∨ bs.testBit j = true) := by
       rw [M_isIn_eq hb (by omega)]
       by_cases c : j = 10
       · subst c; simp
       · rw [if_neg (nI_ne (by omega) (by omega) c)]
         cases bs.testBit j <;> simp [c]
     rw [e1]
     have e2 : ((if nI j = nI 10 then some (nI more) else if (if decide (j = 10 ∨ bs.testBit j = true) = true then (1 : Int32) else 0) = 0 then some 0 else (rd σ 44 (nI j)).bind fun vq38 => some vq38) : Option Int32) = some (nI (nget G bs more j)) := by
       unfold nget
       by_cases c : j = 10
       · subst c; simp
       · rw [if_neg (nI_ne (by omega) (by omega) c), if_neg c]
         by_cases c2 : bs.testBit j = true
         · rw [rd_nI (by show j < 10; omega) (by decide), (hG j (by omega) c2).1]
           simp [c2]
         · simp [c, c2]; rfl
     rw [e2]
     simp only [Option.bind_some]
     rw [hall, xI_and, xI_and, key]
     have hz : ¬ (j = 10 ∨ bs.testBit j = true) → nget G bs more j = 0 := by
       intro c; unfold nget; rw [if_neg (fun h => c (Or.inl h)), if_neg (fun h => c (Or.inr h))]
     clear e2
     generalize nget G bs more j = g at hg hz
     have hgf : g &&& fullM n < 256 := and_lt256 hfull
     have hdg : d &&& (g &&& fullM n) < 256 := and_lt256 hgf
     have e3 : (if (if decide (j = 10 ∨ bs.testBit j = true) = true then (1 : Int32) else 0) = 0 then (false : Bool) else if nI (d &&& (g &&& fullM n)) = 0 then false else if nI (d &&& (g &&& fullM n)) = nI (g &&& fullM n) then false else true) = decide ((j = 10 ∨ bs.testBit j = true) ∧ d &&& (g &&& fullM n) ≠ 0 ∧ d &&& (g &&& fullM n) ≠ g &&& fullM n) := by
       have d1 : nI (d &&& (g &&& fullM n)) = 0 ↔ d &&& (g &&& fullM n) = 0 := nI_eq (a := d &&& (g &&& fullM n)) (b := 0) (by omega) (by omega)
       have d2 : nI (d &&& (g &&& fullM n)) = nI (g &&& fullM n) ↔ d &&& (g &&& fullM n) = g &&& fullM n := nI_eq (by omega) (by omega)
       simp only [d1, d2]
       by_cases c : (j = 10 ∨ bs.testBit j = true) <;> by_cases c2 : d &&& (g &&& fullM n) = 0 <;> by_cases c3 : d &&& (g &&& fullM n) = g &&& fullM n <;> simp [c, c2, c3]
     rw [e3]
     by_cases c : (j = 10 ∨ bs.testBit j = true)
     · unfold nstep
       by_cases c2 : d &&& (g &&& fullM n) ≠ 0 ∧ d &&& (g &&& fullM n) ≠ g &&& fullM n
       · rw [if_pos c2, if_pos (decide_eq_true ⟨c, c2⟩), xI_and, nI_1]
       · rw [if_neg c2, if_neg (by simpa using fun _ => by simpa using c2), nI_1]
     · have := hz c
       subst this
       rw [nstep_0, if_neg (by simp [c]), nI_1]
   · rintro s rfl
     refine ⟨_, ?_, rfl⟩
     show M_nexts_b1 _ _ _ σ _ (nI 11) = _
     unfold M_nexts_b1
     rw [L_11, if_pos (by rw [nI_leI (by omega) (by omega)]; omega)]
  obtain ⟨r, h1, h2⟩ := key
  show (lp _ fuel (nI (sd (fullM n) d), nI 0)).bind _ = _
  rw [h1, h2]; rfl

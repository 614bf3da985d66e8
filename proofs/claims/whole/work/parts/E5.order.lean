def Ub (m : Nat) : List Nat := (List.range 8).filter (fun b => m.testBit b)
def UbT (m j : Nat) : List Nat := (List.range j).filter (fun b => m.testBit b)
theorem UbT_s {m j : Nat} : UbT m (j + 1) = UbT m j ++ if m.testBit j = true then [j] else [] := by
  unfold UbT
  rw [List.range_succ, List.filter_append]
  congr 1
  by_cases q : m.testBit j = true
  · rw [if_pos q]; simp [q]
  · rw [if_neg q]; simp [q]
theorem Ub_split {m j : Nat} (hj : j < 8) (hb : m.testBit j = true) : (Ub m).getD (UbT m j).length 0 = j := by
  have e : List.range 8 = List.range j ++ (j :: (List.range (7 - j)).map (fun x => j + 1 + x)) := by
    have h1 : List.range 8 = List.range (j + (8 - j)) := by rw [show j + (8 - j) = 8 by omega]
    rw [h1, List.range_add]
    congr 1
    have h2 : 8 - j = (7 - j) + 1 := by omega
    rw [h2, List.range_succ_eq_map, List.map_cons, List.map_map]
    congr 1
    refine List.map_congr_left (fun x _ => ?_)
    show j + (x + 1) = j + 1 + x
    omega
  have e2 : Ub m = UbT m j ++ (j :: ((List.range (7 - j)).map (fun x => j + 1 + x)).filter (fun b => m.testBit b)) := by
    unfold Ub UbT
    rw [e, List.filter_append, List.filter_cons_of_pos hb]
  rw [e2, List.getD_eq_getElem?_getD, List.getElem?_append_right (Nat.le_refl _), Nat.sub_self]; rfl
theorem UbT_8 {m : Nat} : UbT m 8 = Ub m := rfl
theorem T_nthBit_eq {m q : Nat} (hm : m < 256) (hq : q < (Ub m).length) : T_nthBit (nI m) (nI q) = some (nI ((Ub m).getD q 0)) := by
  have hl : (Ub m).length ≤ 8 := by have := List.length_filter_le (fun b => m.testBit b) (List.range 8); rw [List.length_range] at this; exact this
  have key : ∃ r, lp (fun s => T_nthBit_b1 (nI m) (nI q) s.1 s.2) fuel (0, 0) = some r ∧ r = .inr (nI ((Ub m).getD q 0)) := by
    refine lp_for 8 (fun j s => s = (nI (UbT m j).length, nI j) ∧ (UbT m j).length ≤ q) _ _ 0 (by omega) ⟨rfl, by simp [UbT]⟩ (by omega) ?_ ?_
    · intro j s hj ⟨hs, hle⟩
      subst hs
      have hg : ¬ (8 : Int32) ≤ nI j := nI_ge (b := 8) hj (by omega)
      by_cases cb : m.testBit j = true
      · have hnz : ¬ ((nI m >>> (nI j &&& 31)) &&& 1) = 0 := fun w => by rw [tst_bit (by omega) (by omega)] at w; rw [w] at cb; cases cb
        by_cases ce : (UbT m j).length = q
        · right
          refine ⟨_, ?_, rfl⟩
          unfold T_nthBit_b1
          refine ifn hg ?_
          refine ob (a := .inr (.inr (.inr (nI j)))) ?_ ?_
          · refine ifn hnz ?_
            exact ifp (by rw [ce]) rfl
          · rw [← ce, Ub_split hj cb]; rfl
        · left
          refine ⟨(nI (UbT m (j + 1)).length, nI (j + 1)), ?_, rfl, ?_⟩
          · unfold T_nthBit_b1
            refine ifn hg ?_
            refine ob (a := .inl (nI (UbT m (j + 1)).length)) ?_ ?_
            · refine ifn hnz ?_
              refine ifn (nI_ne (by omega) (by omega) ce) ?_
              refine lti (b := nI (UbT m (j + 1)).length) ?_ rfl
              rw [UbT_s, if_pos cb, List.length_append]; exact nI_1 _
            · show lt (nI j + 1) (fun v => some (Sum.inl (nI (UbT m (j + 1)).length, v))) = _
              exact lti (nI_1 _) rfl
          · rw [UbT_s, if_pos cb, List.length_append]; simp; omega
      · left
        refine ⟨(nI (UbT m (j + 1)).length, nI (j + 1)), ?_, rfl, ?_⟩
        · unfold T_nthBit_b1
          refine ifn hg ?_
          refine ob (a := .inl (nI (UbT m (j + 1)).length)) ?_ ?_
          · rw [UbT_s, if_neg cb, List.append_nil]
            exact ifp ((tst_bit (by omega) (by omega)).mpr (by simpa using cb)) rfl
          · show lt (nI j + 1) (fun v => some (Sum.inl (nI (UbT m (j + 1)).length, v))) = _
            exact lti (nI_1 _) rfl
        · rw [UbT_s, if_neg cb, List.append_nil]; exact hle
    · intro s ⟨hs, hle⟩
      rw [UbT_8] at hle
      omega
  obtain ⟨r, k1, k2⟩ := key
  unfold T_nthBit
  refine ob k1 ?_
  rw [k2]; rfl
/- the model's search: w has the used ones, m the others, below n -/
theorem orders_b1_eq {m w n q : Nat} (hn : n ≤ 8) (hw : w < 2 ^ 31) (hmn : ∀ b, m.testBit b = true → b < n) (hwm : ∀ b, b < n → (w.testBit b = true ↔ m.testBit b = false)) (hq : q < (Ub m).length) : lp (fun s => M_orders_b1 (nI w) s.1 s.2) fuel (nI q, 0) = some (nI ((Ub m).getD q 0)) := by
  have hl : (Ub m).length ≤ 8 := by have := List.length_filter_le (fun b => m.testBit b) (List.range 8); rw [List.length_range] at this; exact this
  have key : ∃ r, lp (fun s => M_orders_b1 (nI w) s.1 s.2) fuel (nI q, 0) = some r ∧ r = nI ((Ub m).getD q 0) := by
    refine lp_for n (fun j s => s = (nI (q - (UbT m j).length), nI j) ∧ (UbT m j).length ≤ q) _ _ 0 (by omega) ⟨by simp [UbT]; rfl, by simp [UbT]⟩ (by omega) ?_ ?_
    · intro j s hj ⟨hs, hle⟩
      subst hs
      have hin := M_isIn_eq (a := w) (k := j) hw (by omega)
      by_cases cb : m.testBit j = true
      · have hwj : ¬ w.testBit j = true := fun e => by have := (hwm j hj).mp e; rw [this] at cb; cases cb
        rw [if_neg hwj] at hin
        by_cases ce : (UbT m j).length = q
        · right
          refine ⟨_, ?_, rfl⟩
          unfold M_orders_b1
          refine lti (b := false) ?_ ?_
          · show (if M_isIn (nI w) (nI j) = 0 then if nI (q - (UbT m j).length) ≤ 0 then false else true else true : Bool) = false
            rw [hin, if_pos rfl]
            exact if_pos (by rw [ce, Nat.sub_self]; decide)
          · refine ifn (by decide) ?_
            rw [← ce, Ub_split (by omega) cb]
        · left
          refine ⟨(nI (q - (UbT m (j + 1)).length), nI (j + 1)), ?_, rfl, ?_⟩
          · unfold M_orders_b1
            refine lti (b := true) ?_ ?_
            · show (if M_isIn (nI w) (nI j) = 0 then if nI (q - (UbT m j).length) ≤ 0 then false else true else true : Bool) = true
              rw [hin, if_pos rfl]
              exact if_neg (nI_nle (by omega) (by omega))
            · refine ifp rfl ?_
              refine lti (b := 1) (by show (if M_isIn (nI w) (nI j) = 0 then (1 : Int32) else 0) = 1; rw [hin]; rfl) ?_
              refine lti (b := nI (q - (UbT m (j + 1)).length)) ?_ (lti (nI_1 _) rfl)
              show nI (q - (UbT m j).length) - 1 = _
              rw [zz_dec (by omega), UbT_s, if_pos cb, List.length_append]
              congr 1
          · rw [UbT_s, if_pos cb, List.length_append]; simp; omega
      · have hwj : w.testBit j = true := (hwm j hj).mpr (by simpa using cb)
        rw [if_pos hwj] at hin
        left
        refine ⟨(nI (q - (UbT m (j + 1)).length), nI (j + 1)), ?_, rfl, ?_⟩
        · unfold M_orders_b1
          refine lti (b := true) ?_ ?_
          · show (if M_isIn (nI w) (nI j) = 0 then if nI (q - (UbT m j).length) ≤ 0 then false else true else true : Bool) = true
            rw [hin]; rfl
          · refine ifp rfl ?_
            refine lti (b := 0) (by show (if M_isIn (nI w) (nI j) = 0 then (1 : Int32) else 0) = 0; rw [hin]; rfl) ?_
            refine lti (b := nI (q - (UbT m (j + 1)).length)) ?_ (lti (nI_1 _) rfl)
            show nI (q - (UbT m j).length) - 0 = _
            rw [UbT_s, if_neg cb, List.append_nil, L_0, pk_sub (by omega)]; rfl
        · rw [UbT_s, if_neg cb, List.append_nil]; exact hle
    · intro s ⟨hs, hle⟩
      exfalso
      have e : Ub m = UbT m n := by
        have e0 : List.range 8 = List.range n ++ (List.range (8 - n)).map (fun x => n + x) := by
          have h1 : List.range 8 = List.range (n + (8 - n)) := by rw [show n + (8 - n) = 8 by omega]
          rw [h1, List.range_add]
        unfold Ub UbT
        rw [e0, List.filter_append]
        have z : ((List.range (8 - n)).map (fun x => n + x)).filter (fun b => m.testBit b) = [] := by
          rw [List.filter_eq_nil_iff]
          intro a ha w
          obtain ⟨x, hx, e⟩ := List.mem_map.mp ha
          have := hmn a w
          omega
        rw [z, List.append_nil]
      rw [e] at hq
      omega
  obtain ⟨r, k1, k2⟩ := key
  rw [k1, k2]

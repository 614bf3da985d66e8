def chO (ch : Nat → List Nat) (nd : Nat) (L : List Nat) : List Nat := L.map (fun j => (ch nd).getD j 0)
theorem chO_app {ch : Nat → List Nat} {nd : Nat} {A B : List Nat} : chO ch nd (A ++ B) = chO ch nd A ++ chO ch nd B := by unfold chO; rw [List.map_append]
theorem pwM_nodup : ∀ (k m way : Nat), (Ub m).length = k → way < fac k → (pwM k m way).Nodup ∧ ∀ x ∈ pwM k m way, x ∈ Ub m
  | 0, m, way, _, _ => ⟨by simp [pwM], by simp [pwM]⟩
  | k + 1, m, way, hl, hw => by
    have hq : way / fac k < (Ub m).length := by
      rw [hl, Nat.div_lt_iff_lt_mul (fac_pos _)]; exact hw
    have hmem := getD_mem hq
    have hd := Ub_drop hmem
    obtain ⟨i1, i2⟩ := pwM_nodup k (sd m (2 ^ ((Ub m).getD (way / fac k) 0))) (way % fac k) (by omega) (Nat.mod_lt _ (fac_pos _))
    have hsub : ∀ x ∈ pwM k (sd m (2 ^ ((Ub m).getD (way / fac k) 0))) (way % fac k), x ∈ Ub m ∧ x ≠ (Ub m).getD (way / fac k) 0 := fun x hx => by
      have h1 := Ub_mem.mp (i2 x hx)
      rw [sd_bit, Bool.and_eq_true, Nat.testBit_two_pow] at h1
      refine ⟨Ub_mem.mpr ⟨h1.1, h1.2.1⟩, fun e => ?_⟩
      have h2 := h1.2.2
      rw [e] at h2; simp at h2
    constructor
    · show (_ :: _).Nodup
      rw [List.nodup_cons]
      exact ⟨fun q => (hsub _ q).2 rfl, i1⟩
    · intro x hx
      have hx : x ∈ (Ub m).getD (way / fac k) 0 :: pwM k (sd m (2 ^ ((Ub m).getD (way / fac k) 0))) (way % fac k) := hx
      rw [List.mem_cons] at hx
      rcases hx with q | q
      · rw [q]; exact hmem
      · exact (hsub x q).1
theorem ordL_row {b : Bool} {n way : Nat} (hn : n ≤ 8) (hw : way < wys b n) : (ordL b n way).Nodup ∧ (ordL b n way).length = n ∧ ∀ x ∈ ordL b n way, x < n := by
  cases b
  · have hw : way < fac n := hw
    obtain ⟨a1, a2⟩ := pwM_nodup n (fullM n) way (Ub_full hn) hw
    refine ⟨a1, ?_, fun x hx => ?_⟩
    · have : ∀ k m way, (pwM k m way).length = k := by
        intro k
        induction k with
        | zero => intro m way; rfl
        | succ k ih => intro m way; show (_ :: _).length = _; rw [List.length_cons, ih]
      exact this n _ _
    · have := (Ub_mem.mp (a2 x hx)).2
      rw [full_bit, decide_eq_true_iff] at this; exact this
  · unfold ordL
    rw [if_pos rfl]
    by_cases q : way = 0
    · rw [if_pos q]; exact ⟨List.nodup_range, List.length_range, fun x hx => List.mem_range.mp hx⟩
    · rw [if_neg q]; exact ⟨nodup_rev.mpr List.nodup_range, by simp, fun x hx => List.mem_range.mp (List.mem_reverse.mp hx)⟩
section
variable {σ : Mem} {t : Nat} {kd : Nat → Bool} {ch : Nat → List Nat} {st : Nat → Nat}
theorem M8_at (hA : AT σ t kd ch st) {g : Nat → Int32} : AT (mset σ (t + 8) g) t kd ch st := hA.same (mset_ne (by omega)) (mset_ne (by omega)) (mset_ne (by omega)) (mset_ne (by omega))
theorem T_layParts_eq (hA : AT σ t kd ch st) (ht : isT t) {nd way s : Nat} (hnd : nd < 24) (hne : ch nd ≠ []) (hC : ∀ c ∈ ch nd, Us ch c ∧ c ≠ nd) (hnp : (ch nd).Nodup) (hw : way < wys (kd nd) (ch nd).length) (h8 : σ (t + 8) nd = nI s) (hs : s ≤ 8) : ∃ g, T_layParts t (nI nd) (nI way) σ = some (mset σ (t + 8) g) ∧ (∀ i, i < (ch nd).length → g ((chO ch nd (ordL (kd nd) (ch nd).length way)).getD i 0) = nI (s + pcs st ((chO ch nd (ordL (kd nd) (ch nd).length way)).take i))) ∧ ∀ x, x ∉ ch nd → g x = σ (t + 8) x := by
  have hlen := (hA nd hnd).1
  generalize hn : (ch nd).length = n at *
  have hn1 : 1 ≤ n := by rw [← hn]; exact List.length_pos_iff.mpr hne
  obtain ⟨o1, o2, o3⟩ := ordL_row hlen hw
  -- one step of the loop's end, the same for both kinds
  have child : ∀ j, j < n → (ch nd).getD j 0 ∈ ch nd := fun j hj => getD_mem (by rw [hn]; exact hj)
  have c24 : ∀ j, j < n → (ch nd).getD j 0 < 24 := fun j hj => hA.lt24 hnd (child j hj)
  have stc : ∀ j, j < n → st ((ch nd).getD j 0) < 256 := fun j hj => ((hA _ (c24 j hj)).2.2.2.1 (hC _ (child j hj)).1).1
  have cinj : ∀ i j, i < n → j < n → (ch nd).getD i 0 = (ch nd).getD j 0 → i = j := fun i j hi hj e => by
    refine Classical.byContradiction (fun hne2 => ?_)
    unfold List.Nodup at hnp
    rw [List.pairwise_iff_getElem] at hnp
    have hil : i < (ch nd).length := by rw [hn]; exact hi
    have hjl : j < (ch nd).length := by rw [hn]; exact hj
    rw [List.getD_eq_getElem?_getD, List.getD_eq_getElem?_getD, List.getElem?_eq_getElem hil, List.getElem?_eq_getElem hjl] at e
    have e : (ch nd)[i] = (ch nd)[j] := e
    rcases Nat.lt_or_gt_of_ne hne2 with h | h
    · exact hnp i j hil hjl h e
    · exact hnp j i hjl hil h e.symm
  have fin : ∀ (v8 v9 : Int32) (i x : Nat) (Li : List Nat) (g : Nat → Int32) (q : Option (Int32 × Int32 × Int32)) , x < n → q = some (v8, v9, nI x) → q.bind (fun q => lt q.1 (fun vq34 => lt q.2.1 (fun vq35 => lt q.2.2 (fun vq36 => (T_part t (nI nd) vq36 (mset σ (t + 8) g)).bind (fun vq53 => (wr (mset σ (t + 8) g) (t + 8) vq53 (nI (s + pcs st (chO ch nd Li)))).bind (fun σ57 => (rd σ57 (t + 2) vq53).bind (fun vq59 => lt (nI (s + pcs st (chO ch nd Li)) + (J_bitCount vq59)) (fun vq62 => lt (nI i + 1) (fun vq64 => some (Sum.inl (vq62, vq34, vq35, vq64, σ57) : (Int32 × Int32 × Int32 × Int32 × Mem) ⊕ Mem))))))))))  = some (Sum.inl (nI (s + pcs st (chO ch nd (Li ++ [x]))), v8, v9, nI (i + 1), mset σ (t + 8) (upd g ((ch nd).getD x 0) (nI (s + pcs st (chO ch nd Li)))))) := fun v8 v9 i x Li g q hx e => by
    refine ob e ?_
    refine lti rfl ?_
    refine lti rfl ?_
    refine lti rfl ?_
    refine ob ((M8_at hA).part ht hnd (by rw [hn]; exact hx)) ?_
    refine ob (a := mset σ (t + 8) (upd g ((ch nd).getD x 0) (nI (s + pcs st (chO ch nd Li))))) (by rw [wrT (lnT8 ht) (c24 x hx) (by omega), mput_mset]) ?_
    refine ob ((M8_at hA).set ht (c24 x hx) (hC _ (child x hx)).1) ?_
    refine lti (b := nI (s + pcs st (chO ch nd (Li ++ [x])))) ?_ (lti (nI_1 _) rfl)
    rw [bc8 _ (stc x hx), nI_add, chO_app, pcs_app, Nat.add_assoc]
    congr 2
  -- what the starts are
  have keepG : ∀ (Li : List Nat) (x : Nat) (g : Nat → Int32), (Li ++ [x]).Nodup → (∀ y ∈ Li ++ [x], y < n) → (∀ i, i < Li.length → g ((chO ch nd Li).getD i 0) = nI (s + pcs st ((chO ch nd Li).take i))) → (∀ y, y ∉ ch nd → g y = σ (t + 8) y) → (∀ i, i < (Li ++ [x]).length → upd g ((ch nd).getD x 0) (nI (s + pcs st (chO ch nd Li))) ((chO ch nd (Li ++ [x])).getD i 0) = nI (s + pcs st ((chO ch nd (Li ++ [x])).take i))) ∧ ∀ y, y ∉ ch nd → upd g ((ch nd).getD x 0) (nI (s + pcs st (chO ch nd Li))) y = σ (t + 8) y := fun Li x g hnd2 hlt hg hy => by
    have hxl : x < n := hlt x (by simp)
    have hcl : (chO ch nd Li).length = Li.length := by unfold chO; rw [List.length_map]
    have e1 : chO ch nd (Li ++ [x]) = chO ch nd Li ++ [(ch nd).getD x 0] := by rw [chO_app]; rfl
    constructor
    · intro i hi
      rw [List.length_append, List.length_singleton] at hi
      rw [e1, upd_at]
      by_cases q : i = Li.length
      · subst q
        have e2 : (chO ch nd Li ++ [(ch nd).getD x 0]).getD Li.length 0 = (ch nd).getD x 0 := by
          conv => lhs; arg 2; rw [← hcl]
          exact getD_app_r
        rw [e2, if_pos rfl, List.take_append_of_le_length (by rw [hcl]; exact Nat.le_refl _), List.take_of_length_le (by rw [hcl]; exact Nat.le_refl _)]
      · have hil : i < Li.length := by omega
        have e2 : (chO ch nd Li ++ [(ch nd).getD x 0]).getD i 0 = (chO ch nd Li).getD i 0 := getD_app_lt (by rw [hcl]; exact hil)
        rw [e2]
        have e3 : (chO ch nd Li).getD i 0 = (ch nd).getD (Li.getD i 0) 0 := by
          unfold chO
          rw [List.getD_eq_getElem?_getD, List.getElem?_map, List.getElem?_eq_getElem hil]
          rw [List.getD_eq_getElem?_getD (l := Li), List.getElem?_eq_getElem hil]; rfl
        rw [if_neg, hg i hil, List.take_append_of_le_length (by rw [hcl]; omega)]
        rw [e3]
        intro e4
        have hm := getD_mem hil
        have := cinj _ _ (hlt _ (List.mem_append.mpr (Or.inl hm))) hxl e4
        rw [List.nodup_append] at hnd2
        exact hnd2.2.2 _ hm x (by simp) this
    · intro y hy2
      rw [upd_at, if_neg (fun e => hy2 (by rw [e]; exact child x hxl))]
      exact hy y hy2
  have rk : ∀ g, rd (mset σ (t + 8) g) (t + 1) (nI nd) = some (if kd nd = true then 1 else 0) := fun g => (M8_at hA).kind ht hnd hne
  have key : ∃ r, lp (fun z => T_layParts_b1 t (nI nd) (nI way) (nI n) z.1 z.2.1 z.2.2.1 z.2.2.2.1 z.2.2.2.2) fuel (nI s, nI (fullM n), nI way, 0, σ) = some r ∧ ∃ g, r = mset σ (t + 8) g ∧ (∀ i, i < n → g ((chO ch nd (ordL (kd nd) n way)).getD i 0) = nI (s + pcs st ((chO ch nd (ordL (kd nd) n way)).take i))) ∧ ∀ x, x ∉ ch nd → g x = σ (t + 8) x := by
    cases hk : kd nd
    · rw [hk] at hw o1 o2 o3
      have hw : way < fac n := hw
      refine lp_for n (fun i z => ∃ wy m Li g, z = (nI (s + pcs st (chO ch nd Li)), nI m, nI wy, nI i, mset σ (t + 8) g) ∧ PwI n way i wy m Li ∧ (∀ i, i < Li.length → g ((chO ch nd Li).getD i 0) = nI (s + pcs st ((chO ch nd Li).take i))) ∧ ∀ y, y ∉ ch nd → g y = σ (t + 8) y) _ _ 0 (by omega) ⟨way, fullM n, [], σ (t + 8), by rw [mset_self]; rfl, PwI.start hlen hw, fun i hi => by simp at hi, fun _ _ => rfl⟩ (by omega) ?_ ?_
      · intro i z hi ⟨wy, m, Li, g, e, hP, h1, h2⟩
        subst e
        left
        obtain ⟨p1, p2, p3⟩ := hP.step hlen hi
        have hwy : wy < 2 ^ 31 := Nat.lt_trans hP.2.2.2.2.1 (fac_lt _ (by omega))
        have hfl := fac_lt (n - 1 - i) (by omega)
        have hfp := fac_pos (n - 1 - i)
        have hx := (Ub_mem.mp p2).1
        have hxn : (Ub m).getD (wy / fac (n - 1 - i)) 0 < n := hP.2.2.2.2.2.1 _ (Ub_mem.mp p2).2
        have esub : nI n - 1 - nI i = nI (n - 1 - i) := by rw [zz_dec (by omega), pk_sub (by omega)]
        have hnd3 : (Li ++ [(Ub m).getD (wy / fac (n - 1 - i)) 0]).Nodup := by
          have hall : ordL false n way = (Li ++ [(Ub m).getD (wy / fac (n - 1 - i)) 0]) ++ pwM (n - (i + 1)) (sd m (2 ^ ((Ub m).getD (wy / fac (n - 1 - i)) 0))) (wy % fac (n - 1 - i)) := p3.2.2.1
          rw [hall] at o1
          exact (List.nodup_append.mp o1).1
        obtain ⟨k1, k2⟩ := keepG Li _ g hnd3 (fun y hy => p3.2.2.2.2.2.2.2 y hy) h1 h2
        refine ⟨_, ?_, _, _, _, _, rfl, p3, k1, k2⟩
        unfold T_layParts_b1
        refine ifn (nI_ge hi (by omega)) ?_
        refine lti rfl ?_
        refine ob (rk g) ?_
        rw [hk]
        refine fin _ _ i _ Li g _ hxn ?_
        refine ifp rfl ?_
        show (O_factorial (nI n - 1 - nI i) (mset σ (t + 8) g)).bind _ = _
        rw [esub]
        refine ob (O_factorial_eq (by omega)) ?_
        refine lti (if_neg (show ¬ nI (fac (n - 1 - i)) < 1 from nI_nlt (b := 1) (by omega) hfl)) ?_
        refine ob (dv_eq hwy hfp hfl) ?_
        refine ob (T_nthBit_eq hP.2.2.2.2.2.2.1 p1) ?_
        refine ob (rm_eq hwy hfp hfl) ?_
        refine lti (b := nI (sd m (2 ^ ((Ub m).getD (wy / fac (n - 1 - i)) 0)))) ?_ rfl
        show nI m &&& _ = _
        rw [xI_bit (by omega), xI_diff]
      · intro z ⟨wy, m, Li, g, e, hP, h1, h2⟩
        subst e
        have hL : ordL false n way = Li := by
          have : pwM n (fullM n) way = Li ++ pwM (n - n) m wy := hP.2.2.1
          rw [Nat.sub_self] at this
          show pwM n (fullM n) way = Li
          rw [this]; show Li ++ [] = Li; simp
        refine ⟨_, ?_, g, rfl, fun i hi => ?_, h2⟩
        · unfold T_layParts_b1
          exact ifp (nI_le (Nat.le_refl _) (by omega)) rfl
        · rw [hL]; exact h1 i (by rw [hP.2.1]; exact hi)
    · rw [hk] at hw o1 o2 o3
      have hw : way < 2 := hw
      refine lp_for n (fun i z => ∃ Li g, z = (nI (s + pcs st (chO ch nd Li)), nI (fullM n), nI way, nI i, mset σ (t + 8) g) ∧ Li = (ordL true n way).take i ∧ (∀ i, i < Li.length → g ((chO ch nd Li).getD i 0) = nI (s + pcs st ((chO ch nd Li).take i))) ∧ ∀ y, y ∉ ch nd → g y = σ (t + 8) y) _ _ 0 (by omega) ⟨[], σ (t + 8), by rw [mset_self]; rfl, by simp, fun i hi => by simp at hi, fun _ _ => rfl⟩ (by omega) ?_ ?_
      · intro i z hi ⟨Li, g, e, hLi, h1, h2⟩
        subst e
        left
        have hio : i < (ordL true n way).length := by rw [o2]; exact hi
        have hnext : (ordL true n way).take (i + 1) = Li ++ [(ordL true n way).getD i 0] := by rw [take_succ' hio, hLi]
        have hnd3 : (Li ++ [(ordL true n way).getD i 0]).Nodup := by
          rw [← hnext]; exact List.Nodup.sublist (List.take_sublist _ _) o1
        have hlt3 : ∀ y ∈ Li ++ [(ordL true n way).getD i 0], y < n := fun y hy => by
          rw [← hnext] at hy; exact o3 y (List.mem_of_mem_take hy)
        obtain ⟨k1, k2⟩ := keepG Li _ g hnd3 hlt3 h1 h2
        have hidx : (if nI way = 0 then nI i else nI n - 1 - nI i) = nI ((ordL true n way).getD i 0) := by
          unfold ordL; rw [if_pos rfl]
          by_cases q : way = 0
          · rw [if_pos q, q, List.getD_eq_getElem?_getD, List.getElem?_range hi]; rfl
          · rw [if_neg q, rev_getD (by rw [List.length_range]; exact hi), List.length_range, List.getD_eq_getElem?_getD, List.getElem?_range (by omega), if_neg (nI_ne0 (by omega) (by omega)), zz_dec (by omega), pk_sub (by omega)]; rfl
        refine ⟨_, ?_, _, _, rfl, hnext.symm, k1, k2⟩
        unfold T_layParts_b1
        refine ifn (nI_ge hi (by omega)) ?_
        refine lti hidx ?_
        refine ob (rk g) ?_
        rw [hk]
        refine fin _ _ i _ Li g _ (hlt3 _ (by simp)) ?_
        exact ifn (by decide) rfl
      · intro z ⟨Li, g, e, hLi, h1, h2⟩
        subst e
        have hL : ordL true n way = Li := by rw [hLi, List.take_of_length_le (by rw [o2]; exact Nat.le_refl _)]
        refine ⟨_, ?_, g, rfl, fun i hi => ?_, h2⟩
        · unfold T_layParts_b1
          exact ifp (nI_le (Nat.le_refl _) (by omega)) rfl
        · rw [hL]; exact h1 i (by rw [← hL, o2]; exact hi)
  obtain ⟨r, l1, g, l2, l3, l4⟩ := key
  refine ⟨g, ?_, l3, l4⟩
  unfold T_layParts
  have rs := hA.size ht hnd
  rw [hn] at rs
  refine ob rs ?_
  refine ob (a := nI s) (by rw [rdT (lnT8 ht) hnd (by omega), h8]) ?_
  refine lti (b := nI (fullM n)) ?_ ?_
  · rw [xI_bit (by omega)]; unfold fullM; exact zz_dec (Nat.two_pow_pos n)
  · refine ob l1 ?_
    rw [l2]
end

def pwM : Nat → Nat → Nat → List Nat
  | 0, _, _ => []
  | k + 1, m, way => (Ub m).getD (way / fac k) 0 :: pwM k (sd m (2 ^ ((Ub m).getD (way / fac k) 0))) (way % fac k)
def ordL (b : Bool) (n way : Nat) : List Nat := if b = true then (if way = 0 then List.range n else (List.range n).reverse) else pwM n (fullM n) way
theorem M_fac0 : M_factorial (nI 0) = some (nI 1) := by
  unfold M_factorial
  refine ob (a := nI 1) ?_ rfl
  have h : lp (fun s => M_factorial_b1 (nI 0) s.1 s.2) 1 (1, 2) = some (nI 1) := by
    refine lp_stop ?_
    unfold M_factorial_b1
    exact ifp (by decide) rfl
  exact lp_fu h (by omega)
theorem M_fac {k : Nat} (hk : k ≤ 8) : M_factorial (nI k) = some (nI (fac k)) := by
  by_cases c : k = 0
  · subst c; exact M_fac0
  · exact M_factorial_eq hk (by omega)
theorem fac_pos : ∀ k, 0 < fac k
  | 0 => by decide
  | k + 1 => Nat.mul_pos (by omega) (fac_pos k)
theorem fac_lt : ∀ k, k ≤ 8 → fac k < 2 ^ 31 := by decide +kernel
theorem Ub_mem {m x : Nat} : x ∈ Ub m ↔ x < 8 ∧ m.testBit x = true := by
  unfold Ub; rw [List.mem_filter, List.mem_range]
theorem Ub_nodup {m : Nat} : (Ub m).Nodup := List.Pairwise.filter _ List.nodup_range
theorem Ub_drop {m x : Nat} (hx : x ∈ Ub m) : (Ub (sd m (2 ^ x))).length + 1 = (Ub m).length := by
  have h1 : (x :: Ub (sd m (2 ^ x))).length = (Ub m).length := by
    refine len_same ?_ Ub_nodup (fun y => ?_)
    · rw [List.nodup_cons]
      refine ⟨fun q => ?_, Ub_nodup⟩
      have := (Ub_mem.mp q).2
      rw [sd_bit, Nat.testBit_two_pow_self] at this; simp at this
    · rw [List.mem_cons, Ub_mem, Ub_mem, sd_bit, Nat.testBit_two_pow]
      simp only [Bool.and_eq_true, Bool.not_eq_true', decide_eq_false_iff_not]
      constructor
      · rintro (e | ⟨a, b, c⟩)
        · rw [e]; exact Ub_mem.mp hx
        · exact ⟨a, b⟩
      · rintro ⟨a, b⟩
        by_cases q : y = x
        · exact Or.inl q
        · exact Or.inr ⟨a, b, fun e => q e.symm⟩
  rw [List.length_cons] at h1; exact h1
theorem Ub_full {n : Nat} (hn : n ≤ 8) : (Ub (fullM n)).length = n := by
  have : ∀ n, n ≤ 8 → (Ub (fullM n)).length = n := by decide +kernel
  exact this n hn
theorem dv_eq {a d : Nat} (ha : a < 2 ^ 31) (h0 : 0 < d) (hd : d < 2 ^ 31) : dv (nI a) (nI d) = some (nI (a / d)) := by
  unfold dv; rw [if_neg (nI_ne0 h0 hd), pk_div ha h0 hd]
theorem rm_eq {a d : Nat} (ha : a < 2 ^ 31) (h0 : 0 < d) (hd : d < 2 ^ 31) : rm (nI a) (nI d) = some (nI (a % d)) := by
  unfold rm; rw [if_neg (nI_ne0 h0 hd), pk_rem ha h0 hd]
/- where the order stands after i steps -/
def PwI (n way0 i way m : Nat) (Li : List Nat) : Prop := i ≤ n ∧ Li.length = i ∧ pwM n (fullM n) way0 = Li ++ pwM (n - i) m way ∧ (Ub m).length = n - i ∧ way < fac (n - i) ∧ (∀ b, m.testBit b = true → b < n) ∧ m < 256 ∧ ∀ x ∈ Li, x < n
theorem PwI.start {n way : Nat} (hn : n ≤ 8) (hw : way < fac n) : PwI n way 0 way (fullM n) [] := by
  refine ⟨by omega, rfl, rfl, by rw [Ub_full hn]; rfl, hw, fun b hb => ?_, full_lt hn, by simp⟩
  rw [full_bit, decide_eq_true_iff] at hb; exact hb
theorem PwI.step {n way0 i way m : Nat} {Li : List Nat} (hn : n ≤ 8) (h : PwI n way0 i way m Li) (hi : i < n) : way / fac (n - 1 - i) < (Ub m).length ∧ (Ub m).getD (way / fac (n - 1 - i)) 0 ∈ Ub m ∧ PwI n way0 (i + 1) (way % fac (n - 1 - i)) (sd m (2 ^ ((Ub m).getD (way / fac (n - 1 - i)) 0))) (Li ++ [(Ub m).getD (way / fac (n - 1 - i)) 0]) := by
  obtain ⟨h1, h2, h3, h4, h5, h6, h7, h8⟩ := h
  have ek : n - i = (n - 1 - i) + 1 := by omega
  rw [ek] at h3 h4 h5
  have hq : way / fac (n - 1 - i) < (Ub m).length := by
    rw [h4, Nat.div_lt_iff_lt_mul (fac_pos _)]
    exact h5
  have hmem := getD_mem hq
  have hx := Ub_mem.mp hmem
  refine ⟨hq, hmem, by omega, by simp [h2], ?_, ?_, ?_, ?_, ?_, ?_⟩
  · rw [h3]
    show Li ++ (_ :: pwM (n - 1 - i) _ _) = _
    rw [show n - (i + 1) = n - 1 - i by omega]
    simp
  · have := Ub_drop hmem
    omega
  · rw [show n - (i + 1) = n - 1 - i by omega]
    exact Nat.mod_lt _ (fac_pos _)
  · intro b hb
    rw [sd_bit, Bool.and_eq_true] at hb
    exact h6 b hb.1
  · exact Nat.lt_of_le_of_lt sd_le h7
  · intro x hx2
    rw [List.mem_append, List.mem_singleton] at hx2
    rcases hx2 with q | q
    · exact h8 x q
    · rw [q]; exact h6 _ hx.2
theorem M_orders_eq {τ : Mem} {at_ n way : Nat} {b : Bool} (hat : at_ < 8) (hn : n ≤ 8) (h50 : τ 50 at_ = if b = true then 1 else 0) (h51 : τ 51 at_ = nI n) (h56 : τ 56 at_ = nI way) (hw : way < wys b n) : ∃ f, M_orders (nI at_) τ = some (mset τ 58 f) ∧ (∀ i, i < n → f i = nI ((ordL b n way).getD i 0)) ∧ (ordL b n way).length = n ∧ ∀ x ∈ ordL b n way, x < n := by
  have r51 : rd τ 51 (nI at_) = some (nI n) := by rw [rdT (N := 8) rfl hat (by omega), h51]
  have r56 : rd τ 56 (nI at_) = some (nI way) := by rw [rdT (N := 8) rfl hat (by omega), h56]
  have r50 : ∀ f, rd (mset τ 58 f) 50 (nI at_) = some (if b = true then 1 else 0) := fun f => by rw [rdT (N := 8) rfl hat (by omega), mset_ne (by omega), h50]
  have wb : ∀ f i v, i < 8 → wr (mset τ 58 f) 58 (nI i) v = some (mset τ 58 (upd f i v)) := fun f i v hi => by rw [wrT (N := 8) rfl hi (by omega), mput_mset]
  have key : ∃ r, lp (fun s => M_orders_b2 (nI at_) (nI n) s.1 s.2.1 s.2.2.1 s.2.2.2) fuel (nI way, 0, 0, τ) = some r ∧ ∃ f, r = mset τ 58 f ∧ (∀ i, i < n → f i = nI ((ordL b n way).getD i 0)) ∧ (ordL b n way).length = n ∧ ∀ x ∈ ordL b n way, x < n := by
    cases hb : b
    · subst hb
      have hO : ordL false n way = pwM n (fullM n) way := rfl
      have hw : way < fac n := hw
      refine lp_for n (fun i s => ∃ wy m w Li f, s = (nI wy, nI w, nI i, mset τ 58 f) ∧ PwI n way i wy m Li ∧ w < 256 ∧ (∀ x, x < n → (w.testBit x = true ↔ m.testBit x = false)) ∧ ∀ j, j < i → f j = nI (Li.getD j 0)) _ _ 0 (by omega) ⟨way, fullM n, 0, [], τ 58, by rw [mset_self]; rfl, PwI.start hn hw, by omega, fun x hx => by rw [full_bit]; simp [hx], fun j hj => by omega⟩ (by omega) ?_ ?_
      · intro i s hi ⟨wy, m, w, Li, f, e, hP, w1, w2, hf⟩
        subst e
        left
        obtain ⟨p1, p2, p3⟩ := hP.step hn hi
        have hwy : wy < 2 ^ 31 := Nat.lt_trans hP.2.2.2.2.1 (fac_lt _ (by omega))
        have hfl := fac_lt (n - 1 - i) (by omega)
        have hx := (Ub_mem.mp p2).1
        have hxn : (Ub m).getD (wy / fac (n - 1 - i)) 0 < n := hP.2.2.2.2.2.1 _ (Ub_mem.mp p2).2
        have hs := orders_b1_eq (m := m) (w := w) hn (by omega) hP.2.2.2.2.2.1 w2 p1
        have esub : nI n - 1 - nI i = nI (n - 1 - i) := by rw [zz_dec (by omega), pk_sub (by omega)]
        refine ⟨(nI (wy % fac (n - 1 - i)), nI (w ||| 2 ^ ((Ub m).getD (wy / fac (n - 1 - i)) 0)), nI (i + 1), mset τ 58 (upd f i (nI ((Ub m).getD (wy / fac (n - 1 - i)) 0)))), ?_, _, _, _, _, _, rfl, p3, or_bit_lt w1 hx, fun x hx2 => ?_, fun j hj => ?_⟩
        · unfold M_orders_b2
          refine ifn (nI_ge hi (by omega)) ?_
          refine ob (r50 f) ?_
          refine ob (a := (nI (wy % fac (n - 1 - i)), nI (w ||| 2 ^ ((Ub m).getD (wy / fac (n - 1 - i)) 0)), mset τ 58 (upd f i (nI ((Ub m).getD (wy / fac (n - 1 - i)) 0))))) ?_ ?_
          · refine ifn (by decide) ?_
            show (M_factorial (nI n - 1 - nI i)).bind _ = _
            rw [esub]
            refine ob (M_fac (by omega)) ?_
            refine ob (dv_eq hwy (fac_pos _) hfl) ?_
            refine ob (rm_eq hwy (fac_pos _) hfl) ?_
            refine ob hs ?_
            refine lti (i_or1 _ _ (by omega)) ?_
            exact ob (wb f i _ (by omega)) rfl
          · refine lti rfl ?_
            refine lti rfl ?_
            refine lti rfl ?_
            exact lti (nI_1 _) rfl
        · rw [Nat.testBit_or, sd_bit, Nat.testBit_two_pow, Bool.or_eq_true, w2 x hx2]
          generalize (Ub m).getD (wy / fac (n - 1 - i)) 0 = y
          by_cases q : y = x
          · simp [q]
          · simp [q]
        · rw [upd_at]
          by_cases q : j = i
          · rw [if_pos q, q]
            have : (Li ++ [(Ub m).getD (wy / fac (n - 1 - i)) 0]).getD i 0 = (Ub m).getD (wy / fac (n - 1 - i)) 0 := by
              conv => lhs; arg 2; rw [← hP.2.1]
              exact getD_app_r
            rw [this]
          · rw [if_neg q, getD_app_lt (by rw [hP.2.1]; omega)]; exact hf j (by omega)
      · intro s ⟨wy, m, w, Li, f, e, hP, w1, w2, hf⟩
        subst e
        have hL : pwM n (fullM n) way = Li := by
          rw [hP.2.2.1, Nat.sub_self]
          show Li ++ [] = Li
          simp
        refine ⟨_, ?_, f, rfl, fun i hi => ?_, ?_, ?_⟩
        · unfold M_orders_b2
          exact ifp (nI_le (Nat.le_refl _) (by omega)) rfl
        · rw [hO, hL]; exact hf i hi
        · rw [hO, hL]; exact hP.2.1
        · rw [hO, hL]; exact hP.2.2.2.2.2.2.2
    · subst hb
      have hOl : (ordL true n way).length = n := by
        unfold ordL; rw [if_pos rfl]
        by_cases q : way = 0
        · rw [if_pos q, List.length_range]
        · rw [if_neg q, List.length_reverse, List.length_range]
      have hOm : ∀ x ∈ ordL true n way, x < n := fun x hx => by
        unfold ordL at hx; rw [if_pos rfl] at hx
        by_cases q : way = 0
        · rw [if_pos q] at hx; exact List.mem_range.mp hx
        · rw [if_neg q] at hx; exact List.mem_range.mp (List.mem_reverse.mp hx)
      have hOg : ∀ i, i < n → (ordL true n way).getD i 0 = if way = 0 then i else n - 1 - i := fun i hi => by
        unfold ordL; rw [if_pos rfl]
        by_cases q : way = 0
        · rw [if_pos q, if_pos q, List.getD_eq_getElem?_getD, List.getElem?_range hi]; rfl
        · rw [if_neg q, if_neg q, rev_getD (by rw [List.length_range]; exact hi), List.length_range, List.getD_eq_getElem?_getD, List.getElem?_range (by omega)]; rfl
      have hw : way < 2 := hw
      refine lp_for n (fun i s => ∃ f, s = (nI way, 0, nI i, mset τ 58 f) ∧ ∀ j, j < i → f j = nI ((ordL true n way).getD j 0)) _ _ 0 (by omega) ⟨τ 58, by rw [mset_self]; rfl, fun j hj => by omega⟩ (by omega) ?_ ?_
      · intro i s hi ⟨f, e, hf⟩
        subst e
        left
        refine ⟨(nI way, 0, nI (i + 1), mset τ 58 (upd f i (nI ((ordL true n way).getD i 0)))), ?_, _, rfl, fun j hj => ?_⟩
        · unfold M_orders_b2
          refine ifn (nI_ge hi (by omega)) ?_
          refine ob (r50 f) ?_
          refine ob (a := (nI way, 0, mset τ 58 (upd f i (nI ((ordL true n way).getD i 0))))) ?_ ?_
          · refine ifp rfl ?_
            refine lti (b := nI ((ordL true n way).getD i 0)) ?_ ?_
            · rw [hOg i hi]
              by_cases q : way = 0
              · rw [if_pos q, q]; rfl
              · rw [if_neg q]
                show (if nI way = 0 then nI i else nI n - 1 - nI i) = _
                rw [if_neg (nI_ne0 (by omega) (by omega)), zz_dec (by omega), pk_sub (by omega)]
            · exact ob (wb f i _ (by omega)) rfl
          · refine lti rfl ?_
            refine lti rfl ?_
            refine lti rfl ?_
            exact lti (nI_1 _) rfl
        · rw [upd_at]
          by_cases q : j = i
          · rw [if_pos q, q]
          · rw [if_neg q]; exact hf j (by omega)
      · intro s ⟨f, e, hf⟩
        subst e
        refine ⟨_, ?_, f, rfl, hf, hOl, hOm⟩
        unfold M_orders_b2
        exact ifp (nI_le (Nat.le_refl _) (by omega)) rfl
  obtain ⟨r, k1, f, k2, k3⟩ := key
  refine ⟨f, ?_, k3⟩
  unfold M_orders
  refine ob r51 ?_
  refine ob r56 ?_
  refine ob k1 ?_
  rw [k2]

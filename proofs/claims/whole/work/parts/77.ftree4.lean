theorem zz_one {b : Bool} : (if b = true then (1 : Int32) else 0) = 1 ↔ b = true := by
  cases b
  · simp
  · simp
theorem zz_open {b : Bool} : (if (if b = true then (1 : Int32) else 0) = 1 then (91 : Int32) else 40) = nI (opS b) := by
  simp only [zz_one]
  unfold opS
  cases b <;> simp <;> rfl
theorem zz_a : (1000 : Int32) + 93 = nI 1093 := by rw [L_1000]; exact nI_add ..
theorem zz_b : (1000 : Int32) + 41 = nI 1041 := by rw [L_1000]; exact nI_add ..
theorem zz_close {b : Bool} : (1000 : Int32) + (if (if b = true then (1 : Int32) else 0) = 1 then (93 : Int32) else 41) = nI (1000 + clS b) := by
  simp only [zz_one]
  unfold clS
  cases b
  · simp only [Bool.false_eq_true, if_false]; exact zz_b
  · simp only [if_true]; exact zz_a
theorem zz_th {m : Nat} (hm : m < 256) : nI m < 1000 := by rw [L_1000]; exact nI_lt (by omega) (by omega)
theorem zz_pos {r : Nat} (hr : r < 64) : ¬ nI (r + 1) ≤ 0 := by rw [L_0]; exact Int32.not_le.mpr (nI_lt (by omega) (by omega))
theorem zz_dec {len : Nat} (hl : 1 ≤ len) : nI len - 1 = nI (len - 1) := by rw [Int32.sub_eq_add_neg, curr_dec (by omega)]
theorem zz_ne {m : Nat} (hm : m < 256) (hpc : ¬ pc8 m = 1) : ¬ nI (pc8 m) = 1 := by rw [L_1]; exact nI_ne (by have := pc_le m hm; omega) (by decide) hpc
theorem ob {α β : Type} {x : Option α} {a : α} {f : α → Option β} {r : Option β} (h : x = some a) (h2 : f a = r) : x.bind f = r := by rw [h]; exact h2
theorem lti {α β : Type} {a b : α} {f : α → β} {r : β} (h : a = b) (h2 : f b = r) : lt a f = r := by rw [h]; exact h2
theorem ifn {β : Type} {c : Prop} [Decidable c] {x y r : β} (h : ¬ c) (h2 : y = r) : (if c then x else y) = r := by rw [if_neg h]; exact h2
theorem ifp {β : Type} {c : Prop} [Decidable c] {x y r : β} (h : c) (h2 : x = r) : (if c then x else y) = r := by rw [if_pos h]; exact h2
theorem ft_step {σ σ1 σ2 σ3 τ : Mem} {r m k len e : Nat} {b : Bool} (hr : r < 64) (hm : m < 256) (hk : k < 8) (p2 : σ 55 r = nI m) (hpc : ¬ pc8 m = 1) (h6 : σ 43 7 = nI k) (hσ1 : mput (mput σ 49 k (nI m)) 43 7 (nI (k + 1)) = σ1) (q1 : M_findsParts (nI k) σ1 = some σ2) (k50 : σ2 50 k = if b = true then 1 else 0) (e1 : M_shows (nI (opS b)) σ2 = some σ3) (k50' : σ3 50 k = if b = true then 1 else 0) (k51 : σ3 51 k = nI len) (hl : 1 ≤ len) (l1 : lp (fun s => M_findsTree_b1 (nI k) s.1 s.2.1 s.2.2) fuel (nI (r + 1), nI (len - 1), mput σ3 55 r (nI (1000 + clS b))) = some (nI e, τ)) : M_findsTree_b2 (nI (r + 1)) σ = some (.inl (nI e, τ)) := by
  have c0 : ¬ nI (r + 1) ≤ 0 := zz_pos hr
  have c1 : nI m < 1000 := zz_th hm
  have c2 : ¬ nI (pc8 m) = 1 := zz_ne hm hpc
  have d1 : nI (r + 1) + (-1) = nI r := by rw [curr_dec (by omega), Nat.add_sub_cancel]
  have d2 : rd σ 55 (nI r) = some (nI m) := by rw [rd_nI (by show _ < 64; omega) (by decide), p2]
  have f1 : mput σ 49 k (nI m) 43 = σ 43 := mput_43 (by decide)
  have d3 : wr σ 49 (nI k) (nI m) = some (mput σ 49 k (nI m)) := wr_nI (by show _ < 8; omega) (by decide)
  have d4 : mput (mput σ 49 k (nI m)) 43 7 (mput σ 49 k (nI m) 43 7 + 1) = σ1 := by rw [f1, h6, nI_1]; exact hσ1
  have d5 : rd σ2 50 (nI k) = some (if b = true then 1 else 0) := by rw [rd_nI (by show _ < 8; omega) (by decide), k50]
  have d6 : rd σ3 50 (nI k) = some (if b = true then 1 else 0) := by rw [rd_nI (by show _ < 8; omega) (by decide), k50']
  have d7 : wr σ3 55 (nI r) (nI (1000 + clS b)) = some (mput σ3 55 r (nI (1000 + clS b))) := wr_nI (by show _ < 64; omega) (by decide)
  generalize hσ4 : mput σ3 55 r (nI (1000 + clS b)) = σ4 at d7 l1
  have d8 : rd σ4 51 (nI k) = some (nI len) := by rw [rd_nI (by show _ < 8; omega) (by decide), ← hσ4, mput_ne 51 (by decide), k51]
  have d9 : nI len - 1 = nI (len - 1) := zz_dec hl
  have d12 : wr σ3 55 (nI r) (1000 + (if (if b = true then (1 : Int32) else 0) = 1 then (93 : Int32) else 41)) = some σ4 := by rw [zz_close]; exact d7
  unfold M_findsTree_b2
  refine ifn c0 ?_
  refine lti d1 ?_
  refine ob d2 ?_
  refine ob (a := (nI e, τ)) ?_ rfl
  refine ifp c1 ?_
  refine ob (M_many_eq hm) ?_
  refine ifn c2 ?_
  refine lti h6 ?_
  refine ob d3 ?_
  refine lti d4 ?_
  refine ob q1 ?_
  refine ob d5 ?_
  refine lti zz_open ?_
  refine ob e1 ?_
  refine ob d6 ?_
  refine lti rfl ?_
  refine ob d12 ?_
  refine lti (nI_1 r) ?_
  refine ob d8 ?_
  refine lti d9 ?_
  refine ob l1 ?_
  rfl

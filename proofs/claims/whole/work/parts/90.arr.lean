def Us (ch : Nat → List Nat) (c : Nat) : Prop := c < 8 ∨ ch c ≠ []
def AT (σ : Mem) (t : Nat) (kd : Nat → Bool) (ch : Nat → List Nat) (st : Nat → Nat) : Prop := ∀ id, id < 24 → (ch id).length ≤ 8 ∧ σ (t + 3) id = nI (ch id).length ∧ (∀ i, i < (ch id).length → (ch id).getD i 0 < 24 ∧ σ (t + 4) (id * 8 + i) = nI ((ch id).getD i 0)) ∧ (Us ch id → st id < 256 ∧ σ (t + 2) id = nI (st id)) ∧ (ch id ≠ [] → σ (t + 1) id = if kd id = true then 1 else 0)
theorem AT.same {σ τ : Mem} {t : Nat} {kd : Nat → Bool} {ch : Nat → List Nat} {st : Nat → Nat} (h : AT σ t kd ch st) (h1 : τ (t + 1) = σ (t + 1)) (h2 : τ (t + 2) = σ (t + 2)) (h3 : τ (t + 3) = σ (t + 3)) (h4 : τ (t + 4) = σ (t + 4)) : AT τ t kd ch st := by
  unfold AT; rw [h1, h2, h3, h4]; exact h
theorem lnT1 {t : Nat} (h : isT t) : lenOf (t + 1) = 24 := by rcases h with rfl | rfl | rfl <;> rfl
theorem lnT2 {t : Nat} (h : isT t) : lenOf (t + 2) = 24 := by rcases h with rfl | rfl | rfl <;> rfl
theorem lnT3 {t : Nat} (h : isT t) : lenOf (t + 3) = 24 := by rcases h with rfl | rfl | rfl <;> rfl
theorem lnT4 {t : Nat} (h : isT t) : lenOf (t + 4) = 192 := by rcases h with rfl | rfl | rfl <;> rfl
theorem lnT5 {t : Nat} (h : isT t) : lenOf (t + 5) = 8 := by rcases h with rfl | rfl | rfl <;> rfl
theorem lnT6 {t : Nat} (h : isT t) : lenOf (t + 6) = 8 := by rcases h with rfl | rfl | rfl <;> rfl
theorem lnT7 {t : Nat} (h : isT t) : lenOf (t + 7) = 7 := by rcases h with rfl | rfl | rfl <;> rfl
theorem lnT8 {t : Nat} (h : isT t) : lenOf (t + 8) = 24 := by rcases h with rfl | rfl | rfl <;> rfl
theorem lnT9 {t : Nat} (h : isT t) : lenOf (t + 9) = 24 := by rcases h with rfl | rfl | rfl <;> rfl
theorem lnT10 {t : Nat} (h : isT t) : lenOf (t + 10) = 24 := by rcases h with rfl | rfl | rfl <;> rfl
theorem rdT {σ : Mem} {k i N : Nat} (hN : lenOf k = N) (hi : i < N) (h2 : N < 2 ^ 31) : rd σ k (nI i) = some (σ k i) := rd_nI (by rw [hN]; exact hi) (by rw [hN]; exact h2)
theorem wrT {σ : Mem} {k i N : Nat} {v : Int32} (hN : lenOf k = N) (hi : i < N) (h2 : N < 2 ^ 31) : wr σ k (nI i) v = some (mput σ k i v) := wr_nI (by rw [hN]; exact hi) (by rw [hN]; exact h2)
theorem n08 {i : Nat} (hi : i < 8) : (if nI i < 0 then false else if 8 ≤ nI i then false else true : Bool) = true := by
  rw [if_neg (nI_pos (by omega)), if_neg (by rw [L_8]; exact nI_ge hi (by omega))]
theorem x8 (a b : Nat) : nI a * 8 + nI b = nI (a * 8 + b) := by rw [L_8, xI_mul, nI_add]
theorem T_part_raw {σ : Mem} {t id i : Nat} (ht : isT t) (hid : id < 24) (hi : i < 8) : T_part t (nI id) (nI i) σ = some (σ (t + 4) (id * 8 + i)) := by
  unfold T_part
  refine lti (n08 hi) ?_
  refine ob (a := σ (t + 4) (id * 8 + i)) ?_ rfl
  refine ifp rfl ?_
  refine ob (a := σ (t + 4) (id * 8 + i)) ?_ rfl
  rw [x8]
  exact rdT (lnT4 ht) (by omega) (by omega)
theorem T_setPart_raw {σ : Mem} {t id i : Nat} {v : Int32} (ht : isT t) (hid : id < 24) (hi : i < 8) : T_setPart t (nI id) (nI i) v σ = some (mput σ (t + 4) (id * 8 + i) v) := by
  unfold T_setPart
  refine lti (n08 hi) ?_
  refine ob (a := mput σ (t + 4) (id * 8 + i) v) ?_ rfl
  refine ifp rfl ?_
  refine ob (a := mput σ (t + 4) (id * 8 + i) v) ?_ rfl
  rw [x8]
  exact wrT (lnT4 ht) (by omega) (by omega)
section
variable {σ : Mem} {t : Nat} {kd : Nat → Bool} {ch : Nat → List Nat} {st : Nat → Nat}
theorem AT.part (h : AT σ t kd ch st) (ht : isT t) {id i : Nat} (hid : id < 24) (hi : i < (ch id).length) : T_part t (nI id) (nI i) σ = some (nI ((ch id).getD i 0)) := by
  obtain ⟨a, b, c, -⟩ := h id hid
  rw [T_part_raw ht hid (by omega), (c i hi).2]
theorem AT.lt24 (h : AT σ t kd ch st) {id c : Nat} (hid : id < 24) (hc : c ∈ ch id) : c < 24 := by
  obtain ⟨a, b, d, -⟩ := h id hid
  obtain ⟨i, hi, e⟩ := List.mem_iff_getElem.mp hc
  have := (d i hi).1
  rw [List.getD_eq_getElem?_getD, List.getElem?_eq_getElem hi] at this
  rw [← e]; exact this
theorem AT.size (h : AT σ t kd ch st) (ht : isT t) {id : Nat} (hid : id < 24) : rd σ (t + 3) (nI id) = some (nI (ch id).length) := by
  rw [rdT (lnT3 ht) hid (by omega), (h id hid).2.1]
theorem AT.set (h : AT σ t kd ch st) (ht : isT t) {id : Nat} (hid : id < 24) (hu : Us ch id) : rd σ (t + 2) (nI id) = some (nI (st id)) := by
  rw [rdT (lnT2 ht) hid (by omega), ((h id hid).2.2.2.1 hu).2]
theorem AT.kind (h : AT σ t kd ch st) (ht : isT t) {id : Nat} (hid : id < 24) (hu : ch id ≠ []) : rd σ (t + 1) (nI id) = some (if kd id = true then 1 else 0) := by
  rw [rdT (lnT1 ht) hid (by omega), (h id hid).2.2.2.2 hu]
theorem AT.state (h : AT σ t kd ch st) (ht : isT t) {id S : Nat} (hid : id < 24) (hu : Us ch id) : T_stateOf t (nI id) (nI S) σ = some (nI (stt st S id)) := by
  have hs := h.set ht hid hu
  have h2 := ((h id hid).2.2.2.1 hu).1
  unfold T_stateOf
  refine ob hs ?_
  refine lti (xI_and _ _) ?_
  have hl : st id &&& S < 256 := Nat.lt_of_le_of_lt Nat.and_le_left h2
  unfold stt
  by_cases c : st id &&& S = 0
  · rw [if_pos c]
    refine ifp (by rw [c]; rfl) rfl
  · rw [if_neg c]
    refine ifn (nI_ne0 (by omega) (by omega)) ?_
    refine ob hs ?_
    by_cases d : st id &&& S = st id
    · rw [if_pos d]
      exact lti (if_pos (by rw [d])) rfl
    · rw [if_neg d]
      exact lti (if_neg (nI_ne (by omega) (by omega) d)) rfl
end
def uf {α : Type} (f : Nat → α) (a : Nat) (v : α) : Nat → α := fun i => if i = a then v else f i
theorem uf_s {α : Type} {f : Nat → α} {a : Nat} {v : α} : uf f a v a = v := if_pos rfl
theorem uf_n {α : Type} {f : Nat → α} {a i : Nat} {v : α} (h : i ≠ a) : uf f a v i = f i := if_neg h
def addM (σ : Mem) (t a len c s : Nat) : Mem := mput (mput (mput σ (t + 4) (a * 8 + len) (nI c)) (t + 3) a (nI (len + 1))) (t + 2) a (nI s)
theorem addM_4 {σ : Mem} {t a len c s : Nat} : addM σ t a len c s (t + 4) = upd (σ (t + 4)) (a * 8 + len) (nI c) := by
  unfold addM
  rw [mput_ne _ (by omega), mput_ne _ (by omega)]; simp [mput, mset]
theorem addM_3 {σ : Mem} {t a len c s : Nat} : addM σ t a len c s (t + 3) = upd (σ (t + 3)) a (nI (len + 1)) := by
  unfold addM
  rw [mput_ne _ (by omega)]; simp [mput, mset]
theorem addM_2 {σ : Mem} {t a len c s : Nat} : addM σ t a len c s (t + 2) = upd (σ (t + 2)) a (nI s) := by
  unfold addM
  simp [mput, mset]
theorem addM_ne {σ : Mem} {t a len c s k : Nat} (h2 : k ≠ t + 2) (h3 : k ≠ t + 3) (h4 : k ≠ t + 4) : addM σ t a len c s k = σ k := by
  unfold addM
  rw [mput_ne _ (by omega), mput_ne _ (by omega), mput_ne _ (by omega)]
theorem T_add_raw {σ : Mem} {t a c len : Nat} (ht : isT t) (ha : a < 24) (hc : c < 24) (hlen : len < 8) (h3 : σ (t + 3) a = nI len) {s1 s2 : Nat} (h1 : σ (t + 2) a = nI s1) (h2 : σ (t + 2) c = nI s2) : T_add t (nI a) (nI c) σ = some (addM σ t a len c (s1 ||| s2)) := by
  unfold T_add
  have r3 : rd σ (t + 3) (nI a) = some (nI len) := by rw [rdT (lnT3 ht) ha (by omega), h3]
  refine ob r3 ?_
  refine ob (a := addM σ t a len c (s1 ||| s2)) ?_ rfl
  refine ifn (by rw [L_8]; exact nI_ge hlen (by omega)) ?_
  refine ob r3 ?_
  refine ob (a := mput σ (t + 4) (a * 8 + len) (nI c)) (by rw [x8]; exact wrT (lnT4 ht) (by omega) (by omega)) ?_
  refine ob (a := nI len) (by rw [rdT (lnT3 ht) ha (by omega), mput_ne _ (by omega), h3]) ?_
  refine ob (a := mput (mput σ (t + 4) (a * 8 + len) (nI c)) (t + 3) a (nI (len + 1))) (by rw [nI_1]; exact wrT (lnT3 ht) ha (by omega)) ?_
  refine ob (a := nI s1) (by rw [rdT (lnT2 ht) ha (by omega), mput_ne _ (by omega), mput_ne _ (by omega), h1]) ?_
  refine ob (a := nI s2) (by rw [rdT (lnT2 ht) hc (by omega), mput_ne _ (by omega), mput_ne _ (by omega), h2]) ?_
  refine ob (a := addM σ t a len c (s1 ||| s2)) ?_ rfl
  rw [xI_or]
  exact wrT (lnT2 ht) ha (by omega)

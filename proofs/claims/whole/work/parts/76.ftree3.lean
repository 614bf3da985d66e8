-- ===== findsTree: a node is shown =====
def opS (b : Bool) : Nat := if b = true then 91 else 40
def clS (b : Bool) : Nat := if b = true then 93 else 41
theorem tx_node {kd : Nat → Bool} {ch : Nat → List Nat} {st : Nat → Nat} {D N : Nat} (hw : WfD kd ch st D N) (h8 : 8 ≤ N) : txD kd ch D N = opS (kd N) :: ((ch N).flatMap (txD kd ch D) ++ [clS (kd N)]) ∧ ndD ch D N = N :: (ch N).flatMap (ndD ch D) ∧ ∀ c ∈ ch N, WfD kd ch st D c := by
  cases D with
  | zero => exact absurd hw (by simp [WfD])
  | succ E =>
    have c0 : ¬ N < 8 := by omega
    have hw2 := hw
    unfold WfD at hw2
    rw [if_neg c0] at hw2
    obtain ⟨-, -, -, -, hc⟩ := hw2
    refine ⟨?_, ?_, fun c h => WfD_mono (hc c h) (by omega)⟩
    · have e : (ch N).flatMap (txD kd ch (E + 1)) = (ch N).flatMap (txD kd ch E) := flatMap_congr' (fun c h => (fuel_e (hc c h) (Nat.le_succ E)).2.1)
      rw [e]
      show (if N < 8 then _ else _) = _
      rw [if_neg c0]; rfl
    · have e : (ch N).flatMap (ndD ch (E + 1)) = (ch N).flatMap (ndD ch E) := flatMap_congr' (fun c h => (fuel_e (hc c h) (Nat.le_succ E)).1)
      rw [e]
      show (if N < 8 then _ else _) = _
      rw [if_neg c0]
theorem many_two {kd : Nat → Bool} {ch : Nat → List Nat} {st : Nat → Nat} {D N : Nat} (hw : WfD kd ch st D N) (h8 : 8 ≤ N) (hlt : st N < 256) : ¬ pc8 (st N) = 1 := by
  intro h
  obtain ⟨k, hk, e⟩ := (many_one _ hlt).mp h
  obtain ⟨l1, l2⟩ := lv_bits D N hw
  obtain ⟨l3, -⟩ := nd_lv D N hw
  have h1 : 1 ≤ (ndD ch D N).length := by rw [(tx_node hw h8).2.1]; simp
  have h2 : (lvD ch D N).length ≤ 1 := by
    have := len_sub (lvD ch D N) [k] l1 (fun x hx => by
      have := ((l2 x).mp hx).2
      rw [e, Nat.testBit_two_pow] at this
      simp at this
      simp [this])
    simpa using this
  omega
theorem getD_app_l {T : List Nat} {x i : Nat} (h : i < T.length) : (T ++ [x]).getD i 0 = T.getD i 0 := by
  simp [List.getD_eq_getElem?_getD, List.getElem?_append, h]
theorem getD_app_r {T : List Nat} {x : Nat} : (T ++ [x]).getD T.length 0 = x := by
  simp [List.getD_eq_getElem?_getD]
theorem NdA.push {σ τ : Mem} {kd : Nat → Bool} {ch : Nat → List Nat} {st : Nat → Nat} {L : List Nat} {N : Nat} (h : NdA σ kd ch st L) {p : Nat → Int32} (h49 : τ 49 = upd (σ 49) L.length (nI (st N))) (h50 : τ 50 = upd (σ 50) L.length (if kd N = true then 1 else 0)) (h51 : τ 51 = upd (σ 51) L.length (nI (ch N).length)) (h52 : τ 52 = p) (hp : PtF p st L.length (ch N).length (fun i => (ch N).getD i 0)) (hq : ∀ q, (q < 8 * L.length ∨ 8 * L.length + 8 ≤ q) → p q = σ 52 q) (hc : ∀ M ∈ L, (ch M).length ≤ 8) : NdA τ kd ch st (L ++ [N]) := by
  intro i hi
  simp at hi
  rw [h49, h50, h51, h52]
  by_cases e : i = L.length
  · subst e
    rw [getD_app_r]
    refine ⟨by rw [upd_at, if_pos rfl], by rw [upd_at, if_pos rfl], by rw [upd_at, if_pos rfl], hp⟩
  · have hi2 : i < L.length := by omega
    rw [getD_app_l hi2]
    obtain ⟨a, b, c, d⟩ := h i hi2
    refine ⟨by rw [upd_at, if_neg e]; exact a, by rw [upd_at, if_neg e]; exact b, by rw [upd_at, if_neg e]; exact c, ?_⟩
    intro j hj
    have := hc _ (getD_mem hi2)
    rw [hq _ (by left; omega)]
    exact d j hj

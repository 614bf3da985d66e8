theorem fac_tab : ∀ k, k ≤ 8 → (stA 0).getD k 0 = nI (fac k) := by decide +kernel
theorem O_factorial_eq {σ : Mem} {k : Nat} (hk : k ≤ 8) : O_factorial (nI k) σ = some (nI (fac k)) := by
  unfold O_factorial
  refine lti (b := false) ?_ ?_
  · rw [if_neg (nI_pos (by omega))]; exact if_pos (nI_lt (b := 9) (by omega) (by omega))
  · refine ob (a := nI (fac k)) ?_ rfl
    refine ifn (by decide) ?_
    refine ob (a := nI (fac k)) ?_ rfl
    unfold rds
    rw [nI_clamp (by omega), if_neg, fac_tab k hk]
    rintro (q | q)
    · exact nI_pos (by omega) q
    · have : (stA 0).length = 9 := rfl
      omega
section
variable {σ : Mem} {t : Nat} {kd : Nat → Bool} {ch : Nat → List Nat} {st : Nat → Nat}
theorem AT.ways (h : AT σ t kd ch st) (ht : isT t) {id : Nat} (hid : id < 24) (hu : ch id ≠ []) : T_ways t (nI id) σ = some (nI (wys (kd id) (ch id).length)) := by
  have rk := h.kind ht hid hu
  unfold T_ways wys
  by_cases c : kd id = true
  · rw [if_pos c] at rk
    rw [if_pos c]
    refine ob rk ?_
    exact ob (a := nI 2) (ifn (by decide) rfl) rfl
  · rw [if_neg c] at rk
    rw [if_neg c]
    refine ob rk ?_
    refine ob (a := nI (fac (ch id).length)) ?_ rfl
    refine ifp rfl ?_
    refine ob (h.size ht hid) ?_
    exact ob (O_factorial_eq (h id hid).1) rfl
theorem nd_nodup {kd : Nat → Bool} {ch : Nat → List Nat} {st : Nat → Nat} : ∀ (d id : Nat), WfD kd ch st d id → (ndD ch d id).Nodup
  | 0, _, h => h.elim
  | d + 1, id, h => by
    by_cases h8 : id < 8
    · unfold ndD; rw [if_pos h8]; simp
    · have hw := h
      unfold WfD at hw
      rw [if_neg h8] at hw
      obtain ⟨g1, g2, g3, gD, gW⟩ := hw
      unfold ndD
      rw [if_neg h8, List.nodup_cons]
      refine ⟨fun q => ?_, ?_⟩
      · obtain ⟨c, hc, hq⟩ := List.mem_flatMap.mp q
        exact nd_notin h (by omega) hc hq
      · refine nodup_flatMap _ _ (fun c hc => nd_nodup d c (gW c hc)) (Dj_nodup gD (fun c hc => Wf_ne0 c ⟨d, gW c hc⟩)) ?_
        intro a ha b hb hab x hx hy
        have h0 : st a &&& st b = 0 := Classical.byContradiction (fun q => hab (Dj_uniq gD ha hb q))
        exact nd_disj (gW a ha) (gW b hb) h0 hx hy
theorem nd_lt {i : Nat} (h : AT σ t kd ch st) : ∀ (d id : Nat), id < 24 → i ∈ ndD ch d id → i < 24
  | 0, _, _, hi => by unfold ndD at hi; simp at hi
  | d + 1, id, hid, hi => by
    by_cases h8 : id < 8
    · unfold ndD at hi; rw [if_pos h8] at hi; simp at hi
    · rw [nd_in h8] at hi
      rcases hi with hi | ⟨c, hc, hi⟩
      · rw [hi]; exact hid
      · exact nd_lt h d c (h.lt24 hid hc) hi
def usd (ch : Nat → List Nat) (j : Nat) : List Nat := (List.range' 8 j).filter (fun i => !(ch i).isEmpty)
theorem usd_s {j : Nat} : usd ch (j + 1) = usd ch j ++ if ch (8 + j) = [] then [] else [8 + j] := by
  unfold usd
  rw [List.range'_1_concat, List.filter_append]
  congr 1
  by_cases q : ch (8 + j) = []
  · rw [if_pos q]; simp [q]
  · rw [if_neg q]
    simp [q]
theorem T_rowCount_ok {root : Nat} (h : TR σ t kd ch st root) (ht : isT t) : T_rowCount t σ = some (lN (prodL (fun i => wys (kd i) (ch i).length) (ndD ch 8 root))) ∧ WfD kd ch st 8 root := by
  have hA := h.1
  have hur : Us ch root := us_wf h.2.2.2.1
  have hs256 := ((hA root h.2.2.1).2.2.2.1 hur).1
  have hw8 : WfD kd ch st 8 root := WfD_mono (wfd_pc root h.2.2.2.1 hs256) (pc_le _ hs256)
  refine ⟨?_, hw8⟩
  have key : ∃ r, lp (fun s => T_rowCount_b1 t σ s.1 s.2) fuel (1, 8) = some r ∧ r = lN (prodL (fun i => wys (kd i) (ch i).length) (usd ch 16)) := by
    refine lp_for 16 (fun j s => s = (lN (prodL (fun i => wys (kd i) (ch i).length) (usd ch j)), nI (8 + j))) _ _ 0 (by omega) rfl (by omega) ?_ ?_
    · intro j s hj hs
      subst hs
      left
      have hl := (hA (8 + j) (by omega)).1
      refine ⟨_, ?_, rfl⟩
      unfold T_rowCount_b1
      refine ifn (nI_ge (b := 24) (by omega) (by omega)) ?_
      refine ob (hA.size ht (by omega)) ?_
      rw [usd_s]
      by_cases q : ch (8 + j) = []
      · rw [if_pos q, List.append_nil]
        refine ob (a := lN (prodL (fun i => wys (kd i) (ch i).length) (usd ch j))) (ifp (by rw [q]; decide) rfl) ?_
        exact lti (nI_1 _) rfl
      · have h0 : 0 < (ch (8 + j)).length := List.length_pos_iff.mpr q
        rw [if_neg q, prodL_app]
        refine ob (a := lN (prodL (fun i => wys (kd i) (ch i).length) (usd ch j) * prodL (fun i => wys (kd i) (ch i).length) [8 + j])) ?_ (lti (nI_1 _) rfl)
        refine ifn (nI_nle h0 (by omega)) ?_
        refine ob (hA.ways ht (by omega) q) ?_
        refine lti (b := _) ?_ rfl
        have hw : wys (kd (8 + j)) (ch (8 + j)).length < 2 ^ 31 := by
          have : ∀ k, k ≤ 8 → fac k < 2 ^ 31 := by decide +kernel
          unfold wys
          by_cases c : kd (8 + j) = true
          · rw [if_pos c]; omega
          · rw [if_neg c]; exact this _ hl
        rw [nI_l hw, lN_mul]
        congr 2
        exact (Nat.mul_one _).symm
    · intro s hs
      subst hs
      refine ⟨_, ?_, rfl⟩
      unfold T_rowCount_b1
      exact ifp (nI_le (a := 24) (by omega) (by omega)) rfl
  obtain ⟨r, k1, k2⟩ := key
  unfold T_rowCount
  refine lti rfl ?_
  refine ob k1 ?_
  rw [k2]
  congr 2
  refine prodL_perm ?_
  refine (List.perm_ext_iff_of_nodup ?_ (nd_nodup 8 root hw8)).mpr (fun i => ?_)
  · exact List.Pairwise.filter _ (List.nodup_range' (s := 8) (n := 16))
  · unfold usd
    rw [List.mem_filter, List.mem_range'_1]
    constructor
    · rintro ⟨q1, q2⟩
      have : ch i ≠ [] := by simpa using q2
      exact (h.2.2.2.2.2.1 i q1.1 (by omega) this).nd hw8
    · intro q
      obtain ⟨-, g2, g3⟩ := nd_sub 8 root hw8 i q
      have hl := ((Wf_node g3).mp g2).1
      have hne : ch i ≠ [] := fun e => by rw [e] at hl; simp at hl
      refine ⟨⟨g3, ?_⟩, by simpa using hne⟩
      have := nd_lt hA 8 root h.2.2.1 q
      omega
end

section
variable {kd : Nat → Bool} {ch ch2 : Nat → List Nat} {st : Nat → Nat}
theorem OrdR_sym {k : Bool} {A B : List Nat} (h : OrdR k A B) : OrdR k B A := (OrdR_tr h).mp (OrdR_self k A)
theorem reo_FrD (h : ∀ i, OrdR (kd i) (ch i) (ch2 i)) : ∀ (d id : Nat) (r : List Nat), FrD kd ch d id r → FrD kd ch2 d id r
  | 0, _, _, hf => hf
  | d + 1, id, r, hf => by
    unfold FrD at hf ⊢
    by_cases c : id < 8
    · rw [if_pos c] at hf ⊢; exact hf
    · rw [if_neg c] at hf ⊢
      obtain ⟨L, h1, h2⟩ := hf
      exact ⟨L, (OrdR_tr (h id)).mp h1, SeqR_mono (fun c _ r hr => reo_FrD h d c r hr) h2⟩
theorem reo_Fr (h : ∀ i, OrdR (kd i) (ch i) (ch2 i)) (id : Nat) (r : List Nat) : Fr kd ch2 id r ↔ Fr kd ch id r :=
  ⟨fun ⟨d, hd⟩ => ⟨d, reo_FrD (fun i => OrdR_sym (h i)) d id r hd⟩, fun ⟨d, hd⟩ => ⟨d, reo_FrD h d id r hd⟩⟩
theorem reo_WfD (h : ∀ i, OrdR (kd i) (ch i) (ch2 i)) : ∀ (d id : Nat), WfD kd ch st d id → WfD kd ch2 st d id
  | 0, _, hf => hf
  | d + 1, id, hf => by
    unfold WfD at hf ⊢
    by_cases c : id < 8
    · rw [if_pos c] at hf ⊢; exact hf
    · rw [if_neg c] at hf ⊢
      have hp := OrdR_perm (h id)
      obtain ⟨a1, a2, a3, a4, a5⟩ := hf
      rw [hp.length_eq]
      exact ⟨a1, a2, by rw [a3]; exact orL_perm (fun c => hp.mem_iff.symm), Dj_perm hp a4, fun c hc => reo_WfD h d c (a5 c (hp.mem_iff.mp hc))⟩
theorem reo_nd (h : ∀ i, OrdR (kd i) (ch i) (ch2 i)) : ∀ (d id i : Nat), i ∈ ndD ch d id → i ∈ ndD ch2 d id
  | 0, _, _, hf => by unfold ndD at hf; simp at hf
  | d + 1, id, i, hf => by
    by_cases c : id < 8
    · unfold ndD at hf; rw [if_pos c] at hf; simp at hf
    · rw [nd_in c] at hf ⊢
      rcases hf with hf | ⟨e, he, hf⟩
      · exact Or.inl hf
      · exact Or.inr ⟨e, (OrdR_mem (h id)).mpr he, reo_nd h d e i hf⟩
theorem can_uniq {k : Bool} {A B : List Nat} (hO : OrdR k A B) (h1 : 1 ≤ A.length) (hA : CanL k st A) (hB : CanL k st B) : B = A := by
  unfold OrdR at hO
  unfold CanL at hA hB
  by_cases c : k = true
  · rw [if_pos c] at hO hA hB
    rcases hO with e | e
    · exact e
    · exfalso
      subst e
      rw [List.length_reverse, rev_getD (by omega), rev_getD (by omega)] at hB
      have e1 : A.length - 1 - (A.length - 1) = 0 := by omega
      have e2 : A.length - 1 - 0 = A.length - 1 := by omega
      rw [e1, e2] at hB
      omega
  · rw [if_neg c] at hO hA hB
    exact sorted_eq (f := fun a => lst (st a)) hB hA hO
theorem wfd_pc : ∀ id, Wf kd ch st id → st id < 256 → WfD kd ch st (pc8 (st id)) id := by
  refine Wf_ind (kd := kd) (ch := ch) (st := st) (fun id => st id < 256 → WfD kd ch st (pc8 (st id)) id) ?_ ?_
  · intro id h8 hs hlt
    have h1 := pc_pos _ hlt (by rw [hs]; exact Nat.ne_of_gt (Nat.two_pow_pos id))
    obtain ⟨k, hk⟩ : ∃ k, pc8 (st id) = k + 1 := ⟨pc8 (st id) - 1, by omega⟩
    rw [hk]; unfold WfD; rw [if_pos h8]; exact hs
  · intro id h8 hw hc hlt
    obtain ⟨g1, g2, g3, gD, gW⟩ := (Wf_node h8).mp hw
    have h256 : ∀ c ∈ ch id, st c < 256 ∧ st c ≠ 0 := fun c hc2 => ⟨Nat.lt_of_le_of_lt (Nat.le_of_testBit (child_sub h8 hw hc2)) hlt, Wf_ne0 c (gW c hc2)⟩
    have hpc : ∀ c ∈ ch id, pc8 (st c) + 1 ≤ pc8 (st id) := fun c hc2 => by
      have h2 := pcs_mem hc2 h256
      rw [g3, pcs_or gD]; omega
    have h1 := pc_pos _ hlt (Wf_ne0 id hw)
    obtain ⟨k, hk⟩ : ∃ k, pc8 (st id) = k + 1 := ⟨pc8 (st id) - 1, by omega⟩
    rw [hk]
    unfold WfD
    rw [if_neg (by omega)]
    refine ⟨g1, g2, g3, gD, fun c hc2 => WfD_mono ((hc c hc2).2 (h256 c hc2).1) (by have := hpc c hc2; omega)⟩
end
def DR (σ : Mem) (t : Nat) (kd : Nat → Bool) (ch : Nat → List Nat) (st : Nat → Nat) (root : Nat) : Prop := TR σ t kd ch st root ∧ WfD kd ch st 8 root ∧ (∀ i ∈ ndD ch 8 root, CanL (kd i) st (ch i)) ∧ σ t 5 = nI (ndD ch 8 root).length ∧ ndD ch 8 root = List.range' 8 (ndD ch 8 root).length
theorem T_draw_ok {σ : Mem} {t t1 : Nat} {kd1 : Nat → Bool} {ch1 : Nat → List Nat} {st1 : Nat → Nat} {root1 : Nat} (ht : isT t) (ht1 : isT t1) (hne : t ≠ t1) (h1 : TR σ t1 kd1 ch1 st1 root1) (hW : TW σ t) : ∃ τ kd ch st root ch1', T_draw t t1 σ = some τ ∧ DR τ t kd ch st root ∧ st root = st1 root1 ∧ (∀ r, Fr kd ch root r ↔ Fr kd1 ch1 root1 r) ∧ TR τ t1 kd1 ch1' st1 root1 ∧ (∀ r, Fr kd1 ch1' root1 r ↔ Fr kd1 ch1 root1 r) ∧ (DR σ t1 kd1 ch1 st1 root1 → ch1' = ch1) ∧ (∀ k, (k < t ∨ t + 10 < k) → k ≠ t1 + 4 → τ k = σ k) := by
  obtain ⟨hA, h4, hr, hwf, hlf, hcl, hd, hla⟩ := h1
  have x1 : ∀ a, a ≤ 10 → ∀ b, b ≤ 10 → t1 + a ≠ t + b := fun a ha b hb => isT_ne ht ht1 hne a b ha hb
  have hur : Us ch1 root1 := us_wf hwf
  have hs256 := ((hA root1 hr).2.2.2.1 hur).1
  have hpc := pc_le _ hs256
  have hw8 : WfD kd1 ch1 st1 8 root1 := WfD_mono (wfd_pc root1 hwf hs256) hpc
  have hTW := clM_tw hW
  have zt1 : t1 ≠ t := Ne.symm hne
  have zb : ∀ b, b ≤ 10 → t1 ≠ t + b := fun b hb => x1 0 (by omega) b hb
  have eC : ∀ a, a ≤ 10 → clM σ t (t1 + a) = σ (t1 + a) := fun a ha => clM_ne (x1 a ha 0 (by omega)) (x1 a ha 2 (by omega)) (x1 a ha 3 (by omega))
  have hA1 : AT (clM σ t) t1 kd1 ch1 st1 := hA.same (eC 1 (by omega)) (eC 2 (by omega)) (eC 3 (by omega)) (eC 4 (by omega))
  have e0 : clM σ t t1 = σ t1 := clM_ne zt1 (zb 2 (by omega)) (zb 3 (by omega))
  have hn7 : (ndD ch1 8 root1).length ≤ 7 := by have := (nd_lv 8 root1 hw8).1; have := lv_le8 hw8; omega
  have hFsh : Fsh t 0 (clM σ t) := fun i h1 h2 => by
    rw [clM_2, clM_3]; unfold clrF; rw [if_pos (by omega), if_pos (by omega)]; exact ⟨rfl, rfl⟩
  have hP := place_ok (kd1 := kd1) (st1 := st1) ht1 ht hne 8 24 root1 0 0 (clM σ t) ch1 (fun _ => false) (fun _ => []) (fun i => 2 ^ i) (by omega) hw8 hr hA1 (fun _ _ => rfl) (fun i hi => (hTW.1 i hi).1) clM_5 (by omega) (by omega) hFsh
  obtain ⟨τ, id', ch1', kd', ch', st', p1, p2, p3, p4, p5, p6, p7, p8, p9, p10, p11, p12, p13, p14, p15⟩ := hP
  rw [Nat.zero_add] at p6 p7
  have hnd' : ∀ i ∈ ndD ch' 8 id', 8 ≤ i ∧ i < 8 + (ndD ch1 8 root1).length := fun i hi => by rw [p15, List.mem_range'_1] at hi; omega
  have hid8 : id' < 8 + (ndD ch1 8 root1).length ∨ id' < 8 := by
    by_cases q : root1 < 8
    · right; rw [p10 q]; exact q
    · left
      rw [p11 (by omega)]
      have := List.length_pos_of_mem (nd_self hw8 (by omega)); omega
  -- the functions, cut off
  let chC : Nat → List Nat := fun i => if i < 8 + (ndD ch1 8 root1).length then ch' i else []
  have hcC : ∀ i, i < 8 + (ndD ch1 8 root1).length → chC i = ch' i := fun i hi => if_pos hi
  have hcN : ∀ i, ¬ i < 8 + (ndD ch1 8 root1).length → chC i = [] := fun i hi => if_neg hi
  have hndC : ndD chC 8 id' = ndD ch' 8 id' := nd_same 8 id' (fun i hi => hcC i (hnd' i hi).2)
  have hwC : WfD kd' chC st' 8 id' := WfD_same 8 id' p12 (fun i hi => ⟨rfl, hcC i (hnd' i hi).2, rfl⟩) (fun _ _ => rfl)
  have hfC : ∀ r, Fr kd' chC id' r ↔ Fr kd' ch' id' r := Fr_same 8 id' p12 (fun i hi => ⟨rfl, hcC i (hnd' i hi).2⟩)
  have hlen : (ndD chC 8 id').length = (ndD ch1 8 root1).length := by rw [hndC, p15, List.length_range']
  let υ := mput τ t 4 (nI id')
  have u1 : ∀ k, k ≠ t → υ k = τ k := fun k hk => mput_ne k hk
  have u2 : ∀ i, i ≠ 4 → υ t i = τ t i := fun i hi => by show mput _ _ _ _ _ _ = _; rw [mput_at, if_neg (fun e => hi e.2)]
  have hATυ : AT υ t kd' chC st' := by
    intro id hid
    rw [u1 (t + 1) (by omega), u1 (t + 2) (by omega), u1 (t + 3) (by omega), u1 (t + 4) (by omega)]
    by_cases q : id < 8
    · obtain ⟨y1, y2, y3⟩ := p8 id (by omega)
      obtain ⟨z1, z2, z3⟩ := p5.2.2.1 id (by omega)
      have e : chC id = [] := by rw [hcC id (by omega), y2]
      rw [e, z2, z3]
      refine ⟨by simp, (hTW.1 id q).2.1, fun i hi => by simp at hi, fun _ => ?_, fun w => absurd rfl w⟩
      rw [y3]
      exact ⟨Nat.pow_lt_pow_right (by omega) q (a := 2), (hTW.1 id q).1⟩
    · by_cases q2 : id < 8 + (ndD ch1 8 root1).length
      · have y := (p9 id (by omega) (by omega)).1
        unfold NA at y
        have hus : Us chC id ↔ Us ch' id := by unfold Us; rw [hcC id q2]
        rw [hus, hcC id q2]; exact y
      · obtain ⟨y1, y2⟩ := p7 id (by omega) hid
        rw [hcN id q2, y2]
        refine ⟨by simp, rfl, fun i hi => by simp at hi, fun w => ?_, fun w => absurd rfl w⟩
        rcases w with w | w
        · omega
        · exact absurd (hcN id q2) w
  have hReo : ∀ i, OrdR (kd1 i) (ch1 i) (ch1' i) := fun i => by
    by_cases q : i ∈ ndD ch1 8 root1
    · exact (p4 i q).1
    · rw [p3 i q]; exact OrdR_self _ _
  have zt4 : t ≠ t1 + 4 := fun e => x1 4 (by omega) 0 (by omega) e.symm
  have zq : ∀ b, b ≤ 10 → t + b ≠ t1 + 4 := fun b hb e => x1 4 (by omega) b hb e.symm
  have hτn : ∀ k, k ≠ t → k ≠ t + 1 → k ≠ t + 2 → k ≠ t + 3 → k ≠ t + 4 → k ≠ t1 + 4 → υ k = σ k := fun k a b c d e f => by
    rw [u1 k a, p5.1 k a b c d e f, clM_ne a c d]
  have hυt1 : υ t1 = σ t1 := hτn t1 zt1 (zb 1 (by omega)) (zb 2 (by omega)) (zb 3 (by omega)) (zb 4 (by omega)) (by omega)
  have hυt1a : ∀ a, a ≤ 10 → a ≠ 4 → υ (t1 + a) = σ (t1 + a) := fun a ha h4 => hτn _ (x1 a ha 0 (by omega)) (x1 a ha 1 (by omega)) (x1 a ha 2 (by omega)) (x1 a ha 3 (by omega)) (x1 a ha 4 (by omega)) (by omega)
  refine ⟨υ, kd', chC, st', id', ch1', ?_, ⟨⟨hATυ, ?_, by omega, ⟨8, hwC⟩, ?_, ?_, ?_⟩, hwC, ?_, ?_, ?_⟩, p13, fun r => (hfC r).trans (p14 r), ⟨?_, ?_, hr, ⟨8, reo_WfD hReo 8 root1 hw8⟩, ?_, ?_, hd, ?_, ?_⟩, reo_Fr hReo root1, ?_, ?_⟩
  · unfold T_draw
    refine ob (T_clear_eq ht) ?_
    rw [e0, h4]
    refine ob p1 ?_
    refine lti rfl ?_
    refine lti rfl ?_
    exact lti rfl rfl
  · show mput _ _ _ _ _ _ = _; rw [mput_at, if_pos ⟨rfl, rfl⟩]
  · intro i hi
    obtain ⟨y1, y2, y3⟩ := p8 i (by omega)
    refine ⟨y3, by rw [hcC i (by omega), y2], ?_⟩
    rw [u1 _ (by omega), p5.1 _ (by omega) (by omega) (by omega) (by omega) (by omega) (zq 9 (by omega))]
    exact (hTW.1 i hi).2.2
  · intro i h8 h24 hne2
    have q : i < 8 + (ndD ch1 8 root1).length := Classical.byContradiction (fun q => hne2 (hcN i q))
    exact ⟨8, by rw [hndC, p15, List.mem_range'_1]; omega⟩
  · obtain ⟨hd0, l1, l2⟩ := hTW.2
    refine ⟨hd0, ?_, ?_⟩
    · rw [u2 9 (by omega), p5.2.1 9 (by omega)]; exact l1
    · rw [u1 _ (by omega), p5.1 _ (by omega) (by omega) (by omega) (by omega) (by omega) (zq 6 (by omega))]; exact l2
  · intro i hi
    rw [hndC] at hi
    have hb := hnd' i hi
    rw [hcC i hb.2]
    exact (p9 i (by omega) (by omega)).2
  · rw [u2 5 (by omega), p6, hlen]
  · rw [hlen, hndC, p15]
  · exact p2.same (u1 _ (x1 1 (by omega) 0 (by omega))) (u1 _ (x1 2 (by omega) 0 (by omega))) (u1 _ (x1 3 (by omega) 0 (by omega))) (u1 _ (x1 4 (by omega) 0 (by omega)))
  · rw [hυt1]; exact h4
  · intro i hi
    obtain ⟨w1, w2, w3⟩ := hlf i hi
    have hni : i ∉ ndD ch1 8 root1 := fun q => by have := (nd_sub 8 root1 hw8 i q).2.2; omega
    exact ⟨w1, by rw [p3 i hni, w2], by rw [hυt1a 9 (by omega) (by omega)]; exact w3⟩
  · intro i h8 h24 hne2
    have hne3 : ch1 i ≠ [] := fun e => hne2 (by have := OrdR_perm (hReo i); rw [e] at this; exact List.perm_nil.mp this)
    exact ⟨8, reo_nd hReo 8 root1 i ((hcl i h8 h24 hne3).nd hw8)⟩
  · rw [hυt1]; exact hla.1
  · rw [hυt1a 6 (by omega) (by omega)]; exact hla.2
  · intro hDR
    funext i
    by_cases q : i ∈ ndD ch1 8 root1
    · obtain ⟨-, g2, g3⟩ := nd_sub 8 root1 hw8 i q
      exact can_uniq (p4 i q).1 (by have := ((Wf_node g3).mp g2).1; omega) (hDR.2.2.1 i q) (p4 i q).2
    · exact p3 i q
  · intro k hk hk4
    exact hτn k (by omega) (by omega) (by omega) (by omega) (by omega) hk4

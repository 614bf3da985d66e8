theorem bc8 : ∀ m, m < 256 → J_bitCount (nI m) = nI (pc8 m) := by decide +kernel
theorem cons_small {S : Nat} (h : ∀ i j, S.testBit i = true → S.testBit j = true → i = j) : ∀ {r : List Nat}, r.Nodup → Cons S r
  | [], _ => noS_cons_of noS_nil
  | x :: r, hn => by
    rw [List.nodup_cons] at hn
    rw [cons_cons]
    by_cases q : S.testBit x = true
    · rw [if_pos q]
      refine noS_pre (fun y hy => ?_)
      cases q2 : S.testBit y
      · rfl
      · exact absurd hy (by rw [h y x q2 q]; exact hn.1)
    · rw [if_neg q]; exact cons_small h hn.2
def TW (σ : Mem) (t : Nat) : Prop := (∀ i, i < 8 → σ (t + 2) i = nI (2 ^ i) ∧ σ (t + 3) i = 0 ∧ σ (t + 9) i = 1) ∧ ∃ hd, LA σ t 9 6 hd
def TR (σ : Mem) (t : Nat) (kd : Nat → Bool) (ch : Nat → List Nat) (st : Nat → Nat) (root : Nat) : Prop := AT σ t kd ch st ∧ σ t 4 = nI root ∧ root < 24 ∧ Wf kd ch st root ∧ (∀ i, i < 8 → st i = 2 ^ i ∧ ch i = [] ∧ σ (t + 9) i = 1) ∧ (∀ id, 8 ≤ id → id < 24 → ch id ≠ [] → Rc ch root id) ∧ ∃ hd, LA σ t 9 6 hd
theorem TR.tw {σ : Mem} {t : Nat} {kd : Nat → Bool} {ch : Nat → List Nat} {st : Nat → Nat} {root : Nat} (h : TR σ t kd ch st root) : TW σ t := by
  refine ⟨fun i hi => ?_, h.2.2.2.2.2.2⟩
  obtain ⟨a1, a2, a3⟩ := h.2.2.2.2.1 i hi
  obtain ⟨b1, b2, b3, b4, b5⟩ := h.1 i (by omega)
  refine ⟨by rw [(b4 (Or.inl hi)).2, a1], by rw [b2, a2]; rfl, a3⟩
theorem TR.cnt {σ : Mem} {t : Nat} {kd : Nat → Bool} {ch : Nat → List Nat} {st : Nat → Nat} {root D : Nat} (h : TR σ t kd ch st root) (hw : WfD kd ch st D root) : (∀ i, 8 ≤ i → i < 24 → ch i ≠ [] → i ∈ ndD ch D root) ∧ (ndD ch D root).length ≤ 7 := by
  refine ⟨fun i h8 h24 hne => (h.2.2.2.2.2.1 i h8 h24 hne).nd hw, ?_⟩
  have := (nd_lv D root hw).1
  have := lv_le8 hw
  omega
theorem T_reduce_ok {σ : Mem} {t : Nat} {kd : Nat → Bool} {ch : Nat → List Nat} {st : Nat → Nat} {root : Nat} (h : TR σ t kd ch st root) (ht : isT t) {S0 : Nat} (hS0 : S0 < 256) :
    ((∃ r, Fr kd ch root r ∧ Cons (S0 &&& st root) r) ∧ ∃ τ kd' ch' st', T_reduce t (nI S0) σ = some (1, τ) ∧ TR τ t kd' ch' st' root ∧ RF t σ τ ∧ st' root = st root ∧ ∀ r, Fr kd' ch' root r ↔ (Fr kd ch root r ∧ Cons (S0 &&& st root) r)) ∨
    ((∀ r, Fr kd ch root r → ¬ Cons (S0 &&& st root) r) ∧ ∃ τ, T_reduce t (nI S0) σ = some (0, τ) ∧ TW τ t ∧ RF t σ τ) := by
  obtain ⟨hA, h4, hr, hwf, hlf, hcl, hd, hla⟩ := id h
  have hur : Us ch root := us_wf hwf
  have hsr := hA.set ht hr hur
  have hs256 := ((hA root hr).2.2.2.1 hur).1
  have hS : S0 &&& st root < 256 := Nat.lt_of_le_of_lt Nat.and_le_left hS0
  have hsub : subM (S0 &&& st root) (st root) := fun i hi => by rw [Nat.testBit_and, Bool.and_eq_true] at hi; exact hi.2
  have hstart : ∀ {res : Option (Int32 × Mem)}, (if 2 ≤ nI (pc8 (S0 &&& st root)) then (T_lowestWith t (nI (S0 &&& st root)) σ).bind (fun vq8 => (T_stateOf t vq8 (nI (S0 &&& st root)) σ).bind (fun vq12 => if vq12 = 2 then some (1, σ) else lt (mput σ t 7 0) (fun σ18 => lt (mput σ18 t 11 0) (fun σ20 => (rd σ20 (t + 1) vq8).bind (fun vq22 => ((if vq22 = 0 then (T_reduceFree t vq8 (nI (S0 &&& st root)) σ20).bind (fun q => lt q.1 (fun vq36 => lt q.2 (fun σ37 => some (vq36, σ37)))) else (T_reduceTurning t vq8 (nI (S0 &&& st root)) σ20).bind (fun q => lt q.1 (fun vq29 => lt q.2 (fun σ30 => some (vq29, σ30)))) : Option (Int32 × Mem))).bind (fun q => lt q.1 (fun vq34 => lt q.2 (fun σ35 => (T_giveBackSplit t σ35).bind (fun σ41 => some (vq34, σ41)))))))))) else some (1, σ)) = res → T_reduce t (nI S0) σ = res := fun {res} hh => by
    unfold T_reduce
    rw [h4]
    refine ob hsr ?_
    refine lti (xI_and _ _) ?_
    rw [bc8 _ hS]
    exact hh
  generalize hSe : S0 &&& st root = S at *
  have hpcle := pc_le S hS
  have same : (∀ r, Fr kd ch root r → Cons S r) → T_reduce t (nI S0) σ = some (1, σ) → ((∃ r, Fr kd ch root r ∧ Cons S r) ∧ ∃ τ kd' ch' st', T_reduce t (nI S0) σ = some (1, τ) ∧ TR τ t kd' ch' st' root ∧ RF t σ τ ∧ st' root = st root ∧ ∀ r, Fr kd' ch' root r ↔ (Fr kd ch root r ∧ Cons S r)) := fun hall he => by
    obtain ⟨r, hr⟩ := Fr_ex root hwf
    exact ⟨⟨r, hr, hall r hr⟩, σ, kd, ch, st, he, h, RF.rf, rfl, fun r => ⟨fun q => ⟨q, hall r q⟩, fun q => q.1⟩⟩
  by_cases c2 : two S
  · have hpc : 2 ≤ pc8 S := (two_iff hS).mp c2
    have hpcI : (2 : Int32) ≤ nI (pc8 S) := nI_le (a := 2) hpc (by omega)
    obtain ⟨D, hw⟩ := hwf
    obtain ⟨hU, hU7⟩ := h.cnt hw
    obtain ⟨N, k, l1, l2, l3, l4, l5, l6, l7, l8⟩ := hA.lowest ht h4 hr hw hsub c2 hS
    have huN : Us ch N := us_wf ⟨_, l3⟩
    have hst := hA.state (S := S) ht l5 huN
    have hst2 : stt st S N ≤ 2 := by rcases stt_3 st S N with e | e | e <;> omega
    have hN0 : st N ≠ 0 := Wf_ne0 N ⟨_, l3⟩
    by_cases cw : stt st S N = 2
    · left
      refine same ?_ (hstart ?_)
      · have e : S = st N := subM_anti l6 ((stt2_iff hN0).mp cw)
        exact (sure_iff D root hw S c2 hsub).mpr ⟨N, l8, Or.inl e⟩
      · refine ifp hpcI ?_
        refine ob l1 ?_
        refine ob hst ?_
        exact ifp (by rw [cw]; rfl) rfl
    · have hS0' : S ≠ 0 := fun e => by obtain ⟨i, j, -, hi, -⟩ := c2; rw [e] at hi; simp at hi
      have hR20 : RS (mput (mput σ t 7 0) t 11 0) t kd ch st [] hd [] := by
        have hF : ∀ x, x ≠ t → mput (mput σ t 7 0) t 11 0 x = σ x := fun x hx => by rw [mput_ne x hx, mput_ne x hx]
        refine ⟨hA.same (hF _ (by omega)) (hF _ (by omega)) (hF _ (by omega)) (hF _ (by omega)), ⟨?_, fun i hi => by simp at hi⟩, ⟨?_, ?_⟩, ⟨?_, fun i hi => by simp at hi⟩, by simp⟩
        · rw [mput_at, if_neg (by omega), mput_at, if_pos ⟨rfl, rfl⟩]; rfl
        · rw [mput_at, if_neg (by omega), mput_at, if_neg (by omega)]; exact hla.1
        · rw [hF _ (by omega)]; exact hla.2
        · rw [mput_at, if_pos ⟨rfl, rfl⟩]; rfl
      have hRF20 : RF t σ (mput (mput σ t 7 0) t 11 0) := by
        refine ⟨fun x hx => by rw [mput_ne x (by omega), mput_ne x (by omega)], ?_, ?_⟩
        · rw [mput_at, if_neg (by omega), mput_at, if_neg (by omega)]
        · rw [mput_at, if_neg (by omega), mput_at, if_neg (by omega)]
      obtain ⟨hne, hl2, hl8, hsN256, hDj, hor, d', hd', hch⟩ := node_ok hA l3 l4 l5
      subst hd'
      have rk := hR20.1.kind ht l5 hne
      have hRX : RX t kd ch st S N (mput (mput σ t 7 0) t 11 0) (((if (if kd N = true then (1 : Int32) else 0) = 0 then (T_reduceFree t (nI N) (nI S) (mput (mput σ t 7 0) t 11 0)).bind (fun q => lt q.1 (fun vq36 => lt q.2 (fun σ37 => some (vq36, σ37)))) else (T_reduceTurning t (nI N) (nI S) (mput (mput σ t 7 0) t 11 0)).bind (fun q => lt q.1 (fun vq29 => lt q.2 (fun σ30 => some (vq29, σ30)))) : Option (Int32 × Mem)))) := by
        have eb : ∀ o : Option (Int32 × Mem), o.bind (fun q => lt q.1 (fun a => lt q.2 (fun b => some (a, b)))) = o := fun o => by cases o <;> rfl
        rw [eb, eb]
        cases hk : kd N
        · rw [if_pos (by simp)]
          exact rfree_ok hA ht hU hU7 l3 l4 l5 hk l6 hS0' l7 cw hR20
        · rw [if_neg (by simp)]
          exact rturn_ok hA ht hU hU7 l3 l4 l5 hk l6 hS0' l7 hR20
      rcases hRX with ⟨x1, τ, x2, x3, x4⟩ | ⟨τ, kdE, chE, stE, ln, hd2, sp, x1, x2, x3, x4, x5, x6⟩
      · right
        obtain ⟨kd3, ch3, st3, ln3, hd3, sp3, y1, y2, y3⟩ := x3
        obtain ⟨τ2, g1, g2, g3⟩ := y1.give ht (fun i hi => (y3 i hi).2)
        refine ⟨?_, τ2, hstart ?_, ⟨fun i hi => ?_, hd3, g3.la (by omega) y1.2.2.1⟩, (hRF20.tr x4).tr g3.rf⟩
        · intro r hr hc
          obtain ⟨x, a, y, e, ha⟩ := path_seg l2 hr
          rw [e] at hc
          exact x1 a ha (cons_seg hc)
        · refine ifp hpcI ?_
          refine ob l1 ?_
          refine ob hst ?_
          refine ifn (nI_ne (b := 2) (by omega) (by omega) cw) ?_
          refine lti rfl ?_
          refine lti rfl ?_
          refine ob rk ?_
          refine ob x2 ?_
          refine lti rfl ?_
          refine lti rfl ?_
          exact ob g1 rfl
        · obtain ⟨b1, b2, b3, b4, b5⟩ := g2 i (by omega)
          obtain ⟨z1, z2⟩ := y2 i hi
          obtain ⟨w1, w2, w3⟩ := hlf i hi
          have e0 : clr ch3 sp3 i = [] := by
            by_cases q : i ∈ sp3
            · exact clr_s q
            · rw [clr_n q, z2, w2]
          refine ⟨by rw [(b4 (Or.inl hi)).2, z1, w1], by rw [b2, e0]; rfl, ?_⟩
          have e1 := ((hRF20.tr x4).tr g3.rf).1 (t + 9) (by omega)
          rw [e1]; exact w3
      · left
        obtain ⟨n1, n2, n3, n4, n5⟩ := x6
        obtain ⟨τ2, g1, g2, g3⟩ := x2.give ht (fun i hi => (x4 i hi).2.1)
        have hRFa := (hRF20.tr x3).tr g3.rf
        have hNs : N ∉ sp := fun q => by
          have := ((Wf_node l4).mp n1).1
          rw [clr_s q] at this; simp at this
        obtain ⟨p1, p2, p3, p4⟩ := path_ok (S := S) x5 l4 (fun i hi => (x4 i hi).1) (fun i hi => (x4 i hi).2.2) hN0 n1 n2 n4 k root ⟨_, hw⟩ l2
        have hfr := ab_ok n3 k root ⟨_, hw⟩ p1
        have hRN : Rc (clr chE sp) root N := p4 N ⟨_, l8⟩ hNs
        refine ⟨?_, τ2, kdE, clr chE sp, stE, hstart ?_, ⟨g2, ?_, hr, p2, ?_, ?_, hd2, g3.la (by omega) x2.2.2.1⟩, hRFa, p3, hfr⟩
        · obtain ⟨r, hr⟩ := Fr_ex root p2
          exact ⟨r, (hfr r).mp hr⟩
        · refine ifp hpcI ?_
          refine ob l1 ?_
          refine ob hst ?_
          refine ifn (nI_ne (b := 2) (by omega) (by omega) cw) ?_
          refine lti rfl ?_
          refine lti rfl ?_
          refine ob rk ?_
          refine ob x1 ?_
          refine lti rfl ?_
          refine lti rfl ?_
          exact ob g1 rfl
        · rw [hRFa.2.1]; exact h4
        · intro i hi
          obtain ⟨w1, w2, w3⟩ := hlf i hi
          obtain ⟨v1, v2, v3⟩ := x5 i (Or.inl hi) (by omega) (fun q => by have := (x4 i q).1; omega)
          refine ⟨by rw [v3, w1], by rw [v2, w2], ?_⟩
          rw [hRFa.1 (t + 9) (by omega)]; exact w3
        · intro i h8 h24 hne2
          by_cases q : ch i = []
          · obtain ⟨d2, hd2'⟩ := hRN
            exact Rc.tr d2 root N hd2' (n5 i h8 hne2 q)
          · have hs : i ∉ sp := fun q2 => hne2 (clr_s q2)
            exact p4 i (hcl i h8 h24 q) hs
  · left
    refine same ?_ (hstart ?_)
    · intro r hr
      refine cons_small (fun i j hi hj => ?_) (Fr_set root hwf r hr).1
      exact Classical.byContradiction (fun q => c2 ⟨i, j, q, hi, hj⟩)
    · have : ¬ 1 < pc8 S := fun q => c2 ((two_iff hS).mpr q)
      exact ifn (nI_ge (b := 2) (by omega) (by omega)) rfl

section
variable {σ τ : Mem} {t : Nat} {kd : Nat → Bool} {ch : Nat → List Nat} {st : Nat → Nat} {root : Nat}
theorem TW.same (h : TW σ t) (hs : ∀ a, a ≤ 10 → τ (t + a) = σ (t + a)) : TW τ t := by
  obtain ⟨h1, hd, h2⟩ := h
  have e0 : τ t = σ t := hs 0 (by omega)
  refine ⟨fun i hi => ?_, hd, ?_, ?_⟩
  · rw [hs 2 (by omega), hs 3 (by omega), hs 9 (by omega)]; exact h1 i hi
  · rw [e0]; exact h2.1
  · rw [hs 6 (by omega)]; exact h2.2
theorem TR.same (h : TR σ t kd ch st root) (hs : ∀ a, a ≤ 10 → τ (t + a) = σ (t + a)) : TR τ t kd ch st root := by
  obtain ⟨b1, b2, b3, b4, b5, b6, hd, b7⟩ := h
  have e0 : τ t = σ t := hs 0 (by omega)
  refine ⟨b1.same (hs 1 (by omega)) (hs 2 (by omega)) (hs 3 (by omega)) (hs 4 (by omega)), by rw [e0]; exact b2, b3, b4, fun i hi => ?_, b6, hd, by rw [e0]; exact b7.1, by rw [hs 6 (by omega)]; exact b7.2⟩
  rw [hs 9 (by omega)]; exact b5 i hi
theorem DR.same (h : DR σ t kd ch st root) (hs : ∀ a, a ≤ 10 → τ (t + a) = σ (t + a)) : DR τ t kd ch st root := by
  have e0 : τ t = σ t := hs 0 (by omega)
  exact ⟨h.1.same hs, h.2.1, h.2.2.1, by rw [e0]; exact h.2.2.2.1, h.2.2.2.2⟩
theorem T_plant_dr (ht : isT t) (h : TW σ t) {n : Nat} (h1 : 1 ≤ n) (hn : n ≤ 8) : ∃ τ kd ch st root, T_plant t (nI n) σ = some τ ∧ DR τ t kd ch st root ∧ T0 t σ τ ∧ st root = fullM n ∧ ∀ r, Fr kd ch root r ↔ (r.Nodup ∧ ∀ x, x ∈ r ↔ x < n) := by
  obtain ⟨τ, kd, ch, st, root, a1, a2, a3, a4, a5, a6⟩ := T_plant_ok ht h h1 hn
  have hur : Us ch root := us_wf a2.2.2.2.1
  have hs256 := ((a2.1 root a2.2.2.1).2.2.2.1 hur).1
  have hw8 : WfD kd ch st 8 root := WfD_mono (wfd_pc root a2.2.2.2.1 hs256) (pc_le _ hs256)
  refine ⟨τ, kd, ch, st, root, a1, ⟨a2, hw8, ?_, ?_, ?_⟩, a3, a4, a6⟩
  · rcases a5 with ⟨-, e, -⟩ | ⟨e1, e2, e3, e4, e5⟩
    · subst e; intro i hi; unfold ndD at hi; simp at hi
    · subst e2
      intro i hi
      rw [ndD_node (by omega), e4] at hi
      have hno : (List.range n).flatMap (ndD ch 7) = [] := by
        rw [List.flatMap_eq_nil_iff]
        intro c hc
        rw [List.mem_range] at hc
        unfold ndD; rw [if_pos (by omega)]
      rw [hno, List.mem_singleton] at hi
      subst hi
      unfold CanL
      rw [e5, e4, if_neg (by simp)]
      refine List.Pairwise.imp_of_mem ?_ (List.pairwise_lt_range (n := n))
      intro a b ha hb hab
      rw [List.mem_range] at ha hb
      rw [(a2.2.2.2.2.1 a (by omega)).1, (a2.2.2.2.2.1 b (by omega)).1, (lst_pow a (by omega)).1, (lst_pow b (by omega)).1]
      exact hab
  · rcases a5 with ⟨-, e, e2⟩ | ⟨e1, e2, e3, e4, e5⟩
    · subst e; rw [e2]; rfl
    · subst e2
      rw [e3, ndD_node (by omega), e4]
      have hno : (List.range n).flatMap (ndD ch 7) = [] := by
        rw [List.flatMap_eq_nil_iff]
        intro c hc
        rw [List.mem_range] at hc
        unfold ndD; rw [if_pos (by omega)]
      rw [hno]; rfl
  · rcases a5 with ⟨-, e, e2⟩ | ⟨e1, e2, e3, e4, e5⟩
    · subst e; rfl
    · subst e2
      rw [ndD_node (by omega), e4]
      have hno : (List.range n).flatMap (ndD ch 7) = [] := by
        rw [List.flatMap_eq_nil_iff]
        intro c hc
        rw [List.mem_range] at hc
        unfold ndD; rw [if_pos (by omega)]
      rw [hno]; rfl
end
theorem RG_add {n : Nat} {G : Nat → Nat} {bs i : Nat} (hi : i < 10) {r : List Nat} : RG n G (bs ||| 2 ^ i) 0 r ↔ (RG n G bs 0 r ∧ Cons (G i &&& fullM n) r) := by
  unfold RG
  constructor
  · rintro ⟨a, b, c, d⟩
    refine ⟨⟨a, b, fun g hg hb => c g hg (by rw [Nat.testBit_or, hb]; rfl), d⟩, c i hi ?_⟩
    rw [Nat.testBit_or, Nat.testBit_two_pow_self]; simp
  · rintro ⟨⟨a, b, c, d⟩, e⟩
    refine ⟨a, b, fun g hg hb => ?_, d⟩
    rw [Nat.testBit_or, Nat.testBit_two_pow, Bool.or_eq_true] at hb
    rcases hb with hb | hb
    · exact c g hg hb
    · simp at hb; subst hb; exact e
/- the class, i of its groups judged -/
def CP (σ : Mem) (n : Nat) (G : Nat → Nat) (c i : Nat) (kd : Nat → Bool) (ch : Nat → List Nat) (st : Nat → Nat) (root : Nat) : Prop := σ 0 0 = nI n ∧ 1 ≤ n ∧ n ≤ 8 ∧ σ 0 2 = nI c ∧ c ≤ 10 ∧ (∀ g, g < c → σ 1 g = nI (G g) ∧ G g < 256) ∧ σ 0 3 = nI (tkB n G i) ∧ DR σ 10 kd ch st root ∧ st root = fullM n ∧ (∀ r, Fr kd ch root r ↔ RG n G (tkB n G i) 0 r) ∧ TW σ 21 ∧ TW σ 32
def FC (σ τ : Mem) : Prop := (∀ k, k ≠ 0 → (k < 10 ∨ 42 < k) → τ k = σ k) ∧ ∀ f, f ≠ 3 → τ 0 f = σ 0 f
theorem FC.tr {a b c : Mem} (h1 : FC a b) (h2 : FC b c) : FC a c := ⟨fun k q1 q2 => (h2.1 k q1 q2).trans (h1.1 k q1 q2), fun f q => (h2.2 f q).trans (h1.2 f q)⟩
theorem isT10 : isT 10 := Or.inl rfl
theorem isT21 : isT 21 := Or.inr (Or.inl rfl)
theorem isT32 : isT 32 := Or.inr (Or.inr rfl)
theorem sd_self {b i : Nat} (h : ∀ j, b.testBit j = true → j < i) : sd b (2 ^ i) = b := by
  apply Nat.eq_of_testBit_eq
  intro j
  rw [sd_bit, Nat.testBit_two_pow]
  cases q : b.testBit j
  · rfl
  · have := h j q
    simp; omega
theorem takeGroup_ok {σ : Mem} {n : Nat} {G : Nat → Nat} {c i : Nat} {kd : Nat → Bool} {ch : Nat → List Nat} {st : Nat → Nat} {root : Nat} (h : CP σ n G c i kd ch st root) (hi : i < c) : ∃ τ kd' ch' st' root', O_takeGroup (nI i) σ = some τ ∧ CP τ n G c (i + 1) kd' ch' st' root' ∧ FC σ τ := by
  obtain ⟨a1, a2, a3, a4, a5, a6, a7, a8, a9, a10, a11, a12⟩ := h
  have htl := tkB_lt (n := n) (G := G) (c := i) (by omega)
  have e3 : (σ 0 3) &&& (((1 : Int32) <<< (nI i &&& 31)) ^^^ (-1)) = nI (tkB n G i) := by
    rw [a7, xI_bit (by omega), xI_diff, sd_self (fun j hj => tkB_bit hj)]
  let σ3 := mput σ 0 3 (nI (tkB n G i))
  have s3 : ∀ k, k ≠ 0 → σ3 k = σ k := fun k hk => mput_ne k hk
  have s3f : ∀ f, f ≠ 3 → σ3 0 f = σ 0 f := fun f hf => by show mput _ _ _ _ _ _ = _; rw [mput_at, if_neg (fun e => hf e.2)]
  have hD3 : DR σ3 10 kd ch st root := a8.same (fun a _ => s3 _ (by omega))
  have hW3 : TW σ3 32 := a12.same (fun a _ => s3 _ (by omega))
  obtain ⟨τ, kd2, ch2, st2, root2, ch1', d1, d2, d3, d4, d5, d6, d7, d8⟩ := T_draw_ok isT32 isT10 (by omega) hD3.1 hW3
  have e7 := d7 hD3
  subst e7
  have hτ0 : ∀ k, (k < 32 ∨ 42 < k) → k ≠ 14 → τ k = σ3 k := fun k q1 q2 => d8 k (by omega) (by omega)
  have hD10 : DR τ 10 kd ch1' st root := ⟨d5, a8.2.1, a8.2.2.1, by rw [hτ0 10 (by omega) (by omega)]; exact hD3.2.2.2.1, a8.2.2.2.2⟩
  have hgi := a6 i hi
  have rg : rd τ 1 (nI i) = some (nI (G i)) := by
    rw [rdT (N := 10) rfl (by omega) (by omega), hτ0 1 (by omega) (by omega), s3 1 (by omega), hgi.1]
  have hRGi : ∀ r, RG n G (tkB n G i ||| 2 ^ i) 0 r ↔ (Fr kd2 ch2 root2 r ∧ Cons (G i &&& st2 root2) r) := fun r => by
    rw [RG_add (by omega), d4, a10, d3, a9]
  have hst : tkB n G (i + 1) = tkB n G i ||| (if 0 < cnt n G (tkB n G i ||| 2 ^ i) 0 then 2 ^ i else 0) := rfl
  rcases T_reduce_ok d2.1 isT32 hgi.2 with ⟨⟨r0, hr0⟩, υ, kd3, ch3, st3, r1, r2, r3, r4, r5⟩ | ⟨hno, υ, r1, r2, r3⟩
  · have hpos : 0 < cnt n G (tkB n G i ||| 2 ^ i) 0 := (cnt_pos a3).mpr ⟨r0, (hRGi r0).mpr hr0⟩
    rw [if_pos hpos] at hst
    have hυ : ∀ k, (k < 32 ∨ 39 < k) → υ k = τ k := fun k q => r3.1 k (by omega)
    have hD10υ : DR υ 10 kd ch1' st root := hD10.same (fun a ha => hυ _ (by omega))
    obtain ⟨w, kd4, ch4, st4, root4, ch5, f1, f2, f3, f4, f5, f6, f7, f8⟩ := T_draw_ok isT10 isT32 (by omega) r2 hD10υ.1.tw
    have hw0 : ∀ k, (k < 10 ∨ 20 < k) → k ≠ 36 → w k = υ k := fun k q1 q2 => f8 k (by omega) (by omega)
    have hall : ∀ k, (k < 10 ∨ 42 < k ∨ (20 < k ∧ k < 32)) → w k = σ3 k := fun k q => by
      rw [hw0 k (by omega) (by omega), hυ k (by omega), hτ0 k (by omega) (by omega)]
    let w2 := mput w 0 3 (nI (tkB n G (i + 1)))
    have z1 : ∀ k, k ≠ 0 → w2 k = w k := fun k hk => mput_ne k hk
    have z2 : ∀ f, f ≠ 3 → w2 0 f = σ 0 f := fun f hf => by
      show mput _ _ _ _ _ _ = _
      rw [mput_at, if_neg (fun e => hf e.2), hall 0 (by omega), s3f f hf]
    refine ⟨w2, kd4, ch4, st4, root4, ?_, ⟨?_, a2, a3, ?_, a5, ?_, ?_, ?_, ?_, ?_, ?_, ?_⟩, ?_, z2⟩
    · unfold O_takeGroup
      refine lti rfl ?_
      refine lti (b := σ3) (by rw [e3]) ?_
      refine ob d1 ?_
      refine ob rg ?_
      refine ob r1 ?_
      refine lti rfl ?_
      refine lti rfl ?_
      refine ob (a := w2) ?_ rfl
      refine ifn (show ¬ (1 : Int32) = 0 by decide) ?_
      refine ob f1 ?_
      refine lti (b := w2) ?_ rfl
      show mput w 0 3 _ = mput w 0 3 _
      congr 1
      rw [hall 0 (by omega)]
      have e33 : σ3 0 3 = nI (tkB n G i) := by show mput _ _ _ _ _ _ = _; rw [mput_at, if_pos ⟨rfl, rfl⟩]
      rw [e33, xI_bit (by omega), xI_or, hst]
    · rw [z2 0 (by omega)]; exact a1
    · rw [z2 2 (by omega)]; exact a4
    · intro g hg
      rw [z1 1 (by omega), hall 1 (by omega), s3 1 (by omega)]; exact a6 g hg
    · show mput _ _ _ _ _ _ = _; rw [mput_at, if_pos ⟨rfl, rfl⟩]
    · exact f2.same (fun a _ => z1 _ (by omega))
    · rw [f3, r4, d3, a9]
    · intro r
      rw [f4, r5, ← hRGi, hst]
    · exact a11.same (fun a _ => by rw [z1 _ (by omega), hall _ (by omega), s3 _ (by omega)])
    · exact (f5.tw).same (fun a _ => z1 _ (by omega))
    · intro k q1 q2
      rw [z1 k q1, hall k (by omega), s3 k q1]
  · have hneg : ¬ 0 < cnt n G (tkB n G i ||| 2 ^ i) 0 := fun q => by
      obtain ⟨r, hr⟩ := (cnt_pos a3).mp q
      obtain ⟨u1, u2⟩ := (hRGi r).mp hr
      exact hno r u1 u2
    rw [if_neg hneg, Nat.or_zero] at hst
    have hυ : ∀ k, (k < 32 ∨ 39 < k) → υ k = τ k := fun k q => r3.1 k (by omega)
    have hall : ∀ k, (k < 10 ∨ 42 < k ∨ (20 < k ∧ k < 32)) → υ k = σ3 k := fun k q => by
      rw [hυ k (by omega), hτ0 k (by omega) (by omega)]
    refine ⟨υ, kd, ch1', st, root, ?_, ⟨?_, a2, a3, ?_, a5, ?_, ?_, ?_, a9, ?_, ?_, r2⟩, ?_, ?_⟩
    · unfold O_takeGroup
      refine lti rfl ?_
      refine lti (b := σ3) (by rw [e3]) ?_
      refine ob d1 ?_
      refine ob rg ?_
      refine ob r1 ?_
      refine lti rfl ?_
      refine lti rfl ?_
      refine ob (a := υ) ?_ rfl
      exact ifp rfl rfl
    · rw [hall 0 (by omega), s3f 0 (by omega)]; exact a1
    · rw [hall 0 (by omega), s3f 2 (by omega)]; exact a4
    · intro g hg
      rw [hall 1 (by omega), s3 1 (by omega)]; exact a6 g hg
    · rw [hall 0 (by omega), hst]
      show mput _ _ _ _ _ _ = _; rw [mput_at, if_pos ⟨rfl, rfl⟩]
    · exact hD10.same (fun a ha => hυ _ (by omega))
    · rw [hst]; exact a10
    · exact a11.same (fun a _ => by rw [hall _ (by omega), s3 _ (by omega)])
    · intro k q1 q2
      rw [hall k (by omega), s3 k q1]
    · intro f hf
      rw [hall 0 (by omega), s3f f hf]

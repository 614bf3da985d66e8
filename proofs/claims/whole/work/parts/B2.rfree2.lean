noncomputable def freeTail (t : Nat) (x1 x2 : Int32) (σ40 : Mem) : Option (Int32 × Mem) := (T_keepEmpty t x1 x2 σ40).bind (fun σ54 => (rd σ54 (t + 3) x1).bind (fun vq58 => ((if vq58 = 0 then (T_fillFromLine t x1 σ54).bind (fun σ86 => some σ86) else if (σ54 t 7) = 1 then (rd σ54 (t + 5) 0).bind (fun vq80 => (T_add t x1 vq80 σ54).bind (fun σ82 => some σ82)) else (T_unusedNode t σ54).bind (fun vq67 => (T_fillFromLine t vq67 σ54).bind (fun σ71 => (T_add t x1 vq67 σ71).bind (fun σ75 => some σ75))) : Option (Mem))).bind (fun σ79 => some (1, σ79))))
section
variable {σ0 σ τ : Mem} {t : Nat} {kd0 kd : Nat → Bool} {ch0 ch : Nat → List Nat} {st0 st : Nat → Nat} {S d N : Nat} {L X hd sp nw : List Nat} {items : List (List Nat)}
theorem free_tail (hA0 : AT σ0 t kd0 ch0 st0) (ht : isT t) {U0 : List Nat} (hU : ∀ i, 8 ≤ i → i < 24 → ch0 i ≠ [] → i ∈ U0) (hU7 : U0.length ≤ 7) (hw : WfD kd0 ch0 st0 (d + 1) N) (h8 : 8 ≤ N) (hn : N < 24) (hk : kd0 N = false) (hs : subM S (st0 N)) (h0 : S ≠ 0) (hno : ∀ c ∈ ch0 N, ¬ subM S (st0 c)) (hn2 : stt st0 S N ≠ 2)
    (hF : freeA (splitA kd0 ch0 st0 S d) st0 S (ch0 N) = some items) (hLm : ∀ p, p ∈ L ↔ p ∈ fE st0 S (ch0 N) 1 ++ fE st0 S (ch0 N) 2) (hb : pcs st0 L ≤ 8) (h : LnS t kd0 ch0 st0 S d σ L τ X items kd ch st hd sp nw) :
    ∃ τ2 kdE chE stE, freeTail t (nI N) (nI S) τ = some (1, τ2) ∧ RS τ2 t kdE chE stE X hd sp ∧ RF t σ τ2 ∧ (∀ i ∈ sp, 8 ≤ i ∧ i < 24 ∧ subM (st0 i) (st0 N)) ∧ Kpt kd0 ch0 st0 kdE (clr chE sp) stE N sp ∧ NRes kd0 ch0 st0 S N sp kdE (clr chE sp) stE := by
  obtain ⟨hne, hl2, hl8, hs256, hD, hor, d', hd', hch⟩ := node_ok hA0 hw h8 hn
  have hdd : d' = d := by omega
  subst hdd
  have hwf : Wf kd0 ch0 st0 N := ⟨_, hw⟩
  have h2 := nE_two h8 hwf hs h0 hno
  have hP : ∀ c r, Fr kd0 ch0 c r → Fr kd0 ch0 c r.reverse := fun c r h => Fr_rev h
  obtain ⟨fk1, -⟩ := freeA_ok hP (spl := splitA kd0 ch0 st0 S d') (C := ch0 N) (S := S) (st := st0) (fun c hc => Wf_shw (S := S) ⟨_, (hch c hc).1⟩) (fun c hc h1 => spl_ok (hch c hc).1 h1) h2
  have hfr := fk1 items hF
  obtain ⟨hE, hE1, hE2⟩ := freeA_elts (d := d') (fun c x hc h1 hx => splitA_elts hA0 d' c hc.1 (by
      by_cases q : c < 8
      · exact absurd h1 (leaf_stt ((Wf_leaf q).mp ⟨d', hc.1⟩))
      · omega) hc.2.1 h1 x hx) (fun c hc => hch c hc) hD hF
  have hEL : ElB kd0 ch0 st0 S d' L items := by
    obtain ⟨q1, q2, q3, q4, q5⟩ := hE
    refine ⟨q1, ?_, q3, ?_, ?_⟩
    · intro c hc
      obtain ⟨b1, b2, b3, b4, b5, p, hp, b6⟩ := q2 c hc
      exact ⟨b1, b2, b3, b4, b5, p, (hLm p).mpr hp, b6⟩
    · rw [q4]; exact orL_perm (fun c => (hLm c).symm)
    · intro p hp; exact q5 p ((hLm p).mp hp)
  have hLN : ∀ p ∈ L, p ∈ ch0 N := fun p hp => by
    have := (hLm p).mp hp
    rw [List.mem_append] at this
    rcases this with q | q
    · exact (fE_mem.mp q).1
    · exact (fE_mem.mp q).1
  have hcv : ∀ p ∈ ch0 N, p ∈ L ∨ stt st0 S p = 0 := fun p hp => by
    rcases stt_3 st0 S p with q | q | q
    · exact Or.inr q
    · exact Or.inl ((hLm p).mpr (List.mem_append.mpr (Or.inl (fE_mem.mpr ⟨hp, q⟩))))
    · exact Or.inl ((hLm p).mpr (List.mem_append.mpr (Or.inr (fE_mem.mpr ⟨hp, q⟩))))
  have hnE : 2 ≤ (fE st0 S (ch0 N) 1).length + (fE st0 S (ch0 N) 2).length := by
    have e := nE_perm (st := st0) (S := S) (fE_part st0 S (ch0 N))
    have e0 : ∀ A B : List Nat, nE st0 S (A ++ B) = nE st0 S A + nE st0 S B := fun A B => by unfold nE; rw [List.filter_append, List.length_append]
    have e1 : nE st0 S (fE st0 S (ch0 N) 0) = 0 := by
      unfold nE
      rw [List.length_eq_zero_iff, List.filter_eq_nil_iff]
      intro c hc; rw [(fE_mem.mp hc).2]; simp
    have e2 : ∀ A, nE st0 S A ≤ A.length := fun A => List.length_filter_le _ _
    rw [e0, e0, e1] at e
    have := e2 (fE st0 S (ch0 N) 1); have := e2 (fE st0 S (ch0 N) 2)
    omega
  have hel := h.elt hEL hw h8 hne hLN
  have hNs := h.notin hw h8 hLN
  have hIt := h.2.2.2.1
  have hXl : X.length = items.length := hIt.len
  have hX8 : X.length ≤ 8 := by have := h.2.2.2.2.1; omega
  have hXI := h.2.2.1
  have hnw4 : nw.length ≤ 4 := by have := h.2.2.2.2.2.1; omega
  have hcn : ch N = ch0 N := (hXI.1 N (Or.inr hne)).2.2 hNs
  have hkn : kd N = false := ((hXI.1 N (Or.inr hne)).1).trans hk
  have hstc : ∀ c ∈ ch0 N, st c = st0 c := fun c hc => (hXI.1 c (hch c hc).2.2.1).2.1
  have hcN : ∀ c ∈ ch0 N, c ≠ N := fun c hc e => child_proper h8 hwf hc (by rw [e]; exact fun _ h => h)
  have hEeq : fE st S (ch N) 0 = fE st0 S (ch0 N) 0 := by rw [hcn]; exact fE_same hstc
  obtain ⟨τ1, k1, k2, k3, k4, k5⟩ := h.1.keep (S := S) ht hn (by rw [hcn]; exact hne) (fun c hc => by
    rw [hcn] at hc
    exact ⟨hcN c hc, hXI.us (hch c hc).2.2.1, by rw [hstc c hc]; exact (hch c hc).2.2.2.1⟩)
  rw [hEeq] at k2 k5
  rw [hkn] at k4
  have hcov : ∀ p ∈ fE st0 S (ch0 N) 1 ++ fE st0 S (ch0 N) 2, ∀ i ∈ ndD ch0 d' p, stt st0 S i = 1 → i ∈ sp := fun p hp => h.2.2.2.2.2.2.2.2.2.2 p ((hLm p).mpr hp)
  have hspc : ∀ i ∈ sp, 8 ≤ i ∧ i < 24 := h.2.2.2.2.2.2.2.2.1
  have hspn : ∀ i ∈ nw, i ∉ sp ∧ i ≠ N := fun i hi => by
    obtain ⟨a1, a2, a3, a4⟩ := hXI.2.2.1 i hi
    exact ⟨fun q => (hXI.2.1 i q).1 a3, fun e => hne (by rw [← e]; exact a3)⟩
  have hXu1 : ∀ v, ∀ c ∈ X, c < 24 ∧ c ≠ N ∧ Us (uf ch N v) c ∧ st c < 256 := fun v c hc => by
    obtain ⟨a1, a2, a3, a4⟩ := hel c hc
    exact ⟨a1, a2, a3.uf a2, a4⟩
  have hnewX : ∀ i, ch i ≠ [] → ch0 i = [] → i ∈ X := fun i hi h0 => h.2.2.2.2.2.2.2.1 i ((hXI.2.2.2.2 i hi).resolve_left (fun q => q h0))
  have r3 : rd τ1 (t + 3) (nI N) = some (nI (fE st0 S (ch0 N) 0).length) := by have := k2.1.size ht hn; rwa [uf_s] at this
  have hEl8 : (fE st0 S (ch0 N) 0).length ≤ 8 := by have := fE_len_le (st := st0) (S := S) (q := 0) (C := ch0 N); omega
  by_cases cE : fE st0 S (ch0 N) 0 = []
  · -- all into the line
    rw [cE] at k2 r3
    obtain ⟨τ2, f1, f2, f3⟩ := k2.fill ht hn hX8 (fun c hc => by
      obtain ⟨a1, a2, a3, a4⟩ := hXu1 [] c hc
      exact ⟨a1, a2, a3, by rw [uf_n a2]; exact a4⟩)
    rw [uf_uf, uf_uf] at f2
    have hoX0 : orL (uf st N (orL st [])) X = orL st X := orL_same (fun c hc => uf_n (hXu1 [] c hc).2.1)
    rw [hoX0] at f2
    obtain ⟨b1, b2, b3, b4, b5, b6, b7, b8⟩ := fin_base (kdF := uf kd N true) (chF := clr (uf ch N X) sp) (stF := uf st N (orL st X)) hA0 h hEL hw h8 hn hLN hcv fill_same
    obtain ⟨c1, c2, c3, c4, c5, c6⟩ := itl_fr b5 b4 b6 hE.2.2.1
    have hcNF : clr (uf ch N X) sp N = X := by rw [clr_n hNs, uf_s]
    have hoX : orL st X = orL (uf st N (orL st X)) X := (orL_same (st := uf st N (orL st X)) (st0 := st) b8).symm
    have hsN : uf st N (orL st X) N = st0 N := by
      rw [uf_s, hoX, c2, hE.2.2.2.1, hor]
      refine orL_perm (fun c => ?_)
      rw [← (fE_part st0 S (ch0 N)).mem_iff, cE, List.nil_append]
    have h1ne : fE st0 S (ch0 N) 1 ≠ [] := fun e => by
      apply hn2
      rw [stt2_iff (Wf_ne0 N hwf)]
      intro i hi
      rw [hor] at hi
      obtain ⟨c, hc, hb⟩ := (orL_bit st0 _ i).mp hi
      have : stt st0 S c = 2 := by
        rcases stt_3 st0 S c with q | q | q
        · have : c ∈ fE st0 S (ch0 N) 0 := fE_mem.mpr ⟨hc, q⟩
          rw [cE] at this; simp at this
        · have : c ∈ fE st0 S (ch0 N) 1 := fE_mem.mpr ⟨hc, q⟩
          rw [e] at this; simp at this
        · exact q
      exact (stt2_iff (hch c hc).2.2.2.2).mp this i hb
    refine ⟨τ2, _, _, _, ?_, f2, (h.2.1.tr k3.rf).tr f3.rf, fun i hi => ⟨b2 i hi, (hspc i hi).2, b3 i hi⟩, b1, ?_⟩
    · unfold freeTail
      refine ob k1 ?_
      refine ob r3 ?_
      refine ob (a := τ2) ?_ rfl
      refine ifp rfl ?_
      exact ob f1 rfl
    · refine free_fin h8 hwf hk hfr hE (fun c hc => (hch c hc).1) hcov b7 c1 c2 c3 c4 c5 hsN (Or.inl ⟨cE, hcNF, uf_s, ?_, ?_⟩)
      · rw [hXl]; exact hE2 h1ne hnE
      · intro i h8i hi h0i
        have qs : i ∉ sp := fun q => by rw [clr_s q] at hi; exact hi rfl
        by_cases qN : i = N
        · subst qN; exact absurd h0i hne
        · rw [clr_n qs, uf_n qN] at hi
          exact hnewX i hi h0i
  · have hEp := List.length_pos_iff.mpr cE
    have r3n : ¬ nI (fE st0 S (ch0 N) 0).length = 0 := nI_ne0 hEp (by omega)
    have hEl : (fE st0 S (ch0 N) 0).length < 8 := by
      obtain ⟨p1, p2, p3, p4⟩ := pc_two (S := S) hA0 hw h8 hn
      omega
    have e7 : τ1 t 7 = nI X.length := k2.2.1.1
    have hEm : ∀ c ∈ fE st0 S (ch0 N) 0, c ∈ ch0 N := fun c hc => (fE_mem.mp hc).1
    have hoEs : orL st (fE st0 S (ch0 N) 0) < 256 := orL_lt (fun c hc => by rw [hstc c (hEm c hc)]; exact (hch c (hEm c hc)).2.2.2.1)
    have k2u : AT τ1 t (uf kd N false) (uf ch N (fE st0 S (ch0 N) 0)) (uf st N (orL st (fE st0 S (ch0 N) 0))) := by
      have e : uf kd N false = kd := by rw [← hkn]; exact uf_self
      rw [e]; exact k2.1
    by_cases cX : X.length = 1
    · obtain ⟨a, ea⟩ := List.length_eq_one_iff.mp cX
      obtain ⟨a1, a2, a3, a4⟩ := hel a (by rw [ea]; simp)
      obtain ⟨τ2, f1, f2, f3, f4, f5, f6⟩ := k2u.add2 ht hn a1 a2 a3 a4 hEl k4 k5 hoEs
      obtain ⟨b1, b2, b3, b4, b5, b6, b7, b8⟩ := fin_base (kdF := uf kd N false) (chF := clr (uf ch N (fE st0 S (ch0 N) 0 ++ [a])) sp) (stF := uf st N (orL st (fE st0 S (ch0 N) 0 ++ [a]))) hA0 h hEL hw h8 hn hLN hcv fill_same
      obtain ⟨c1, c2, c3, c4, c5, c6⟩ := itl_fr b5 b4 b6 hE.2.2.1
      have hcNF : clr (uf ch N (fE st0 S (ch0 N) 0 ++ [a])) sp N = fE st0 S (ch0 N) 0 ++ [a] := by rw [clr_n hNs, uf_s]
      have hsa : uf st N (orL st (fE st0 S (ch0 N) 0 ++ [a])) a = orL st0 items.flatten := by
        rw [← c2, ea]; show _ = _ ||| 0; rw [Nat.or_zero]
      have hsa2 : st a = orL st0 items.flatten := by rw [← hsa, uf_n a2]
      have hsN : uf st N (orL st (fE st0 S (ch0 N) 0 ++ [a])) N = st0 N := by
        rw [uf_s, orL_snoc, hsa2, hE.2.2.2.1, hor, orL_same (fun c hc => hstc c (hEm c hc)), ← orL_app, ← List.append_assoc]
        exact orL_perm (fun c => (fE_part st0 S (ch0 N)).mem_iff)
      have hFa : ∀ r, Fr (uf kd N false) (clr (uf ch N (fE st0 S (ch0 N) 0 ++ [a])) sp) a r ↔ SeqR (FreeR (Fr kd0 ch0)) items r := fun r => by
        rw [← c1, ea, SeqR_one]
      refine ⟨τ2, _, _, _, ?_, k2.f14 f6 f2, (h.2.1.tr k3.rf).tr f6.rf, fun i hi => ⟨b2 i hi, (hspc i hi).2, b3 i hi⟩, b1, ?_⟩
      · unfold freeTail
        refine ob k1 ?_
        refine ob r3 ?_
        refine ob (a := τ2) ?_ rfl
        refine ifn r3n ?_
        refine ifp (by rw [e7, cX]; rfl) ?_
        refine ob (a := nI a) ?_ (ob f1 rfl)
        rw [L_0, rdT (lnT5 ht) (by omega) (by omega), k2.2.1.2 0 (by omega), ea]; rfl
      · refine free_fin h8 hwf hk hfr hE (fun c hc => (hch c hc).1) hcov b7 c1 c2 c3 c4 c5 hsN (Or.inr ⟨cE, a, hcNF, uf_s, ⟨_, c4 a (by rw [ea]; simp)⟩, hsa, ?_, ?_, ?_⟩)
        · intro r
          rw [hFa]
          constructor
          · exact Or.inl
          · rintro (q | q)
            · exact q
            · have := Fr_rev ((hFa _).mpr q)
              rw [List.reverse_reverse] at this
              exact (hFa r).mp this
        · intro x hx i hi
          rw [ea, List.mem_singleton] at hx
          rw [hx] at hi; exact hi
        · intro i h8i hi h0i
          left
          have qs : i ∉ sp := fun q => by rw [clr_s q] at hi; exact hi rfl
          by_cases qN : i = N
          · subst qN; exact absurd h0i hne
          · rw [clr_n qs, uf_n qN] at hi
            exact hnewX i hi h0i
    · have h1ne : fE st0 S (ch0 N) 1 ≠ [] := fun e => by
        apply cX
        rw [hXl, hE1 e]
        unfold bun
        rw [if_neg (fun q => by rw [e, q] at hnE; simp at hnE)]; rfl
      have h3X : 3 ≤ X.length := by rw [hXl]; exact hE2 h1ne hnE
      obtain ⟨m0, m1, m2, m3⟩ := hXI.free hU hU7 hnw4
      have hm0N : m0 ≠ N := fun e => hne (by rw [← hcn, ← e]; exact m3)
      obtain ⟨m, u1, u2, u3, u4⟩ := k2.1.unused ht ⟨m0, m1, m2, by rw [uf_n hm0N]; exact m3⟩
      have hmN : m ≠ N := fun e => by rw [e, uf_s] at u4; exact cE u4
      rw [uf_n hmN] at u4
      have hm0 : ch0 m = [] := Classical.byContradiction (fun q => by
        rcases hXI.us (c := m) (Or.inr q) with u | u
        · omega
        · exact u u4)
      have hmX : m ∉ X := fun q => by
        rcases (hel m q).2.2.1 with u | u
        · omega
        · exact u u4
      have hms : m ∉ sp := fun q => (hXI.2.1 m q).1 hm0
      obtain ⟨τ2, f1, f2, f3⟩ := k2.fill (node := m) ht (by omega) hX8 (fun c hc => by
        obtain ⟨a1, a2, a3, a4⟩ := hXu1 (fE st0 S (ch0 N) 0) c hc
        exact ⟨a1, fun e => hmX (by rw [← e]; exact hc), a3, by rw [uf_n a2]; exact a4⟩)
      have hoXu : ∀ v, orL (uf st N v) X = orL st X := fun v => orL_same (fun c hc => uf_n (hXu1 [] c hc).2.1)
      rw [hoXu] at f2
      -- the two updates may change places
      have sw : ∀ {α : Type} (f : Nat → α) (v w : α), uf (uf f N v) m w = uf (uf f m w) N v := fun f v w => by
        funext i; unfold uf
        by_cases e1 : i = m
        · subst e1; rw [if_pos rfl, if_neg hmN, if_pos rfl]
        · rw [if_neg e1]
          by_cases e2 : i = N
          · rw [if_pos e2, if_pos e2]
          · rw [if_neg e2, if_neg e2, if_neg e1]
      have hoEm : orL (uf st m (orL st X)) (fE st0 S (ch0 N) 0) = orL st (fE st0 S (ch0 N) 0) := orL_same (fun c hc => uf_n (fun e => by
        have := (hch c (hEm c hc)).2.2.1
        rcases this with u | u
        · omega
        · exact u (by rw [e]; exact hm0)))
      have f2a : AT τ2 t (uf (uf kd m true) N false) (uf (uf ch m X) N (fE st0 S (ch0 N) 0)) (uf (uf st m (orL st X)) N (orL (uf st m (orL st X)) (fE st0 S (ch0 N) 0))) := by
        have e1 : uf kd m true = uf (uf kd m true) N false := by
          funext i; unfold uf
          by_cases e2 : i = N
          · rw [if_pos e2, if_neg (by omega), e2, hkn]
          · rw [if_neg e2]
        rw [← e1, hoEm, ← sw, ← sw]; exact f2.1
      have hXm : ∀ c ∈ X, c ≠ m := fun c hc e => hmX (by rw [← e]; exact hc)
      have g1' : τ2 (t + 1) N = if false = true then 1 else 0 := by
        have := (f2.1 N hn).2.2.2.2 (by rw [uf_n (Ne.symm hmN), uf_s]; exact cE)
        rw [uf_n (Ne.symm hmN), hkn] at this; exact this
      have hstmX : orL st X < 256 := orL_lt (fun c hc => (hel c hc).2.2.2)
      have g2' : τ2 (t + 2) N = nI (orL (uf st m (orL st X)) (fE st0 S (ch0 N) 0)) := by
        have := ((f2a N hn).2.2.2.1 (Or.inr (by rw [uf_s]; exact cE))).2
        rwa [uf_s] at this
      have hXne : X ≠ [] := fun e => by rw [e] at h3X; simp at h3X
      obtain ⟨τ3, s1, s2, s3, s4, s5, s6⟩ := f2a.add2 ht hn (c := m) (by omega) hmN (Or.inr (by rw [uf_s]; exact hXne)) (by rw [uf_s]; exact hstmX) hEl g1' g2' (by rw [hoEm]; exact hoEs)
      have hov : orL (uf st m (orL st X)) (fE st0 S (ch0 N) 0 ++ [m]) = orL st (fE st0 S (ch0 N) 0) ||| orL st X := by rw [orL_snoc, hoEm, uf_s]
      rw [hov] at s2 s4
      obtain ⟨b1, b2, b3, b4, b5, b6, b7, b8⟩ := fin_base (kdF := uf (uf kd m true) N false) (chF := clr (uf (uf ch m X) N (fE st0 S (ch0 N) 0 ++ [m])) sp) (stF := uf (uf st m (orL st X)) N (orL st (fE st0 S (ch0 N) 0) ||| orL st X)) hA0 h hEL hw h8 hn hLN hcv (fun i q1 q2 q3 => by
        have q4 : i ≠ m := fun e => by
          rcases q3 with u | u
          · exact u (by rw [e]; exact u4)
          · omega
        exact ⟨by rw [uf_n q1, uf_n q4], by rw [clr_n q2, uf_n q1, uf_n q4], by rw [uf_n q1, uf_n q4]⟩)
      obtain ⟨c1, c2, c3, c4, c5, c6⟩ := itl_fr b5 b4 b6 hE.2.2.1
      have hcNF : clr (uf (uf ch m X) N (fE st0 S (ch0 N) 0 ++ [m])) sp N = fE st0 S (ch0 N) 0 ++ [m] := by rw [clr_n hNs, uf_s]
      have hcmF : clr (uf (uf ch m X) N (fE st0 S (ch0 N) 0 ++ [m])) sp m = X := by rw [clr_n hms, uf_n hmN, uf_s]
      have hkmF : uf (uf kd m true) N false m = true := by rw [uf_n hmN, uf_s]
      have hoX : orL st X = orL st0 items.flatten := by rw [← c2]; exact (orL_same b8).symm
      have hsm : uf (uf st m (orL st X)) N (orL st (fE st0 S (ch0 N) 0) ||| orL st X) m = orL st0 items.flatten := by rw [uf_n hmN, uf_s, hoX]
      have hsN : uf (uf st m (orL st X)) N (orL st (fE st0 S (ch0 N) 0) ||| orL st X) N = st0 N := by
        rw [uf_s, hoX, hE.2.2.2.1, hor, orL_same (fun c hc => hstc c (hEm c hc)), ← orL_app, ← List.append_assoc]
        exact orL_perm (fun c => (fE_part st0 S (ch0 N)).mem_iff)
      refine ⟨τ3, _, _, _, ?_, k2.f14 (f3.tr s6) s2, ((h.2.1.tr k3.rf).tr f3.rf).tr s6.rf, fun i hi => ⟨b2 i hi, (hspc i hi).2, b3 i hi⟩, b1, ?_⟩
      · unfold freeTail
        refine ob k1 ?_
        refine ob r3 ?_
        refine ob (a := τ3) ?_ rfl
        refine ifn r3n ?_
        refine ifn (by rw [e7]; exact nI_ne (b := 1) (by omega) (by omega) cX) ?_
        refine ob u1 ?_
        refine ob f1 ?_
        exact ob s1 rfl
      · refine free_fin h8 hwf hk hfr hE (fun c hc => (hch c hc).1) hcov b7 c1 c2 c3 c4 c5 hsN (Or.inr ⟨cE, m, hcNF, uf_s, ?_, hsm, ?_, ?_, ?_⟩)
        · rw [Wf_node u2, hcmF, hkmF, hsm]
          exact ⟨by omega, fun _ => h3X, c2.symm, c3, fun c hc => ⟨_, c4 c hc⟩⟩
        · intro r
          exact frN_turn u2 hkmF (by rw [hcmF]; exact c1) r
        · intro x hx i hi
          exact Rc.child u2 (by rw [hcmF]; exact hx) hi
        · intro i h8i hi h0i
          by_cases qm : i = m
          · exact Or.inr qm
          · left
            have qs : i ∉ sp := fun q => by rw [clr_s q] at hi; exact hi rfl
            by_cases qN : i = N
            · subst qN; exact absurd h0i hne
            · rw [clr_n qs, uf_n qN, uf_n qm] at hi
              exact hnewX i hi h0i
end

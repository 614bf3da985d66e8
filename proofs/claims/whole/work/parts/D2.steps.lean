def RP (n : Nat) (G : Nat → Nat) (P : Nat → Prop) (r : List Nat) : Prop := r.Nodup ∧ (∀ x, x ∈ r ↔ x < n) ∧ ∀ g, g < 10 → P g → Cons (G g &&& fullM n) r
def TP (σ : Mem) (t n : Nat) (G : Nat → Nat) (P : Nat → Prop) : Prop := ∃ kd ch st root, TR σ t kd ch st root ∧ st root = fullM n ∧ ∀ r, Fr kd ch root r ↔ RP n G P r
theorem RP_rg {n : Nat} {G : Nat → Nat} {P : Nat → Prop} {bs : Nat} (h : ∀ g, g < 10 → (bs.testBit g = true ↔ P g)) (r : List Nat) : RG n G bs 0 r ↔ RP n G P r := by
  unfold RG RP
  constructor
  · rintro ⟨a, b, c, -⟩; exact ⟨a, b, fun g hg hp => c g hg ((h g hg).mpr hp)⟩
  · rintro ⟨a, b, c⟩; exact ⟨a, b, fun g hg hp => c g hg ((h g hg).mp hp), by rw [Nat.zero_and]; exact cons_0 r⟩
theorem RP_congr {n : Nat} {G : Nat → Nat} {P Q : Nat → Prop} (h : ∀ g, g < 10 → (P g ↔ Q g)) (r : List Nat) : RP n G P r ↔ RP n G Q r := by
  unfold RP
  constructor
  · rintro ⟨a, b, c⟩; exact ⟨a, b, fun g hg hp => c g hg ((h g hg).mpr hp)⟩
  · rintro ⟨a, b, c⟩; exact ⟨a, b, fun g hg hp => c g hg ((h g hg).mp hp)⟩
theorem TP.congr {σ : Mem} {t n : Nat} {G : Nat → Nat} {P Q : Nat → Prop} (h : TP σ t n G P) (hq : ∀ g, g < 10 → (P g ↔ Q g)) : TP σ t n G Q := by
  obtain ⟨kd, ch, st, root, a, b, c⟩ := h
  exact ⟨kd, ch, st, root, a, b, fun r => (c r).trans (RP_congr hq r)⟩
theorem TP.same {σ τ : Mem} {t n : Nat} {G : Nat → Nat} {P : Nat → Prop} (h : TP σ t n G P) (hs : ∀ a, a ≤ 10 → τ (t + a) = σ (t + a)) : TP τ t n G P := by
  obtain ⟨kd, ch, st, root, a, b, c⟩ := h
  exact ⟨kd, ch, st, root, a.same hs, b, c⟩
theorem TP.tw {σ : Mem} {t n : Nat} {G : Nat → Nat} {P : Nat → Prop} (h : TP σ t n G P) : TW σ t := by
  obtain ⟨kd, ch, st, root, a, b, c⟩ := h
  exact a.tw
theorem TP.ex {σ : Mem} {t n : Nat} {G : Nat → Nat} {P : Nat → Prop} (h : TP σ t n G P) : ∃ r, RP n G P r := by
  obtain ⟨kd, ch, st, root, a, b, c⟩ := h
  obtain ⟨r, hr⟩ := Fr_ex root a.2.2.2.1
  exact ⟨r, (c r).mp hr⟩
theorem TP.count {σ : Mem} {t n : Nat} {G : Nat → Nat} {P : Nat → Prop} (h : TP σ t n G P) (ht : isT t) (hn : n ≤ 8) {bs : Nat} (hb : ∀ g, g < 10 → (bs.testBit g = true ↔ P g)) : T_rowCount t σ = some (lN (cnt n G bs 0)) := by
  obtain ⟨kd, ch, st, root, a, b, c⟩ := h
  obtain ⟨q1, q2⟩ := T_rowCount_ok a ht
  rw [q1, tree_count hn q2 (fun r => (c r).trans (RP_rg hb r).symm)]
theorem red_step {σ : Mem} {t n : Nat} {G : Nat → Nat} {P : Nat → Prop} (h : TP σ t n G P) (ht : isT t) {g : Nat} (hg : g < 10) (hG : G g < 256) : ∃ τ v, T_reduce t (nI (G g)) σ = some (v, τ) ∧ RF t σ τ ∧ ((v = 1 ∧ TP τ t n G (fun x => P x ∨ x = g)) ∨ (v = 0 ∧ TW τ t ∧ ¬ ∃ r, RP n G (fun x => P x ∨ x = g) r)) := by
  obtain ⟨kd, ch, st, root, a, b, c⟩ := h
  have key : ∀ r, (Fr kd ch root r ∧ Cons (G g &&& st root) r) ↔ RP n G (fun x => P x ∨ x = g) r := fun r => by
    rw [c, b]
    unfold RP
    constructor
    · rintro ⟨⟨x, y, z⟩, w⟩
      refine ⟨x, y, fun e he hp => ?_⟩
      rcases hp with hp | hp
      · exact z e he hp
      · subst hp; exact w
    · rintro ⟨x, y, z⟩
      exact ⟨⟨x, y, fun e he hp => z e he (Or.inl hp)⟩, z g hg (Or.inr rfl)⟩
  rcases T_reduce_ok a ht hG with ⟨-, υ, kd3, ch3, st3, r1, r2, r3, r4, r5⟩ | ⟨hno, υ, r1, r2, r3⟩
  · exact ⟨υ, 1, r1, r3, Or.inl ⟨rfl, kd3, ch3, st3, root, r2, by rw [r4, b], fun r => (r5 r).trans (key r)⟩⟩
  · refine ⟨υ, 0, r1, r3, Or.inr ⟨rfl, r2, ?_⟩⟩
    rintro ⟨r, hr⟩
    obtain ⟨u1, u2⟩ := (key r).mpr hr
    exact hno r u1 u2
theorem draw_step {σ : Mem} {n : Nat} {G : Nat → Nat} {P : Nat → Prop} (h : TP σ 21 n G P) (hW : TW σ 32) : ∃ τ, T_draw 32 21 σ = some τ ∧ TP τ 32 n G P ∧ TP τ 21 n G P ∧ ∀ k, (k < 21 ∨ 42 < k) → τ k = σ k := by
  obtain ⟨kd, ch, st, root, a, b, c⟩ := h
  obtain ⟨τ, kd2, ch2, st2, root2, ch1', d1, d2, d3, d4, d5, d6, d7, d8⟩ := T_draw_ok isT32 isT21 (by omega) a hW
  exact ⟨τ, d1, ⟨kd2, ch2, st2, root2, d2.1, by rw [d3, b], fun r => (d4 r).trans (c r)⟩, ⟨kd, ch1', st, root, d5, b, fun r => (d6 r).trans (c r)⟩, fun k hk => d8 k (by omega) (by omega)⟩
theorem plant_step {σ : Mem} {n : Nat} {G : Nat → Nat} (h : TW σ 21) (h1 : 1 ≤ n) (hn : n ≤ 8) : ∃ τ, T_plant 21 (nI n) σ = some τ ∧ TP τ 21 n G (fun _ => False) ∧ ∀ k, (k < 21 ∨ 31 < k) → τ k = σ k := by
  obtain ⟨τ, kd, ch, st, root, p1, p2, p3, p4, p5⟩ := T_plant_dr isT21 h h1 hn
  refine ⟨τ, p1, ⟨kd, ch, st, root, p2.1, p4, fun r => ?_⟩, fun k hk => p3 k (by omega)⟩
  rw [p5]
  unfold RP
  exact ⟨fun ⟨a, b⟩ => ⟨a, b, fun _ _ q => q.elim⟩, fun ⟨a, b, _⟩ => ⟨a, b⟩⟩
theorem one_group {n : Nat} {G : Nat → Nat} (i : Nat) : ∃ r, RP n G (fun x => False ∨ x = i) r := by
  refine ⟨(List.range n).filter (fun x => (G i &&& fullM n).testBit x) ++ (List.range n).filter (fun x => !(G i &&& fullM n).testBit x), ?_, ?_, ?_⟩
  · rw [List.nodup_append]
    refine ⟨List.Pairwise.filter _ List.nodup_range, List.Pairwise.filter _ List.nodup_range, ?_⟩
    intro a ha b hb e
    rw [List.mem_filter] at ha hb
    subst e
    rw [ha.2] at hb; simp at hb
  · intro x
    rw [List.mem_append, List.mem_filter, List.mem_filter, List.mem_range]
    constructor
    · rintro (⟨a, -⟩ | ⟨a, -⟩) <;> exact a
    · intro a
      cases q : (G i &&& fullM n).testBit x
      · right; exact ⟨a, by simp⟩
      · left; exact ⟨a, rfl⟩
  · intro g _ hg
    have hg : g = i := hg.resolve_left (fun q => q.elim)
    subst hg
    refine ⟨[], (List.range n).filter (fun x => (G g &&& fullM n).testBit x), (List.range n).filter (fun x => !(G g &&& fullM n).testBit x), rfl, fun x hx => (by simp at hx), fun x hx => (List.mem_filter.mp hx).2, fun x hx => ?_⟩
    have := (List.mem_filter.mp hx).2
    cases q : (G g &&& fullM n).testBit x
    · rfl
    · rw [q] at this; cases this

-- ===== the worlds: cells by number, one shape table; memory as ints by cell and slot =====
abbrev Mem : Type := Nat → Nat → Int32
def mset (σ : Mem) (k : Nat) (f : Nat → Int32) : Mem := fun j => if j = k then f else σ j
def mput (σ : Mem) (k i : Nat) (v : Int32) : Mem := mset σ k (upd (σ k) i v)
def shT (t : Nat) : List (Option Nat) := [some (t + 1), some (t + 2), some (t + 3), some (t + 4), none, none, some (t + 5), none, some (t + 6), none, some (t + 7), none, some (t + 8), some (t + 9), some (t + 10)]
def shp : Nat → Nat × Nat × List (Option Nat)
  | 0 => (2, 2, [none, some 1, none, none, some 2, none, none, some 6, some 10, some 3, none, some 21, some 32, some 4, some 5])
  | 1 => (0, 10, [])
  | 2 => (0, 8, [])
  | 3 => (0, 40, [])
  | 4 => (0, 8, [])
  | 5 => (0, 8, [])
  | 6 => (2, 0, [some 7, some 8, some 9])
  | 7 => (0, 4, [])
  | 8 => (0, 4, [])
  | 9 => (0, 240, [])
  | 10 => (2, 1, shT 10)
  | 11 => (0, 24, [])
  | 12 => (0, 24, [])
  | 13 => (0, 24, [])
  | 14 => (0, 192, [])
  | 15 => (0, 8, [])
  | 16 => (0, 8, [])
  | 17 => (0, 7, [])
  | 18 => (0, 24, [])
  | 19 => (0, 24, [])
  | 20 => (0, 24, [])
  | 21 => (2, 1, shT 21)
  | 22 => (0, 24, [])
  | 23 => (0, 24, [])
  | 24 => (0, 24, [])
  | 25 => (0, 192, [])
  | 26 => (0, 8, [])
  | 27 => (0, 8, [])
  | 28 => (0, 7, [])
  | 29 => (0, 24, [])
  | 30 => (0, 24, [])
  | 31 => (0, 24, [])
  | 32 => (2, 1, shT 32)
  | 33 => (0, 24, [])
  | 34 => (0, 24, [])
  | 35 => (0, 24, [])
  | 36 => (0, 192, [])
  | 37 => (0, 8, [])
  | 38 => (0, 8, [])
  | 39 => (0, 7, [])
  | 40 => (0, 24, [])
  | 41 => (0, 24, [])
  | 42 => (0, 24, [])
  | 43 => (2, 3, [none, none, some 44, some 45, some 46, some 47, some 48, none, some 49, some 50, some 51, some 52, none, some 53, some 54, some 55, some 56, some 57, some 58, some 59, none, none, none, some 60, some 61, some 62, some 63, some 64, some 65, none])
  | 44 => (0, 10, [])
  | 45 => (0, 256, [])
  | 46 => (0, 256, [])
  | 47 => (0, 256, [])
  | 48 => (0, 256, [])
  | 49 => (0, 8, [])
  | 50 => (0, 8, [])
  | 51 => (0, 8, [])
  | 52 => (0, 64, [])
  | 53 => (0, 40, [])
  | 54 => (0, 256, [])
  | 55 => (0, 64, [])
  | 56 => (0, 8, [])
  | 57 => (0, 8, [])
  | 58 => (0, 8, [])
  | 59 => (0, 256, [])
  | 60 => (0, 8, [])
  | 61 => (1, 4, [])
  | 62 => (0, 4, [])
  | 63 => (0, 4, [])
  | 64 => (0, 240, [])
  | 65 => (0, 60, [])
  | _ => (3, 0, [])
def lenOf (k : Nat) : Nat := (shp k).2.1
def rd (σ : Mem) (k : Nat) (i : Int32) : Option Int32 := if i < 0 ∨ lenOf k ≤ i.toNatClampNeg then none else some (σ k i.toNatClampNeg)
def wr (σ : Mem) (k : Nat) (i v : Int32) : Option Mem := if i < 0 ∨ lenOf k ≤ i.toNatClampNeg then none else some (mput σ k i.toNatClampNeg v)
def stA : Nat → List Int32
  | 0 => [1, 1, 2, 6, 24, 120, 720, 5040, 40320]
  | 1 => [0, 1, 2, 5, 100]
  | _ => [3, 6, 12, 5, 7, 14]
def stNm : Nat → String
  | 0 => "FACTORIALS"
  | 1 => "DIGEST_ROWS"
  | _ => "DIGEST_SETS"
def rds (k : Nat) (i : Int32) : Option Int32 := if i < 0 ∨ (stA k).length ≤ i.toNatClampNeg then none else some ((stA k).getD i.toNatClampNeg 0)
def dv (x y : Int32) : Option Int32 := if y = 0 then none else some (x / y)
def rm (x y : Int32) : Option Int32 := if y = 0 then none else some (x - x / y * y)
def lt {α β : Type} (a : α) (f : α → β) : β := f a
def lp {S R : Type} (f : S → Option (S ⊕ R)) : Nat → S → Option R
  | 0, _ => none
  | n + 1, s => (f s).bind (fun y => Sum.elim (fun s2 => lp f n s2) (fun r => some r) y)
noncomputable def fuel : Nat := Classical.choose (⟨1000000, Nat.le_refl 1000000⟩ : ∃ n : Nat, 1000000 ≤ n)
theorem fuel_ge : 1000000 ≤ fuel := Classical.choose_spec (⟨1000000, Nat.le_refl 1000000⟩ : ∃ n : Nat, 1000000 ≤ n)
theorem obind {α β : Type} {x : Option α} {f : α → Option β} {o : β} (h : x.bind f = some o) : ∃ a, x = some a ∧ f a = some o := Option.bind_eq_some_iff.mp h
abbrev Wx : Type := va_G × ClassId × ClassId × (Nat → Nat) × (Nat → Nat)
abbrev classes : List vw_C := [(R_S, F_S, 3), (R_T, F_T, 15), (R_O, F_O, 15), (R_M, F_M, 30)]
def tysY (Y : Wx) : List (ClassId × FieldType) := [(Y.2.1, .int), (Y.2.2.1, .boolean)]
def adr (Y : Wx) (k : Nat) : Nat := Y.2.2.2.1 k
def sad (Y : Wx) (k : Nat) : Nat := Y.2.2.2.2 k
def fldV (Y : Wx) (f : Nat → Int32) (i : Nat) (o : Option Nat) : Value := match o with
  | none => .int (f i)
  | some j => .ref (adr Y j)
def cellE (Y : Wx) (σ : Mem) (k : Nat) : va_E := match shp k with
  | (0, L, _) => .inl (Y.2.1, L, .inl (σ k))
  | (1, L, _) => .inl (Y.2.2.1, L, .inl (σ k))
  | (_, ci, fs) => .inr (ci, fs.mapIdx (fldV Y (σ k)))
def wlo (w : Nat) : Nat := if w = 0 then 0 else 43
def wn (w : Nat) : Nat := if w = 0 then 43 else 23
def inW (w k : Nat) : Prop := wlo w ≤ k ∧ k < wlo w + wn w
def wd (Y : Wx) (w : Nat) (σ : Mem) : va_W := (List.range (wn w)).map (fun i => (adr Y (wlo w + i), cellE Y σ (wlo w + i)))
def Aw (Y : Wx) (w : Nat) : Nat → Prop := fun q => ∃ k, inW w k ∧ q = adr Y k
def Inj (Y : Wx) (w : Nat) : Prop := ∀ i j, inW w i → inW w j → adr Y i = adr Y j → i = j
def Sts (Y : Wx) (A : Nat → Prop) (U : State) (H : Heap) : Prop := ∀ k, k < 3 → va_Z "OrderTrees" (stNm k) "[I" (.ref (sad Y k)) A U H ∧ va_T .int (sad Y k) (stA k).length (fun j => .int ((stA k).getD j 0)) A U H
def Nwf (U : State) : Prop := va_Nw (.methodLinkNest R_T 158 y_O_factorial R_O) U
def Iv (Y : Wx) (w : Nat) (σ : Mem) (U : State) : Prop := va_P Y.1 classes (wd Y w σ) U.heap ∧ va_K Y.1 classes (tysY Y) U ∧ Inj Y w ∧ Sts Y (Aw Y w) U U.heap ∧ Nwf U
def rmL (n : Nat) : Room := { frames := n, cells := 0, slots := 0, locals := 40 * n }
def okR (ret : Option FieldType) (r : Option Value) : Prop := match ret, r with
  | some .boolean, some (.int v) => narrow .boolean (.int v) = .int v
  | _, _ => True
def Qo (Y : Wx) (w : Nat) (ret : Option FieldType) (r : Option Value) (σ : Mem) : Array Value → State → Outcome → State → Prop := fun _ st oc t => oc = .returned r ∧ okR ret r ∧ va_P Y.1 classes (wd Y w σ) t.heap ∧ va_F (Aw Y w) st t
def Ct (l : Launch) (Y : Wx) (w : Nat) (y : MethodName) (b : ByteArray) (nL : Nat) (ret : Option FieldType) (lvl : Nat) (as : List Value) (σ : Mem) (r : Option Value) (σ2 : Mem) : Prop :=
  Met l y (.code y b nL ret :: Tg) (rmL lvl) (va_Pc as (Iv Y w σ)) (Qo Y w ret r σ2) 0 0 (Aw Y w)
abbrev Cx : Type := Program × Launch × Env × Room × State × MethodId × Array Value × List Frame × Method × Code × (State → Prop)
def Gd (X : Cx) (Y : Wx) (w : Nat) (σ : Mem) (lv : List (Nat × Value)) (pc : Nat) (st : List Value) : Prop := match X with
  | (p, l, e, R, s, m, args, below, meth, c, Q) => ∀ (H : Heap) (locs : List Loc) (ls : Array Slot), va_P Y.1 classes (wd Y w σ) H → va_S (Aw Y w) s.heap H locs → lv_has ls c.maxLocals lv → W p l e R s m args below meth c H locs 0 0 Q (F0 m pc ls st)
def Fx (X : Cx) (Y : Wx) (w : Nat) (cc : ByteArray) (nL : Nat) (own : String) (lvl : Nat) : Prop := match X with
  | (p, l, e, R, s, m, args, below, meth, c, Q) => p.tables.exec = Jvm.exec ∧ c.code = cc ∧ c.maxLocals = nL ∧ s.vm.findClass own = some m.cls ∧ (∀ z ∈ Tg, z.before args s = true) ∧ va_K Y.1 classes (tysY Y) s ∧ Inj Y w ∧ Sts Y (Aw Y w) s s.heap ∧ R = rmL lvl ∧ Nwf s
def Rt (X : Cx) (Y : Wx) (w : Nat) (ret : Option FieldType) (r : Option Value) (σ : Mem) : Prop := match X with
  | (p, l, e, R, s, m, args, below, meth, c, Q) => meth.sig.returnType = ret ∧ meth.locks = false ∧ Q = MQ below (Qo Y w ret r σ) args s 0 0 (Aw Y w)
-- ===== the worlds' own laws =====
theorem cellE_congr {Y : Wx} {σ σ2 : Mem} {k : Nat} (h : σ2 k = σ k) : cellE Y σ2 k = cellE Y σ k := by
  unfold cellE; rw [h]
theorem wd_get {Y : Wx} {w k : Nat} {σ : Mem} (hk : inW w k) : (wd Y w σ)[k - wlo w]? = some (adr Y k, cellE Y σ k) := by
  have h1 : k - wlo w < wn w := by unfold inW at hk; omega
  have h2 : wlo w + (k - wlo w) = k := by unfold inW at hk; omega
  unfold wd
  rw [List.getElem?_map, List.getElem?_range h1]
  simp [h2]
theorem wd_at {Y : Wx} {w n : Nat} {σ : Mem} {q : Nat × va_E} (h : (wd Y w σ)[n]? = some q) : inW w (wlo w + n) ∧ q = (adr Y (wlo w + n), cellE Y σ (wlo w + n)) := by
  unfold wd at h
  rw [List.getElem?_map] at h
  obtain ⟨a, ha, hq⟩ := Option.map_eq_some_iff.mp h
  obtain ⟨hn, e⟩ := List.getElem?_eq_some_iff.mp ha
  simp at hn e
  subst e
  exact ⟨⟨Nat.le_add_right _ _, by omega⟩, hq.symm⟩
theorem wd_D {Y : Wx} {w : Nat} (h : Inj Y w) (σ : Mem) : va_D (Aw Y w) (wd Y w σ) := by
  refine ⟨fun i j p q hi hj e => ?_, fun k q hk => ?_⟩
  · obtain ⟨a1, rfl⟩ := wd_at hi
    obtain ⟨b1, rfl⟩ := wd_at hj
    have := h _ _ a1 b1 e
    omega
  · obtain ⟨a1, rfl⟩ := wd_at hk
    exact ⟨_, a1, rfl⟩
theorem wd_set {Y : Wx} {w k : Nat} {σ σ2 : Mem} (hk : inW w k) (hσ : ∀ j, j ≠ k → σ2 j = σ j) {e : va_E} (he : e = cellE Y σ2 k) : (wd Y w σ).set (k - wlo w) (adr Y k, e) = wd Y w σ2 := by
  subst he
  apply List.ext_getElem?
  intro n
  have h1 : k - wlo w < wn w := by unfold inW at hk; omega
  have h2 : wlo w + (k - wlo w) = k := by unfold inW at hk; omega
  have hl : (wd Y w σ).length = wn w := by simp [wd]
  have hl2 : (wd Y w σ2).length = wn w := by simp [wd]
  rw [List.getElem?_set]
  by_cases hn : k - wlo w = n
  · subst hn
    rw [if_pos rfl, if_pos (by rw [hl]; exact h1), wd_get hk]
  · rw [if_neg hn]
    by_cases hn2 : n < wn w
    · unfold wd
      rw [List.getElem?_map, List.getElem?_map, List.getElem?_range hn2]
      simp only [Option.map_some]
      rw [cellE_congr (hσ (wlo w + n) (fun h => hn (by omega)))]
    · rw [List.getElem?_eq_none (by omega), List.getElem?_eq_none (by omega)]
theorem mput_ne {σ : Mem} {k i : Nat} {v : Int32} : ∀ j, j ≠ k → mput σ k i v j = σ j := fun j h => by simp [mput, mset, h]
theorem mput_eq {σ : Mem} {k i : Nat} {v : Int32} : mput σ k i v k = upd (σ k) i v := by simp [mput, mset]
theorem cellE_arr {Y : Wx} {σ : Mem} {k L : Nat} {l : List (Option Nat)} (hs : shp k = (0, L, l)) : cellE Y σ k = .inl (Y.2.1, L, .inl (σ k)) := by unfold cellE; rw [hs]; rfl
theorem cellE_arrZ {Y : Wx} {σ : Mem} {k L : Nat} {l : List (Option Nat)} (hs : shp k = (1, L, l)) : cellE Y σ k = .inl (Y.2.2.1, L, .inl (σ k)) := by unfold cellE; rw [hs]; rfl
theorem cellE_obj {Y : Wx} {σ : Mem} {k ci : Nat} {fs : List (Option Nat)} (hs : shp k = (2, ci, fs)) : cellE Y σ k = .inr (ci, fs.mapIdx (fldV Y (σ k))) := by unfold cellE; rw [hs]; rfl
theorem fld_put {Y : Wx} {f : Nat → Int32} {fs : List (Option Nat)} {i : Nat} {v : Int32} (hi : fs[i]? = some none) : (fs.mapIdx (fldV Y f)).set i (.int v) = fs.mapIdx (fldV Y (upd f i v)) := by
  apply List.ext_getElem?
  intro n
  have hl := (List.getElem?_eq_some_iff.mp hi).1
  rw [List.getElem?_set, List.getElem?_mapIdx, List.getElem?_mapIdx]
  by_cases hn : i = n
  · subst hn
    rw [if_pos rfl, if_pos (by simpa using hl), hi]
    simp [fldV, upd]
  · rw [if_neg hn]
    congr 1
    funext o
    cases o with
    | none => simp only [fldV, upd]; rw [if_neg (fun h => hn h.symm)]
    | some j => rfl
-- ===== links =====
def FLok (own : String) (idx ci i : Nat) : Prop := ∃ (C : String) (T : u_T) (N : Nat) (ty0 : Nat → FieldType), classes[ci]? = some (C, T, N) ∧ i < N ∧ (∀ z ∈ u_ws C T N, z ∈ Tg) ∧ Cond.fieldLink own idx (T i).1 (T i).2.1 (T i).2.2.1 ∈ Tg ∧ (∀ k, k < N → parseFieldDescriptor (T k).2.2.1 = some (ty0 k)) ∧ (∀ a, a < N → ∀ b, b < N → a ≠ b → (T a).2.1 ≠ (T b).2.1)
def FIok (own : String) (idx ci i : Nat) : Prop := ∃ (C : String) (T : u_T) (N : Nat) (ty0 : Nat → FieldType), classes[ci]? = some (C, T, N) ∧ i < N ∧ (∀ z ∈ u_ws C T N, z ∈ Tg) ∧ Cond.fieldLink own idx (T i).1 (T i).2.1 (T i).2.2.1 ∈ Tg ∧ (∀ k, k < N → parseFieldDescriptor (T k).2.2.1 = some (ty0 k)) ∧ (∀ a, a < N → ∀ b, b < N → a ≠ b → (T a).2.1 ≠ (T b).2.1) ∧ (T i).2.2.1 = "I" ∧ (T i).2.2.2 = false
theorem FIok.f {own : String} {idx ci i : Nat} (h : FIok own idx ci i) : FLok own idx ci i := by
  obtain ⟨C, T, N, ty0, h1, h2, h3, h4, h5, h6, -, -⟩ := h
  exact ⟨C, T, N, ty0, h1, h2, h3, h4, h5, h6⟩
def nMax : Nat := 21
/-- a method's own words in the table: what it is called by, its code, how many arguments -/
def MVok (own : String) (idx : Nat) (C : String) (y : MethodName) (b : ByteArray) (nL : Nat) (ret : Option FieldType) (n : Nat) : Prop :=
  Cond.methodLink own idx y ∈ Tg ∧ Cond.instanceMethod y ∈ Tg ∧ Cond.selects C y y ∈ Tg ∧ Cond.initialized C ∈ Tg ∧ Cond.code y b nL ret ∈ Tg ∧ (y.cls = C ∧ y.cls ≠ "java/lang/invoke/MethodHandle" ∧ y.cls ≠ "java/lang/invoke/VarHandle" ∧ (parseMethodDescriptor y.desc).map (fun d => d.parameters.length) = some n) ∧ nL ≤ nMax
def MSok (own : String) (idx : Nat) (y : MethodName) (b : ByteArray) (nL : Nat) (ret : Option FieldType) (n : Nat) : Prop :=
  Cond.methodLink own idx y ∈ Tg ∧ Cond.static y ∈ Tg ∧ Cond.initialized y.cls ∈ Tg ∧ Cond.code y b nL ret ∈ Tg ∧ (y.cls ≠ "java/lang/invoke/MethodHandle" ∧ y.cls ≠ "java/lang/invoke/VarHandle" ∧ (parseMethodDescriptor y.desc).map (fun d => d.parameters.length) = some n) ∧ nL ≤ nMax
theorem tg_good {z : Cond} (h : z ∈ Tg) : goodWord z = true := (List.mem_filter.mp h).2
theorem tg_in {big ws : List Cond} (hb : ∀ z ∈ Tg, z ∈ big) (h : ∀ z ∈ ws, z ∈ Tg) : GoodIn big ws := fun z hz => ⟨hb z (h z hz), good_of_word (tg_good (h z hz))⟩
-- ===== the rows =====
section GR
variable {X : Cx} {Y : Wx} {w : Nat} {cc : ByteArray} {nL : Nat} {own : String} {lvl : Nat} {σ : Mem} {lv : List (Nat × Value)} {pc : Nat} {st : List Value}
theorem g_iconst (hX : Fx X Y w cc nL own lvl) {n : Int} (v : Int32) (hd : decode cc pc = .ok (.iconst n, 1)) (hv : Int32.ofInt n = v) (k : Gd X Y w σ lv (pc + 1) (.int v :: st)) : Gd X Y w σ lv pc st := by
  obtain ⟨p, l, e, R, s, m, args, below, meth, c, Q⟩ := X
  intro H locs ls hP hS hl
  exact lv_iconst hX.1 hX.2.1 hd hv (k H locs ls hP hS hl)
theorem g_bipush (hX : Fx X Y w cc nL own lvl) {n : Int} (v : Int32) (hd : decode cc pc = .ok (.bipush n, 2)) (hv : (Int8.ofInt n).toInt32 = v) (k : Gd X Y w σ lv (pc + 2) (.int v :: st)) : Gd X Y w σ lv pc st := by
  obtain ⟨p, l, e, R, s, m, args, below, meth, c, Q⟩ := X
  intro H locs ls hP hS hl
  exact lv_bipush hX.1 hX.2.1 hd hv (k H locs ls hP hS hl)
theorem g_sipush (hX : Fx X Y w cc nL own lvl) {n : Int} (v : Int32) (hd : decode cc pc = .ok (.sipush n, 3)) (hv : (Int16.ofInt n).toInt32 = v) (k : Gd X Y w σ lv (pc + 3) (.int v :: st)) : Gd X Y w σ lv pc st := by
  obtain ⟨p, l, e, R, s, m, args, below, meth, c, Q⟩ := X
  intro H locs ls hP hS hl
  exact lv_sipush hX.1 hX.2.1 hd hv (k H locs ls hP hS hl)
theorem g_lconst (hX : Fx X Y w cc nL own lvl) {n : Fin 2} (v : Int64) (hd : decode cc pc = .ok (.lconst n, 1)) (hv : Int64.ofNat (n : Nat) = v) (k : Gd X Y w σ lv (pc + 1) (.long v :: st)) : Gd X Y w σ lv pc st := by
  obtain ⟨p, l, e, R, s, m, args, below, meth, c, Q⟩ := X
  intro H locs ls hP hS hl
  exact lv_lconst hX.1 hX.2.1 hd hv (k H locs ls hP hS hl)
theorem g_ldc (hX : Fx X Y w cc nL own lvl) {idx : Nat} {v : Int32} (hd : decode cc pc = .ok (.ldc idx, 2)) (hv : Cond.constant own idx v ∈ Tg) (k : Gd X Y w σ lv (pc + 2) (.int v :: st)) : Gd X Y w σ lv pc st := by
  obtain ⟨p, l, e, R, s, m, args, below, meth, c, Q⟩ := X
  obtain ⟨hx, hb, hml, ho, hts, hK, hI, hZ, hR, hN⟩ := hX
  intro H locs ls hP hS hl
  exact lv_ldc hx hb ho (hts _ hv) hd (k H locs ls hP hS hl)
theorem g_ldcw (hX : Fx X Y w cc nL own lvl) {idx : Nat} {v : Int32} (hd : decode cc pc = .ok (.ldc_w idx, 3)) (hv : Cond.constant own idx v ∈ Tg) (k : Gd X Y w σ lv (pc + 3) (.int v :: st)) : Gd X Y w σ lv pc st := by
  obtain ⟨p, l, e, R, s, m, args, below, meth, c, Q⟩ := X
  obtain ⟨hx, hb, hml, ho, hts, hK, hI, hZ, hR, hN⟩ := hX
  intro H locs ls hP hS hl
  exact lv_ldcw hx hb ho (hts _ hv) hd (k H locs ls hP hS hl)
theorem g_ldc2 (hX : Fx X Y w cc nL own lvl) {idx : Nat} {v : Int64} (hd : decode cc pc = .ok (.ldc2_w idx, 3)) (hv : Cond.constantLong own idx v ∈ Tg) (k : Gd X Y w σ lv (pc + 3) (.long v :: st)) : Gd X Y w σ lv pc st := by
  obtain ⟨p, l, e, R, s, m, args, below, meth, c, Q⟩ := X
  obtain ⟨hx, hb, hml, ho, hts, hK, hI, hZ, hR, hN⟩ := hX
  intro H locs ls hP hS hl
  exact lv_ldc2 hx hb ho (hts _ hv) hd (k H locs ls hP hS hl)
theorem g_iload_n (hX : Fx X Y w cc nL own lvl) {j : Fin 4} {x : Int32} (hd : decode cc pc = .ok (.iload_n j, 1)) (q : Nat) (hq : lv[q]? = some (j.val, .int x)) (k : Gd X Y w σ lv (pc + 1) (.int x :: st)) : Gd X Y w σ lv pc st := by
  obtain ⟨p, l, e, R, s, m, args, below, meth, c, Q⟩ := X
  intro H locs ls hP hS hl
  exact lv_iload_n hX.1 hX.2.1 hd rfl (lv_at hl q hq) (k H locs ls hP hS hl)
theorem g_iload (hX : Fx X Y w cc nL own lvl) {j : Nat} {x : Int32} (hd : decode cc pc = .ok (.iload j, 2)) (q : Nat) (hq : lv[q]? = some (j, .int x)) (k : Gd X Y w σ lv (pc + 2) (.int x :: st)) : Gd X Y w σ lv pc st := by
  obtain ⟨p, l, e, R, s, m, args, below, meth, c, Q⟩ := X
  intro H locs ls hP hS hl
  exact lv_iload hX.1 hX.2.1 hd (lv_at hl q hq) (k H locs ls hP hS hl)
theorem g_lload_n (hX : Fx X Y w cc nL own lvl) {j : Fin 4} {x : Int64} (hd : decode cc pc = .ok (.lload_n j, 1)) (q : Nat) (hq : lv[q]? = some (j.val, .long x)) (k : Gd X Y w σ lv (pc + 1) (.long x :: st)) : Gd X Y w σ lv pc st := by
  obtain ⟨p, l, e, R, s, m, args, below, meth, c, Q⟩ := X
  intro H locs ls hP hS hl
  exact lv_lload_n hX.1 hX.2.1 hd rfl (lv_at hl q hq) (k H locs ls hP hS hl)
theorem g_lload (hX : Fx X Y w cc nL own lvl) {j : Nat} {x : Int64} (hd : decode cc pc = .ok (.lload j, 2)) (q : Nat) (hq : lv[q]? = some (j, .long x)) (k : Gd X Y w σ lv (pc + 2) (.long x :: st)) : Gd X Y w σ lv pc st := by
  obtain ⟨p, l, e, R, s, m, args, below, meth, c, Q⟩ := X
  intro H locs ls hP hS hl
  exact lv_lload hX.1 hX.2.1 hd (lv_at hl q hq) (k H locs ls hP hS hl)
theorem g_aload_n (hX : Fx X Y w cc nL own lvl) {j : Fin 4} {x : Nat} (hd : decode cc pc = .ok (.aload_n j, 1)) (q : Nat) (hq : lv[q]? = some (j.val, .ref x)) (k : Gd X Y w σ lv (pc + 1) (.ref x :: st)) : Gd X Y w σ lv pc st := by
  obtain ⟨p, l, e, R, s, m, args, below, meth, c, Q⟩ := X
  intro H locs ls hP hS hl
  exact lv_aload_n hX.1 hX.2.1 hd rfl (lv_at hl q hq) (k H locs ls hP hS hl)
theorem g_istore_n (hX : Fx X Y w cc nL own lvl) {j : Fin 4} {x : Int32} {β : Type} {z : β} {f : Int32 → β} (lf : Int32 → List (Nat × Value)) (hd : decode cc pc = .ok (.istore_n j, 1)) (hn : j.val < nL) (hl2 : ∀ x : Int32, (j.val, Value.int x) :: lv.filter (fun q => !(q.1 == j.val) && !(q.1 + 1 == j.val && q.2.category == 2)) = lf x) (hf : lt x f = z) (k : ∀ y : Int32, f y = z → Gd X Y w σ (lf y) (pc + 1) st) : Gd X Y w σ lv pc (.int x :: st) := by
  obtain ⟨p, l, e, R, s, m, args, below, meth, c, Q⟩ := X
  obtain ⟨hx, hb, hml, ho, hts, hK, hI, hZ, hR, hN⟩ := hX
  intro H locs ls hP hS hl
  rw [hml] at hl
  exact lv_istore_n hx hb hd rfl hl hn (hl2 x) (fun ls2 hl3 => k x hf H locs ls2 hP hS (by rw [hml]; exact hl3))
theorem g_istore (hX : Fx X Y w cc nL own lvl) {j : Nat} {x : Int32} {β : Type} {z : β} {f : Int32 → β} (lf : Int32 → List (Nat × Value)) (hd : decode cc pc = .ok (.istore j, 2)) (hn : j < nL) (hl2 : ∀ x : Int32, (j, Value.int x) :: lv.filter (fun q => !(q.1 == j) && !(q.1 + 1 == j && q.2.category == 2)) = lf x) (hf : lt x f = z) (k : ∀ y : Int32, f y = z → Gd X Y w σ (lf y) (pc + 2) st) : Gd X Y w σ lv pc (.int x :: st) := by
  obtain ⟨p, l, e, R, s, m, args, below, meth, c, Q⟩ := X
  obtain ⟨hx, hb, hml, ho, hts, hK, hI, hZ, hR, hN⟩ := hX
  intro H locs ls hP hS hl
  rw [hml] at hl
  exact lv_istore hx hb hd hl hn (hl2 x) (fun ls2 hl3 => k x hf H locs ls2 hP hS (by rw [hml]; exact hl3))
theorem g_istore_nV (hX : Fx X Y w cc nL own lvl) {j : Fin 4} {x : Int32} (lf : List (Nat × Value)) (hd : decode cc pc = .ok (.istore_n j, 1)) (hn : j.val < nL) (hl2 : (j.val, Value.int x) :: lv.filter (fun q => !(q.1 == j.val) && !(q.1 + 1 == j.val && q.2.category == 2)) = lf) (k : Gd X Y w σ lf (pc + 1) st) : Gd X Y w σ lv pc (.int x :: st) := by
  obtain ⟨p, l, e, R, s, m, args, below, meth, c, Q⟩ := X
  obtain ⟨hx, hb, hml, ho, hts, hK, hI, hZ, hR, hN⟩ := hX
  intro H locs ls hP hS hl
  rw [hml] at hl
  exact lv_istore_n hx hb hd rfl hl hn hl2 (fun ls2 hl3 => k H locs ls2 hP hS (by rw [hml]; exact hl3))
theorem g_istoreV (hX : Fx X Y w cc nL own lvl) {j : Nat} {x : Int32} (lf : List (Nat × Value)) (hd : decode cc pc = .ok (.istore j, 2)) (hn : j < nL) (hl2 : (j, Value.int x) :: lv.filter (fun q => !(q.1 == j) && !(q.1 + 1 == j && q.2.category == 2)) = lf) (k : Gd X Y w σ lf (pc + 2) st) : Gd X Y w σ lv pc (.int x :: st) := by
  obtain ⟨p, l, e, R, s, m, args, below, meth, c, Q⟩ := X
  obtain ⟨hx, hb, hml, ho, hts, hK, hI, hZ, hR, hN⟩ := hX
  intro H locs ls hP hS hl
  rw [hml] at hl
  exact lv_istore hx hb hd hl hn hl2 (fun ls2 hl3 => k H locs ls2 hP hS (by rw [hml]; exact hl3))
theorem g_lstore_n (hX : Fx X Y w cc nL own lvl) {j : Fin 4} {x : Int64} {β : Type} {z : β} {f : Int64 → β} (lf : Int64 → List (Nat × Value)) (hd : decode cc pc = .ok (.lstore_n j, 1)) (hn : j.val + 1 < nL) (hl2 : ∀ x : Int64, (j.val, Value.long x) :: lv.filter (fun q => !(q.1 == j.val) && (!(q.1 == j.val + 1) && !(q.1 + 1 == j.val && q.2.category == 2))) = lf x) (hf : lt x f = z) (k : ∀ y : Int64, f y = z → Gd X Y w σ (lf y) (pc + 1) st) : Gd X Y w σ lv pc (.long x :: st) := by
  obtain ⟨p, l, e, R, s, m, args, below, meth, c, Q⟩ := X
  obtain ⟨hx, hb, hml, ho, hts, hK, hI, hZ, hR, hN⟩ := hX
  intro H locs ls hP hS hl
  rw [hml] at hl
  exact lv_lstore_n hx hb hd rfl hl hn (hl2 x) (fun ls2 hl3 => k x hf H locs ls2 hP hS (by rw [hml]; exact hl3))
theorem g_lstore (hX : Fx X Y w cc nL own lvl) {j : Nat} {x : Int64} {β : Type} {z : β} {f : Int64 → β} (lf : Int64 → List (Nat × Value)) (hd : decode cc pc = .ok (.lstore j, 2)) (hn : j + 1 < nL) (hl2 : ∀ x : Int64, (j, Value.long x) :: lv.filter (fun q => !(q.1 == j) && (!(q.1 == j + 1) && !(q.1 + 1 == j && q.2.category == 2))) = lf x) (hf : lt x f = z) (k : ∀ y : Int64, f y = z → Gd X Y w σ (lf y) (pc + 2) st) : Gd X Y w σ lv pc (.long x :: st) := by
  obtain ⟨p, l, e, R, s, m, args, below, meth, c, Q⟩ := X
  obtain ⟨hx, hb, hml, ho, hts, hK, hI, hZ, hR, hN⟩ := hX
  intro H locs ls hP hS hl
  rw [hml] at hl
  exact lv_lstore hx hb hd hl hn (hl2 x) (fun ls2 hl3 => k x hf H locs ls2 hP hS (by rw [hml]; exact hl3))
theorem g_astore_n (hX : Fx X Y w cc nL own lvl) {j : Fin 4} {x : Nat} (lf : List (Nat × Value)) (hd : decode cc pc = .ok (.astore_n j, 1)) (hn : j.val < nL) (hl2 : (j.val, Value.ref x) :: lv.filter (fun q => !(q.1 == j.val) && !(q.1 + 1 == j.val && q.2.category == 2)) = lf) (k : Gd X Y w σ lf (pc + 1) st) : Gd X Y w σ lv pc (.ref x :: st) := by
  obtain ⟨p, l, e, R, s, m, args, below, meth, c, Q⟩ := X
  obtain ⟨hx, hb, hml, ho, hts, hK, hI, hZ, hR, hN⟩ := hX
  intro H locs ls hP hS hl
  rw [hml] at hl
  exact lv_astore_n hx hb hd rfl hl hn hl2 (fun ls2 hl3 => k H locs ls2 hP hS (by rw [hml]; exact hl3))
theorem g_iinc (hX : Fx X Y w cc nL own lvl) {j : Nat} {n : Int} {x v : Int32} {β : Type} {z : β} {f : Int32 → β} (lf : Int32 → List (Nat × Value)) (hd : decode cc pc = .ok (.iinc j n, 3)) (q : Nat) (hq : lv[q]? = some (j, .int x)) (hv : x + Int32.ofInt n = v) (hn : j < nL) (hl2 : ∀ x : Int32, (j, Value.int x) :: lv.filter (fun q => !(q.1 == j) && !(q.1 + 1 == j && q.2.category == 2)) = lf x) (hf : lt v f = z) (k : ∀ y : Int32, f y = z → Gd X Y w σ (lf y) (pc + 3) st) : Gd X Y w σ lv pc st := by
  obtain ⟨p, l, e, R, s, m, args, below, meth, c, Q⟩ := X
  obtain ⟨hx, hb, hml, ho, hts, hK, hI, hZ, hR, hN⟩ := hX
  intro H locs ls hP hS hl
  rw [hml] at hl
  exact lv_iinc hx hb hd hl hq hv hn (hl2 v) (fun ls2 hl3 => k v hf H locs ls2 hP hS (by rw [hml]; exact hl3))
theorem g_sub (qs : List Nat) {lv2 : List (Nat × Value)} (h : lv_pick lv qs = lv2) (k : Gd X Y w σ lv2 pc st) : Gd X Y w σ lv pc st := by
  obtain ⟨p, l, e, R, s, m, args, below, meth, c, Q⟩ := X
  intro H locs ls hP hS hl
  exact k H locs ls hP hS (lv_sub hl qs h)
theorem g_iadd (hX : Fx X Y w cc nL own lvl) {x y : Int32} (hd : decode cc pc = .ok (.iadd, 1)) (k : Gd X Y w σ lv (pc + 1) (.int (x + y) :: st)) : Gd X Y w σ lv pc (.int y :: .int x :: st) := by
  obtain ⟨p, l, e, R, s, m, args, below, meth, c, Q⟩ := X
  intro H locs ls hP hS hl
  exact lv_iadd hX.1 hX.2.1 hd (k H locs ls hP hS hl)
theorem g_isub (hX : Fx X Y w cc nL own lvl) {x y : Int32} (hd : decode cc pc = .ok (.isub, 1)) (k : Gd X Y w σ lv (pc + 1) (.int (x - y) :: st)) : Gd X Y w σ lv pc (.int y :: .int x :: st) := by
  obtain ⟨p, l, e, R, s, m, args, below, meth, c, Q⟩ := X
  intro H locs ls hP hS hl
  exact lv_isub hX.1 hX.2.1 hd (k H locs ls hP hS hl)
theorem g_imul (hX : Fx X Y w cc nL own lvl) {x y : Int32} (hd : decode cc pc = .ok (.imul, 1)) (k : Gd X Y w σ lv (pc + 1) (.int (x * y) :: st)) : Gd X Y w σ lv pc (.int y :: .int x :: st) := by
  obtain ⟨p, l, e, R, s, m, args, below, meth, c, Q⟩ := X
  intro H locs ls hP hS hl
  exact lv_imul hX.1 hX.2.1 hd (k H locs ls hP hS hl)
theorem g_iand (hX : Fx X Y w cc nL own lvl) {x y : Int32} (hd : decode cc pc = .ok (.iand, 1)) (k : Gd X Y w σ lv (pc + 1) (.int (x &&& y) :: st)) : Gd X Y w σ lv pc (.int y :: .int x :: st) := by
  obtain ⟨p, l, e, R, s, m, args, below, meth, c, Q⟩ := X
  intro H locs ls hP hS hl
  exact lv_iand hX.1 hX.2.1 hd (k H locs ls hP hS hl)
theorem g_ior (hX : Fx X Y w cc nL own lvl) {x y : Int32} (hd : decode cc pc = .ok (.ior, 1)) (k : Gd X Y w σ lv (pc + 1) (.int (x ||| y) :: st)) : Gd X Y w σ lv pc (.int y :: .int x :: st) := by
  obtain ⟨p, l, e, R, s, m, args, below, meth, c, Q⟩ := X
  intro H locs ls hP hS hl
  exact lv_ior hX.1 hX.2.1 hd (k H locs ls hP hS hl)
theorem g_ixor (hX : Fx X Y w cc nL own lvl) {x y : Int32} (hd : decode cc pc = .ok (.ixor, 1)) (k : Gd X Y w σ lv (pc + 1) (.int (x ^^^ y) :: st)) : Gd X Y w σ lv pc (.int y :: .int x :: st) := by
  obtain ⟨p, l, e, R, s, m, args, below, meth, c, Q⟩ := X
  intro H locs ls hP hS hl
  exact lv_ixor hX.1 hX.2.1 hd (k H locs ls hP hS hl)
theorem g_ishl (hX : Fx X Y w cc nL own lvl) {x y : Int32} (hd : decode cc pc = .ok (.ishl, 1)) (k : Gd X Y w σ lv (pc + 1) (.int (x <<< (y &&& 31)) :: st)) : Gd X Y w σ lv pc (.int y :: .int x :: st) := by
  obtain ⟨p, l, e, R, s, m, args, below, meth, c, Q⟩ := X
  intro H locs ls hP hS hl
  exact lv_ishl hX.1 hX.2.1 hd (k H locs ls hP hS hl)
theorem g_ishr (hX : Fx X Y w cc nL own lvl) {x y : Int32} (hd : decode cc pc = .ok (.ishr, 1)) (k : Gd X Y w σ lv (pc + 1) (.int (x >>> (y &&& 31)) :: st)) : Gd X Y w σ lv pc (.int y :: .int x :: st) := by
  obtain ⟨p, l, e, R, s, m, args, below, meth, c, Q⟩ := X
  intro H locs ls hP hS hl
  exact lv_ishr hX.1 hX.2.1 hd (k H locs ls hP hS hl)
theorem g_ladd (hX : Fx X Y w cc nL own lvl) {x y : Int64} (hd : decode cc pc = .ok (.ladd, 1)) (k : Gd X Y w σ lv (pc + 1) (.long (x + y) :: st)) : Gd X Y w σ lv pc (.long y :: .long x :: st) := by
  obtain ⟨p, l, e, R, s, m, args, below, meth, c, Q⟩ := X
  intro H locs ls hP hS hl
  exact lv_ladd hX.1 hX.2.1 hd (k H locs ls hP hS hl)
theorem g_lmul (hX : Fx X Y w cc nL own lvl) {x y : Int64} (hd : decode cc pc = .ok (.lmul, 1)) (k : Gd X Y w σ lv (pc + 1) (.long (x * y) :: st)) : Gd X Y w σ lv pc (.long y :: .long x :: st) := by
  obtain ⟨p, l, e, R, s, m, args, below, meth, c, Q⟩ := X
  intro H locs ls hP hS hl
  exact lv_lmul hX.1 hX.2.1 hd (k H locs ls hP hS hl)
theorem g_lcmp (hX : Fx X Y w cc nL own lvl) {x y : Int64} (hd : decode cc pc = .ok (.lcmp, 1)) (k : Gd X Y w σ lv (pc + 1) (.int (lg_cmp x y) :: st)) : Gd X Y w σ lv pc (.long y :: .long x :: st) := by
  obtain ⟨p, l, e, R, s, m, args, below, meth, c, Q⟩ := X
  intro H locs ls hP hS hl
  exact W.lcmp hX.1 hX.2.1 hd (k H locs ls hP hS hl)
theorem g_ineg (hX : Fx X Y w cc nL own lvl) {x : Int32} (hd : decode cc pc = .ok (.ineg, 1)) (k : Gd X Y w σ lv (pc + 1) (.int (-x) :: st)) : Gd X Y w σ lv pc (.int x :: st) := by
  obtain ⟨p, l, e, R, s, m, args, below, meth, c, Q⟩ := X
  intro H locs ls hP hS hl
  exact lv_ineg hX.1 hX.2.1 hd (k H locs ls hP hS hl)
theorem g_i2l (hX : Fx X Y w cc nL own lvl) {x : Int32} (hd : decode cc pc = .ok (.i2l, 1)) (k : Gd X Y w σ lv (pc + 1) (.long (x.toInt64) :: st)) : Gd X Y w σ lv pc (.int x :: st) := by
  obtain ⟨p, l, e, R, s, m, args, below, meth, c, Q⟩ := X
  intro H locs ls hP hS hl
  exact lv_i2l hX.1 hX.2.1 hd rfl (k H locs ls hP hS hl)
theorem g_l2i (hX : Fx X Y w cc nL own lvl) {x : Int64} (hd : decode cc pc = .ok (.l2i, 1)) (k : Gd X Y w σ lv (pc + 1) (.int (x.toInt32) :: st)) : Gd X Y w σ lv pc (.long x :: st) := by
  obtain ⟨p, l, e, R, s, m, args, below, meth, c, Q⟩ := X
  intro H locs ls hP hS hl
  exact lv_l2i hX.1 hX.2.1 hd rfl (k H locs ls hP hS hl)
theorem g_i2b (hX : Fx X Y w cc nL own lvl) {x : Int32} (hd : decode cc pc = .ok (.i2b, 1)) (k : Gd X Y w σ lv (pc + 1) (.int (x.toInt8.toInt32) :: st)) : Gd X Y w σ lv pc (.int x :: st) := by
  obtain ⟨p, l, e, R, s, m, args, below, meth, c, Q⟩ := X
  intro H locs ls hP hS hl
  exact lv_i2b hX.1 hX.2.1 hd rfl (k H locs ls hP hS hl)
theorem g_i2s (hX : Fx X Y w cc nL own lvl) {x : Int32} (hd : decode cc pc = .ok (.i2s, 1)) (k : Gd X Y w σ lv (pc + 1) (.int (x.toInt16.toInt32) :: st)) : Gd X Y w σ lv pc (.int x :: st) := by
  obtain ⟨p, l, e, R, s, m, args, below, meth, c, Q⟩ := X
  intro H locs ls hP hS hl
  exact lv_i2s hX.1 hX.2.1 hd rfl (k H locs ls hP hS hl)
theorem g_idiv (hX : Fx X Y w cc nL own lvl) {x y : Int32} {β : Type} {o : β} {f : Int32 → Option β} (hd : decode cc pc = .ok (.idiv, 1)) (hf : (dv x y).bind f = some o) (k : ∀ v : Int32, f v = some o → Gd X Y w σ lv (pc + 1) (.int v :: st)) : Gd X Y w σ lv pc (.int y :: .int x :: st) := by
  obtain ⟨a, h1, h2⟩ := obind hf
  unfold dv at h1
  by_cases hy : y = 0
  · rw [if_pos hy] at h1; cases h1
  · rw [if_neg hy] at h1
    cases h1
    obtain ⟨p, l, e, R, s, m, args, below, meth, c, Q⟩ := X
    intro H locs ls hP hS hl
    exact lv_idiv hX.1 hX.2.1 hd hy (k _ h2 H locs ls hP hS hl)
theorem g_irem (hX : Fx X Y w cc nL own lvl) {x y : Int32} {β : Type} {o : β} {f : Int32 → Option β} (hd : decode cc pc = .ok (.irem, 1)) (hf : (rm x y).bind f = some o) (k : ∀ v : Int32, f v = some o → Gd X Y w σ lv (pc + 1) (.int v :: st)) : Gd X Y w σ lv pc (.int y :: .int x :: st) := by
  obtain ⟨a, h1, h2⟩ := obind hf
  unfold rm at h1
  by_cases hy : y = 0
  · rw [if_pos hy] at h1; cases h1
  · rw [if_neg hy] at h1
    cases h1
    obtain ⟨p, l, e, R, s, m, args, below, meth, c, Q⟩ := X
    intro H locs ls hP hS hl
    exact lv_irem hX.1 hX.2.1 hd hy (k _ h2 H locs ls hP hS hl)
theorem g_dup (hX : Fx X Y w cc nL own lvl) {v : Value} (hd : decode cc pc = .ok (.dup, 1)) (hc : v.category = 1) (k : Gd X Y w σ lv (pc + 1) (v :: v :: st)) : Gd X Y w σ lv pc (v :: st) := by
  obtain ⟨p, l, e, R, s, m, args, below, meth, c, Q⟩ := X
  intro H locs ls hP hS hl
  exact lv_dup hX.1 hX.2.1 hd hc (k H locs ls hP hS hl)
theorem g_dup2 (hX : Fx X Y w cc nL own lvl) {u v : Value} (hd : decode cc pc = .ok (.dup2, 1)) (hu : u.category = 1) (hv : v.category = 1) (k : Gd X Y w σ lv (pc + 1) (u :: v :: u :: v :: st)) : Gd X Y w σ lv pc (u :: v :: st) := by
  obtain ⟨p, l, e, R, s, m, args, below, meth, c, Q⟩ := X
  intro H locs ls hP hS hl
  exact lv_dup2_11 hX.1 hX.2.1 hd hu hv (k H locs ls hP hS hl)
theorem g_pop (hX : Fx X Y w cc nL own lvl) {v : Value} (hd : decode cc pc = .ok (.pop, 1)) (hc : v.category = 1) (k : Gd X Y w σ lv (pc + 1) st) : Gd X Y w σ lv pc (v :: st) := by
  obtain ⟨p, l, e, R, s, m, args, below, meth, c, Q⟩ := X
  intro H locs ls hP hS hl
  exact lv_pop hX.1 hX.2.1 hd hc (k H locs ls hP hS hl)
theorem g_goto (hX : Fx X Y w cc nL own lvl) {off : Int} (tgt : Nat) (hd : decode cc pc = .ok (.goto off, 3)) (ht : (pc : Int) + off = (tgt : Int)) (k : Gd X Y w σ lv tgt st) : Gd X Y w σ lv pc st := by
  obtain ⟨p, l, e, R, s, m, args, below, meth, c, Q⟩ := X
  intro H locs ls hP hS hl
  exact lv_goto hX.1 hX.2.1 hd ht (k H locs ls hP hS hl)
theorem g_if_eq (hX : Fx X Y w cc nL own lvl) {x : Int32} {off : Int} (tgt : Nat) {β : Type} {z a b : β} {i0 : Decidable (x = 0)} (hd : decode cc pc = .ok (.ifCond .eq off, 3)) (ht : (pc : Int) + off = (tgt : Int)) (hf : (if x = 0 then a else b) = z) (kt : a = z → Gd X Y w σ lv tgt st) (kf : b = z → Gd X Y w σ lv (pc + 3) st) : Gd X Y w σ lv pc (.int x :: st) := by
  obtain ⟨p, l, e, R, s, m, args, below, meth, c, Q⟩ := X
  intro H locs ls hP hS hl
  exact lv_if_eq hX.1 hX.2.1 hd ht (fun h => kt (by rw [if_pos h] at hf; exact hf) H locs ls hP hS hl) (fun h => kf (by rw [if_neg h] at hf; exact hf) H locs ls hP hS hl)
theorem g_icmp_eq (hX : Fx X Y w cc nL own lvl) {x y : Int32} {off : Int} (tgt : Nat) {β : Type} {z a b : β} {i0 : Decidable (x = y)} (hd : decode cc pc = .ok (.if_icmp .eq off, 3)) (ht : (pc : Int) + off = (tgt : Int)) (hf : (if x = y then a else b) = z) (kt : a = z → Gd X Y w σ lv tgt st) (kf : b = z → Gd X Y w σ lv (pc + 3) st) : Gd X Y w σ lv pc (.int y :: .int x :: st) := by
  obtain ⟨p, l, e, R, s, m, args, below, meth, c, Q⟩ := X
  intro H locs ls hP hS hl
  exact lv_icmp_eq hX.1 hX.2.1 hd ht (fun h => kt (by rw [if_pos h] at hf; exact hf) H locs ls hP hS hl) (fun h => kf (by rw [if_neg h] at hf; exact hf) H locs ls hP hS hl)
theorem g_if_ne (hX : Fx X Y w cc nL own lvl) {x : Int32} {off : Int} (tgt : Nat) {β : Type} {z a b : β} {i0 : Decidable (x = 0)} (hd : decode cc pc = .ok (.ifCond .ne off, 3)) (ht : (pc : Int) + off = (tgt : Int)) (hf : (if x = 0 then b else a) = z) (kt : a = z → Gd X Y w σ lv tgt st) (kf : b = z → Gd X Y w σ lv (pc + 3) st) : Gd X Y w σ lv pc (.int x :: st) := by
  obtain ⟨p, l, e, R, s, m, args, below, meth, c, Q⟩ := X
  intro H locs ls hP hS hl
  exact lv_if_ne hX.1 hX.2.1 hd ht (fun h => kt (by rw [if_neg h] at hf; exact hf) H locs ls hP hS hl) (fun h => kf (by rw [if_pos h] at hf; exact hf) H locs ls hP hS hl)
theorem g_icmp_ne (hX : Fx X Y w cc nL own lvl) {x y : Int32} {off : Int} (tgt : Nat) {β : Type} {z a b : β} {i0 : Decidable (x = y)} (hd : decode cc pc = .ok (.if_icmp .ne off, 3)) (ht : (pc : Int) + off = (tgt : Int)) (hf : (if x = y then b else a) = z) (kt : a = z → Gd X Y w σ lv tgt st) (kf : b = z → Gd X Y w σ lv (pc + 3) st) : Gd X Y w σ lv pc (.int y :: .int x :: st) := by
  obtain ⟨p, l, e, R, s, m, args, below, meth, c, Q⟩ := X
  intro H locs ls hP hS hl
  exact lv_icmp_ne hX.1 hX.2.1 hd ht (fun h => kt (by rw [if_neg h] at hf; exact hf) H locs ls hP hS hl) (fun h => kf (by rw [if_pos h] at hf; exact hf) H locs ls hP hS hl)
theorem g_if_lt (hX : Fx X Y w cc nL own lvl) {x : Int32} {off : Int} (tgt : Nat) {β : Type} {z a b : β} {i0 : Decidable (x < 0)} (hd : decode cc pc = .ok (.ifCond .lt off, 3)) (ht : (pc : Int) + off = (tgt : Int)) (hf : (if x < 0 then a else b) = z) (kt : a = z → Gd X Y w σ lv tgt st) (kf : b = z → Gd X Y w σ lv (pc + 3) st) : Gd X Y w σ lv pc (.int x :: st) := by
  obtain ⟨p, l, e, R, s, m, args, below, meth, c, Q⟩ := X
  intro H locs ls hP hS hl
  exact lv_if_lt hX.1 hX.2.1 hd ht (fun h => kt (by rw [if_pos h] at hf; exact hf) H locs ls hP hS hl) (fun h => kf (by rw [if_neg h] at hf; exact hf) H locs ls hP hS hl)
theorem g_icmp_lt (hX : Fx X Y w cc nL own lvl) {x y : Int32} {off : Int} (tgt : Nat) {β : Type} {z a b : β} {i0 : Decidable (x < y)} (hd : decode cc pc = .ok (.if_icmp .lt off, 3)) (ht : (pc : Int) + off = (tgt : Int)) (hf : (if x < y then a else b) = z) (kt : a = z → Gd X Y w σ lv tgt st) (kf : b = z → Gd X Y w σ lv (pc + 3) st) : Gd X Y w σ lv pc (.int y :: .int x :: st) := by
  obtain ⟨p, l, e, R, s, m, args, below, meth, c, Q⟩ := X
  intro H locs ls hP hS hl
  exact lv_icmp_lt hX.1 hX.2.1 hd ht (fun h => kt (by rw [if_pos h] at hf; exact hf) H locs ls hP hS hl) (fun h => kf (by rw [if_neg h] at hf; exact hf) H locs ls hP hS hl)
theorem g_if_ge (hX : Fx X Y w cc nL own lvl) {x : Int32} {off : Int} (tgt : Nat) {β : Type} {z a b : β} {i0 : Decidable (0 ≤ x)} (hd : decode cc pc = .ok (.ifCond .ge off, 3)) (ht : (pc : Int) + off = (tgt : Int)) (hf : (if 0 ≤ x then a else b) = z) (kt : a = z → Gd X Y w σ lv tgt st) (kf : b = z → Gd X Y w σ lv (pc + 3) st) : Gd X Y w σ lv pc (.int x :: st) := by
  obtain ⟨p, l, e, R, s, m, args, below, meth, c, Q⟩ := X
  intro H locs ls hP hS hl
  exact lv_if_ge hX.1 hX.2.1 hd ht (fun h => kt (by rw [if_pos h] at hf; exact hf) H locs ls hP hS hl) (fun h => kf (by rw [if_neg h] at hf; exact hf) H locs ls hP hS hl)
theorem g_icmp_ge (hX : Fx X Y w cc nL own lvl) {x y : Int32} {off : Int} (tgt : Nat) {β : Type} {z a b : β} {i0 : Decidable (y ≤ x)} (hd : decode cc pc = .ok (.if_icmp .ge off, 3)) (ht : (pc : Int) + off = (tgt : Int)) (hf : (if y ≤ x then a else b) = z) (kt : a = z → Gd X Y w σ lv tgt st) (kf : b = z → Gd X Y w σ lv (pc + 3) st) : Gd X Y w σ lv pc (.int y :: .int x :: st) := by
  obtain ⟨p, l, e, R, s, m, args, below, meth, c, Q⟩ := X
  intro H locs ls hP hS hl
  exact lv_icmp_ge hX.1 hX.2.1 hd ht (fun h => kt (by rw [if_pos h] at hf; exact hf) H locs ls hP hS hl) (fun h => kf (by rw [if_neg h] at hf; exact hf) H locs ls hP hS hl)
theorem g_if_gt (hX : Fx X Y w cc nL own lvl) {x : Int32} {off : Int} (tgt : Nat) {β : Type} {z a b : β} {i0 : Decidable (0 < x)} (hd : decode cc pc = .ok (.ifCond .gt off, 3)) (ht : (pc : Int) + off = (tgt : Int)) (hf : (if 0 < x then a else b) = z) (kt : a = z → Gd X Y w σ lv tgt st) (kf : b = z → Gd X Y w σ lv (pc + 3) st) : Gd X Y w σ lv pc (.int x :: st) := by
  obtain ⟨p, l, e, R, s, m, args, below, meth, c, Q⟩ := X
  intro H locs ls hP hS hl
  exact lv_if_gt hX.1 hX.2.1 hd ht (fun h => kt (by rw [if_pos h] at hf; exact hf) H locs ls hP hS hl) (fun h => kf (by rw [if_neg h] at hf; exact hf) H locs ls hP hS hl)
theorem g_icmp_gt (hX : Fx X Y w cc nL own lvl) {x y : Int32} {off : Int} (tgt : Nat) {β : Type} {z a b : β} {i0 : Decidable (y < x)} (hd : decode cc pc = .ok (.if_icmp .gt off, 3)) (ht : (pc : Int) + off = (tgt : Int)) (hf : (if y < x then a else b) = z) (kt : a = z → Gd X Y w σ lv tgt st) (kf : b = z → Gd X Y w σ lv (pc + 3) st) : Gd X Y w σ lv pc (.int y :: .int x :: st) := by
  obtain ⟨p, l, e, R, s, m, args, below, meth, c, Q⟩ := X
  intro H locs ls hP hS hl
  exact lv_icmp_gt hX.1 hX.2.1 hd ht (fun h => kt (by rw [if_pos h] at hf; exact hf) H locs ls hP hS hl) (fun h => kf (by rw [if_neg h] at hf; exact hf) H locs ls hP hS hl)
theorem g_if_le (hX : Fx X Y w cc nL own lvl) {x : Int32} {off : Int} (tgt : Nat) {β : Type} {z a b : β} {i0 : Decidable (x ≤ 0)} (hd : decode cc pc = .ok (.ifCond .le off, 3)) (ht : (pc : Int) + off = (tgt : Int)) (hf : (if x ≤ 0 then a else b) = z) (kt : a = z → Gd X Y w σ lv tgt st) (kf : b = z → Gd X Y w σ lv (pc + 3) st) : Gd X Y w σ lv pc (.int x :: st) := by
  obtain ⟨p, l, e, R, s, m, args, below, meth, c, Q⟩ := X
  intro H locs ls hP hS hl
  exact lv_if_le hX.1 hX.2.1 hd ht (fun h => kt (by rw [if_pos h] at hf; exact hf) H locs ls hP hS hl) (fun h => kf (by rw [if_neg h] at hf; exact hf) H locs ls hP hS hl)
theorem g_icmp_le (hX : Fx X Y w cc nL own lvl) {x y : Int32} {off : Int} (tgt : Nat) {β : Type} {z a b : β} {i0 : Decidable (x ≤ y)} (hd : decode cc pc = .ok (.if_icmp .le off, 3)) (ht : (pc : Int) + off = (tgt : Int)) (hf : (if x ≤ y then a else b) = z) (kt : a = z → Gd X Y w σ lv tgt st) (kf : b = z → Gd X Y w σ lv (pc + 3) st) : Gd X Y w σ lv pc (.int y :: .int x :: st) := by
  obtain ⟨p, l, e, R, s, m, args, below, meth, c, Q⟩ := X
  intro H locs ls hP hS hl
  exact lv_icmp_le hX.1 hX.2.1 hd ht (fun h => kt (by rw [if_pos h] at hf; exact hf) H locs ls hP hS hl) (fun h => kf (by rw [if_neg h] at hf; exact hf) H locs ls hP hS hl)
theorem g_getI (hX : Fx X Y w cc nL own lvl) {idx k ci i : Nat} {fs : List (Option Nat)} (hk : inW w k) (hs : shp k = (2, ci, fs)) (hi : fs[i]? = some none) (hl : FLok own idx ci i) (hd : decode cc pc = .ok (.getfield idx, 3)) (kk : Gd X Y w σ lv (pc + 3) (.int (σ k i) :: st)) : Gd X Y w σ lv pc (.ref (adr Y k) :: st) := by
  obtain ⟨p, l, e, R, s, m, args, below, meth, c, Q⟩ := X
  obtain ⟨hx, hb, hml, ho, hts, hK, hI, hZ, hR, hN⟩ := hX
  obtain ⟨C, T, N, ty0, h1, h2, h3, h4, h5, h6⟩ := hl
  intro H locs ls hP hS hl
  have he := wd_get (Y := Y) (σ := σ) hk
  rw [cellE_obj hs] at he
  exact va_get hx hb hts h3 ho hK hP (k - wlo w) he h1 i h2 (hts _ h4) (fun _ h => h) (v := .int (σ k i)) (by rw [List.getElem?_mapIdx, hi]; rfl) hd (kk H locs ls hP hS hl)
theorem g_getR (hX : Fx X Y w cc nL own lvl) {idx k ci i j : Nat} {fs : List (Option Nat)} (hk : inW w k) (hs : shp k = (2, ci, fs)) (hi : fs[i]? = some (some j)) (hl : FLok own idx ci i) (hd : decode cc pc = .ok (.getfield idx, 3)) (kk : Gd X Y w σ lv (pc + 3) (.ref (adr Y j) :: st)) : Gd X Y w σ lv pc (.ref (adr Y k) :: st) := by
  obtain ⟨p, l, e, R, s, m, args, below, meth, c, Q⟩ := X
  obtain ⟨hx, hb, hml, ho, hts, hK, hI, hZ, hR, hN⟩ := hX
  obtain ⟨C, T, N, ty0, h1, h2, h3, h4, h5, h6⟩ := hl
  intro H locs ls hP hS hl
  have he := wd_get (Y := Y) (σ := σ) hk
  rw [cellE_obj hs] at he
  exact va_get hx hb hts h3 ho hK hP (k - wlo w) he h1 i h2 (hts _ h4) (fun _ h => h) (v := .ref (adr Y j)) (by rw [List.getElem?_mapIdx, hi]; rfl) hd (kk H locs ls hP hS hl)
theorem g_putI (hX : Fx X Y w cc nL own lvl) {idx k ci i : Nat} {fs : List (Option Nat)} {v : Int32} {β : Type} {z : β} {f : Mem → β} (hk : inW w k) (hs : shp k = (2, ci, fs)) (hi : fs[i]? = some none) (hl : FIok own idx ci i) (hd : decode cc pc = .ok (.putfield idx, 3)) (hf : lt (mput σ k i v) f = z) (kk : ∀ σ2 : Mem, f σ2 = z → Gd X Y w σ2 lv (pc + 3) st) : Gd X Y w σ lv pc (.int v :: .ref (adr Y k) :: st) := by
  obtain ⟨p, l, e, R, s, m, args, below, meth, c, Q⟩ := X
  obtain ⟨hx, hb, hml, ho, hts, hK, hI, hZ, hR, hN⟩ := hX
  obtain ⟨C, T, N, ty0, h1, h2, h3, h4, h5, h6, h7, h8⟩ := hl
  intro H locs ls hP hS hl
  have he := wd_get (Y := Y) (σ := σ) hk
  rw [cellE_obj hs] at he
  have hlen := (List.getElem?_eq_some_iff.mp hi).1
  refine va_put (ty := .int) (v := .int v) hx hb hts h3 ty0 h5 h6 ho hK hP (wd_D hI σ) hS (k - wlo w) he h1 i h2 (hts _ h4) (fun _ h => h) h8 (by rw [h7]; decide +kernel) (vp_nar_int v) rfl (by simpa using hlen) hd (fun H1 locs1 hP1 hD1 hS1 => ?_)
  have e1 : (wd Y w σ).set (k - wlo w) (adr Y k, .inr (ci, (fs.mapIdx (fldV Y (σ k))).set i (.int v))) = wd Y w (mput σ k i v) := wd_set hk mput_ne (by rw [cellE_obj hs, mput_eq, fld_put hi])
  rw [e1] at hP1
  exact kk _ hf H1 locs1 ls hP1 hS1 hl
theorem rd_spec {σ : Mem} {k : Nat} {i : Int32} {v : Int32} (h : rd σ k i = some v) : vp_in i (lenOf k) ∧ v = σ k i.toNatClampNeg := by
  unfold rd at h
  by_cases hc : i < 0 ∨ lenOf k ≤ i.toNatClampNeg
  · rw [if_pos hc] at h; cases h
  · rw [if_neg hc] at h; cases h; exact ⟨hc, rfl⟩
theorem wr_spec {σ σ2 : Mem} {k : Nat} {i : Int32} {v : Int32} (h : wr σ k i v = some σ2) : vp_in i (lenOf k) ∧ σ2 = mput σ k i.toNatClampNeg v := by
  unfold wr at h
  by_cases hc : i < 0 ∨ lenOf k ≤ i.toNatClampNeg
  · rw [if_pos hc] at h; cases h
  · rw [if_neg hc] at h; cases h; exact ⟨hc, rfl⟩
theorem g_iaload (hX : Fx X Y w cc nL own lvl) {k L : Nat} {fs : List (Option Nat)} {i : Int32} {β : Type} {o : β} {f : Int32 → Option β} (hk : inW w k) (hs : shp k = (0, L, fs)) (hd : decode cc pc = .ok (.iaload, 1)) (hf : (rd σ k i).bind f = some o) (kk : ∀ v : Int32, f v = some o → Gd X Y w σ lv (pc + 1) (.int v :: st)) : Gd X Y w σ lv pc (.int i :: .ref (adr Y k) :: st) := by
  obtain ⟨a, ha, hf⟩ := obind hf
  obtain ⟨hin, rfl⟩ := rd_spec ha
  obtain ⟨p, l, e, R, s, m, args, below, meth, c, Q⟩ := X
  obtain ⟨hx, hb, hml, ho, hts, hK, hI, hZ, hR, hN⟩ := hX
  intro H locs ls hP hS hl
  have he := wd_get (Y := Y) (σ := σ) hk
  rw [cellE_arr hs] at he
  have hin : vp_in i L := by have : lenOf k = L := by unfold lenOf; rw [hs]
                             rw [← this]; exact hin
  exact va_iald hx hb hK hP (k - wlo w) 0 he rfl hin hd (kk _ hf H locs ls hP hS hl)
theorem g_iastore (hX : Fx X Y w cc nL own lvl) {k L : Nat} {fs : List (Option Nat)} {i v : Int32} {β : Type} {o : β} {f : Mem → Option β} (hk : inW w k) (hs : shp k = (0, L, fs)) (hd : decode cc pc = .ok (.iastore, 1)) (hf : (wr σ k i v).bind f = some o) (kk : ∀ σ2 : Mem, f σ2 = some o → Gd X Y w σ2 lv (pc + 1) st) : Gd X Y w σ lv pc (.int v :: .int i :: .ref (adr Y k) :: st) := by
  obtain ⟨a, ha, hf⟩ := obind hf
  obtain ⟨hin, rfl⟩ := wr_spec ha
  obtain ⟨p, l, e, R, s, m, args, below, meth, c, Q⟩ := X
  obtain ⟨hx, hb, hml, ho, hts, hK, hI, hZ, hR, hN⟩ := hX
  intro H locs ls hP hS hl
  have he := wd_get (Y := Y) (σ := σ) hk
  rw [cellE_arr hs] at he
  have hin : vp_in i L := by have : lenOf k = L := by unfold lenOf; rw [hs]
                             rw [← this]; exact hin
  refine va_iast hx hb hK hP (wd_D hI σ) hS (k - wlo w) 0 he rfl hin hd (fun H1 locs1 hP1 hD1 hS1 => ?_)
  have e1 : (wd Y w σ).set (k - wlo w) (adr Y k, .inl (Y.2.1, L, .inl (upd (σ k) i.toNatClampNeg v))) = wd Y w (mput σ k i.toNatClampNeg v) := wd_set hk mput_ne (by rw [cellE_arr hs, mput_eq])
  rw [e1] at hP1
  exact kk _ hf H1 locs1 ls hP1 hS1 hl
theorem g_baload (hX : Fx X Y w cc nL own lvl) {k L : Nat} {fs : List (Option Nat)} {i : Int32} {β : Type} {o : β} {f : Int32 → Option β} (hk : inW w k) (hs : shp k = (1, L, fs)) (hd : decode cc pc = .ok (.baload, 1)) (hf : (rd σ k i).bind f = some o) (kk : ∀ v : Int32, f v = some o → Gd X Y w σ lv (pc + 1) (.int v :: st)) : Gd X Y w σ lv pc (.int i :: .ref (adr Y k) :: st) := by
  obtain ⟨a, ha, hf⟩ := obind hf
  obtain ⟨hin, rfl⟩ := rd_spec ha
  obtain ⟨p, l, e, R, s, m, args, below, meth, c, Q⟩ := X
  obtain ⟨hx, hb, hml, ho, hts, hK, hI, hZ, hR, hN⟩ := hX
  intro H locs ls hP hS hl
  have he := wd_get (Y := Y) (σ := σ) hk
  rw [cellE_arrZ hs] at he
  have hin : vp_in i L := by have : lenOf k = L := by unfold lenOf; rw [hs]
                             rw [← this]; exact hin
  exact va_zald hx hb hK hP (k - wlo w) 1 he rfl hin hd (kk _ hf H locs ls hP hS hl)
theorem g_bastore (hX : Fx X Y w cc nL own lvl) {k L : Nat} {fs : List (Option Nat)} {i v : Int32} {β : Type} {o : β} {f : Mem → Option β} (hk : inW w k) (hs : shp k = (1, L, fs)) (hn : vp_nar .boolean v = v) (hd : decode cc pc = .ok (.bastore, 1)) (hf : (wr σ k i v).bind f = some o) (kk : ∀ σ2 : Mem, f σ2 = some o → Gd X Y w σ2 lv (pc + 1) st) : Gd X Y w σ lv pc (.int v :: .int i :: .ref (adr Y k) :: st) := by
  obtain ⟨a, ha, hf⟩ := obind hf
  obtain ⟨hin, rfl⟩ := wr_spec ha
  obtain ⟨p, l, e, R, s, m, args, below, meth, c, Q⟩ := X
  obtain ⟨hx, hb, hml, ho, hts, hK, hI, hZ, hR, hN⟩ := hX
  intro H locs ls hP hS hl
  have he := wd_get (Y := Y) (σ := σ) hk
  rw [cellE_arrZ hs] at he
  have hin : vp_in i L := by have : lenOf k = L := by unfold lenOf; rw [hs]
                             rw [← this]; exact hin
  refine va_zast hx hb hK hP (wd_D hI σ) hS (k - wlo w) 1 he rfl hin hd (fun H1 locs1 hP1 hD1 hS1 => ?_)
  have e1 : (wd Y w σ).set (k - wlo w) (adr Y k, .inl (Y.2.2.1, L, .inl (upd (σ k) i.toNatClampNeg (vp_nar .boolean v)))) = wd Y w (mput σ k i.toNatClampNeg v) := wd_set hk mput_ne (by rw [cellE_arrZ hs, mput_eq, hn])
  rw [e1] at hP1
  exact kk _ hf H1 locs1 ls hP1 hS1 hl
theorem g_alen (hX : Fx X Y w cc nL own lvl) {k L : Nat} {fs : List (Option Nat)} (hk : inW w k) (hs : shp k = (0, L, fs)) (hd : decode cc pc = .ok (.arraylength, 1)) (kk : Gd X Y w σ lv (pc + 1) (.int (nI (lenOf k)) :: st)) : Gd X Y w σ lv pc (.ref (adr Y k) :: st) := by
  obtain ⟨p, l, e, R, s, m, args, below, meth, c, Q⟩ := X
  obtain ⟨hx, hb, hml, ho, hts, hK, hI, hZ, hR, hN⟩ := hX
  intro H locs ls hP hS hl
  have he := wd_get (Y := Y) (σ := σ) hk
  rw [cellE_arr hs] at he
  have hL : lenOf k = L := by unfold lenOf; rw [hs]
  exact va_alen hx hb hK hP (k - wlo w) 0 he rfl (v := nI (lenOf k)) (by rw [hL]; rfl) hd (kk H locs ls hP hS hl)
theorem g_getst (hX : Fx X Y w cc nL own lvl) {idx k : Nat} (hk : k < 3) (hl : Cond.fieldLink own idx "OrderTrees" (stNm k) "[I" ∈ Tg) (hd : decode cc pc = .ok (.getstatic idx, 3)) (kk : Gd X Y w σ lv (pc + 3) (.ref (sad Y k) :: st)) : Gd X Y w σ lv pc st := by
  obtain ⟨p, l, e, R, s, m, args, below, meth, c, Q⟩ := X
  obtain ⟨hx, hb, hml, ho, hts, hK, hI, hZ, hR, hN⟩ := hX
  intro H locs ls hP hS hls
  exact va_gets hx hb (hZ k hk).1 hS ho (hts _ hl) (fun _ h => h) hd (kk H locs ls hP hS hls)
theorem rds_spec {k : Nat} {i v : Int32} (h : rds k i = some v) : vp_in i (stA k).length ∧ v = (stA k).getD i.toNatClampNeg 0 := by
  unfold rds at h
  by_cases hc : i < 0 ∨ (stA k).length ≤ i.toNatClampNeg
  · rw [if_pos hc] at h; cases h
  · rw [if_neg hc] at h; cases h; exact ⟨hc, rfl⟩
theorem g_ialoadS (hX : Fx X Y w cc nL own lvl) {k : Nat} {i : Int32} {β : Type} {o : β} {f : Int32 → Option β} (hk : k < 3) (hd : decode cc pc = .ok (.iaload, 1)) (hf : (rds k i).bind f = some o) (kk : ∀ v : Int32, f v = some o → Gd X Y w σ lv (pc + 1) (.int v :: st)) : Gd X Y w σ lv pc (.int i :: .ref (sad Y k) :: st) := by
  obtain ⟨a, ha, hf⟩ := obind hf
  obtain ⟨hin, rfl⟩ := rds_spec ha
  obtain ⟨p, l, e, R, s, m, args, below, meth, c, Q⟩ := X
  obtain ⟨hx, hb, hml, ho, hts, hK, hI, hZ, hR, hN⟩ := hX
  intro H locs ls hP hS hl
  exact va_ti hx hb (hZ k hk).2 hS hin rfl hd (kk _ hf H locs ls hP hS hl)
theorem g_alenS (hX : Fx X Y w cc nL own lvl) {k : Nat} {v : Int32} (hk : k < 3) (hv : Int32.ofNat (stA k).length = v) (hd : decode cc pc = .ok (.arraylength, 1)) (kk : Gd X Y w σ lv (pc + 1) (.int v :: st)) : Gd X Y w σ lv pc (.ref (sad Y k) :: st) := by
  obtain ⟨p, l, e, R, s, m, args, below, meth, c, Q⟩ := X
  obtain ⟨hx, hb, hml, ho, hts, hK, hI, hZ, hR, hN⟩ := hX
  intro H locs ls hP hS hl
  exact va_tlen hx hb (hZ k hk).2 hS hv hd (kk H locs ls hP hS hl)
theorem g_max (hX : Fx X Y w cc nL own lvl) {idx : Nat} {x y : Int32} (hL : 1 ≤ lvl) (hl1 : Cond.methodLink own idx Lib.Math.max.name ∈ Tg) (hl2 : Cond.static Lib.Math.max.name ∈ Tg) (hl3 : Cond.initialized "java/lang/Math" ∈ Tg) (hl4 : Cond.code Lib.Math.max.name Lib.Math.max.code 2 (some .int) ∈ Tg) (hr : (st.map fun v => v.category).sum ≤ 8) (hd : decode cc pc = .ok (.invokestatic idx, 3)) (kk : Gd X Y w σ lv (pc + 3) (.int (if x < y then y else x) :: st)) : Gd X Y w σ lv pc (.int y :: .int x :: st) := by
  obtain ⟨p, l, e, R, s, m, args, below, meth, c, Q⟩ := X
  obtain ⟨hx, hb, hml, ho, hts, hK, hI, hZ, hR, hN⟩ := hX
  subst hR
  intro H locs ls hP hS hl
  exact va_mmax hx hb hl.1.symm ho (hts _ hl1) (hts _ hl2) (hts _ hl3) (hts _ hl4) hL (by show _ ≤ 40 * lvl; omega) (Nat.le_refl 0) (Nat.le_refl 0) hd (kk H locs ls hP hS hl)
theorem g_min (hX : Fx X Y w cc nL own lvl) {idx : Nat} {x y : Int32} (hL : 1 ≤ lvl) (hl1 : Cond.methodLink own idx Lib.Math.min.name ∈ Tg) (hl2 : Cond.static Lib.Math.min.name ∈ Tg) (hl3 : Cond.initialized "java/lang/Math" ∈ Tg) (hl4 : Cond.code Lib.Math.min.name Lib.Math.min.code 2 (some .int) ∈ Tg) (hr : (st.map fun v => v.category).sum ≤ 8) (hd : decode cc pc = .ok (.invokestatic idx, 3)) (kk : Gd X Y w σ lv (pc + 3) (.int (if y < x then y else x) :: st)) : Gd X Y w σ lv pc (.int y :: .int x :: st) := by
  obtain ⟨p, l, e, R, s, m, args, below, meth, c, Q⟩ := X
  obtain ⟨hx, hb, hml, ho, hts, hK, hI, hZ, hR, hN⟩ := hX
  subst hR
  intro H locs ls hP hS hl
  exact va_mmin hx hb hl.1.symm ho (hts _ hl1) (hts _ hl2) (hts _ hl3) (hts _ hl4) hL (by show _ ≤ 40 * lvl; omega) (Nat.le_refl 0) (Nat.le_refl 0) hd (kk H locs ls hP hS hl)
-- copy within one row of ints (System.arraycopy of a cell onto itself)
def cpy (σ : Mem) (k : Nat) (sp dp n : Int32) : Option Mem := if sp < 0 ∨ dp < 0 ∨ n < 0 ∨ lenOf k < sp.toNatClampNeg + n.toNatClampNeg ∨ lenOf k < dp.toNatClampNeg + n.toNatClampNeg then none else some (mset σ k (va_cpy (σ k) (σ k) sp.toNatClampNeg dp.toNatClampNeg n.toNatClampNeg))
theorem g_copy (hX : Fx X Y w cc nL own lvl) {idx k L : Nat} {fs : List (Option Nat)} {sp dp n : Int32} {β : Type} {o : β} {f : Mem → Option β} (hk : inW w k) (hs : shp k = (0, L, fs)) (hL : 1 ≤ lvl) (hl1 : Cond.methodLink own idx arraycopyName ∈ Tg) (hl2 : Cond.native arraycopyName ∈ Tg) (hl3 : Cond.static arraycopyName ∈ Tg) (hl4 : Cond.initialized "java/lang/System" ∈ Tg) (hr : (st.map fun v => v.category).sum + (nativeFrameWords "java/lang/System" "arraycopy" 5 + 11) ≤ 40) (hd : decode cc pc = .ok (.invokestatic idx, 3)) (hf : (cpy σ k sp dp n).bind f = some o) (kk : ∀ σ2 : Mem, f σ2 = some o → Gd X Y w σ2 lv (pc + 3) st) : Gd X Y w σ lv pc (.int n :: .int dp :: .ref (adr Y k) :: .int sp :: .ref (adr Y k) :: st) := by
  obtain ⟨a, ha, hf⟩ := obind hf
  unfold cpy at ha
  by_cases hc : sp < 0 ∨ dp < 0 ∨ n < 0 ∨ lenOf k < sp.toNatClampNeg + n.toNatClampNeg ∨ lenOf k < dp.toNatClampNeg + n.toNatClampNeg
  · rw [if_pos hc] at ha; cases ha
  · rw [if_neg hc] at ha
    cases ha
    obtain ⟨p, l, e, R, s, m, args, below, meth, c, Q⟩ := X
    obtain ⟨hx, hb, hml, ho, hts, hK, hI, hZ, hR, hN⟩ := hX
    subst hR
    intro H locs ls hP hS hl
    have he := wd_get (Y := Y) (σ := σ) hk
    rw [cellE_arr hs] at he
    have hLk : lenOf k = L := by unfold lenOf; rw [hs]
    rw [hLk] at hc
    refine va_copyi hx hb hl.1.symm ho (hts _ hl1) (hts _ hl2) (hts _ hl3) (hts _ hl4) hK hP (wd_D hI σ) hS (k - wlo w) (k - wlo w) 0 0 he he rfl rfl rfl (fun h => hc (Or.inl h)) (fun h => hc (Or.inr (Or.inl h))) (fun h => hc (Or.inr (Or.inr (Or.inl h)))) (by omega) (by omega) (fun i hi => rfl) hL (by show _ ≤ 40 * lvl; omega) hd (fun H1 locs1 hP1 hD1 hS1 => ?_)
    have e1 : (wd Y w σ).set (k - wlo w) (adr Y k, .inl (Y.2.1, L, .inl (va_cpy (σ k) (σ k) sp.toNatClampNeg dp.toNatClampNeg n.toNatClampNeg))) = wd Y w (mset σ k (va_cpy (σ k) (σ k) sp.toNatClampNeg dp.toNatClampNeg n.toNatClampNeg)) := wd_set hk (fun j hj => by simp [mset, hj]) (by rw [cellE_arr hs]; simp [mset])
    rw [e1] at hP1
    exact kk _ hf H1 locs1 ls hP1 hS1 hl
-- calls
theorem Sts.to {A : Nat → Prop} {s U : State} {H : Heap} {locs : List Loc} (h : Sts Y A s s.heap) (hS : va_S A s.heap H locs) (hU : U.heap = H) (hW : s.WarmedH U.vm) : Sts Y A U U.heap := fun k hk => by
  obtain ⟨h1, h2⟩ := h k hk
  rw [hU]
  exact ⟨(h1.kept hS.2.1).moved hW.alike, (h2.kept hS.2.1).moved hW.alike⟩
theorem iv_blind {as : List Value} : FrameBlind (va_Pc as (Iv Y w σ)) := fun a U g mk q => by
  obtain ⟨q0, q1, q2, q3, q4, q5⟩ := q
  exact ⟨q0, q1, va_K.moved (u := U) (U := U.calling g mk a) (Vm.Alike.refl U.vm) q2, q3, q4, va_Nw.same rfl (u := U) (U := U.calling g mk a) rfl q5⟩
theorem g_run {p : Program} {l : Launch} {e : Env} {R : Room} {s : State} {m : MethodId} {args : Array Value} {below : List Frame} {meth : Method} {c : Code} {H : Heap} {locs : List Loc} {Q : State → Prop} {ls : Array Slot} {st0 rest : List Value} {a : Array Value} {ret : Option FieldType} {r : Option Value} {σ2 : Mem}
    (hr : va_Run p l e R s m args below meth c H locs 0 0 0 0 (F0 m pc ls st0) rest (Qo Y w ret r σ2 a) (Aw Y w)) (hS : va_S (Aw Y w) s.heap H locs)
    (kk : okR ret r → ∀ (H1 : Heap) (locs1 : List Loc), va_P Y.1 classes (wd Y w σ2) H1 → va_S (Aw Y w) s.heap H1 locs1 → W p l e R s m args below meth c H1 locs1 0 0 Q (F0 m (pc + 3) ls (r.toList ++ rest))) : W p l e R s m args below meth c H locs 0 0 Q (F0 m pc ls st0) := by
  intro T hT X
  obtain ⟨v, st₀, t, T', L, h0, X', hL, e1, e2, ⟨hv, hok, hb, hz, hk⟩, st⟩ := hr T hT X
  cases hv
  rw [h0] at hz hk
  obtain ⟨t2, a1, b1⟩ := kk hok T'.heap (locs ++ L) (by rw [e1]; exact hb)
    ⟨Nat.le_trans hS.1 (by rw [e1]; exact hz), fun q h1 h2 => by rw [e1, hk q (Nat.lt_of_lt_of_le h1 hS.1) h2]; exact hS.2.1 q h1 h2, fun q hq => by
      rcases List.mem_append.mp hq with h | h
      · exact hS.2.2 q h
      · exact hL q h⟩ T' rfl X'
  exact ⟨t2, st t2 a1, b1⟩
theorem g_callV (hX : Fx X Y w cc nL own lvl) {C : String} {y : MethodName} {b : ByteArray} {nC idx n lv2 k ci : Nat} {fs : List (Option Nat)} {ret : Option FieldType} {T : u_T} {N : Nat} (As : List Value) (rest : List Value) {r : Option Value} {σ2 : Mem} (hm : MVok own idx C y b nC ret n) (hc : Ct X.2.1 Y w y b nC ret lv2 (.ref (adr Y k) :: As) σ r σ2) (hv : lv2 + 1 ≤ lvl) (hk : inW w k) (hs : shp k = (2, ci, fs)) (hcl : classes[ci]? = some (C, T, N)) (hst : st = As.reverse ++ .ref (adr Y k) :: rest) (hn : As.length = n) (hrs : (rest.map fun v => v.category).sum ≤ 8) (hd : decode cc pc = .ok (.invokevirtual idx, 3))
    (kk : okR ret r → Gd X Y w σ2 lv (pc + 3) (r.toList ++ rest)) : Gd X Y w σ lv pc st := by
  obtain ⟨p, l, e, R, s, m, args, below, meth, c, Q⟩ := X
  obtain ⟨hx, hb, hml, ho, hts, hK, hI, hZ, hR, hN⟩ := hX
  obtain ⟨m1, m2, m3, m4, m5, m6, m7⟩ := hm
  subst hR; subst hst
  intro H locs ls hP hS hl
  have he := wd_get (Y := Y) (σ := σ) hk
  rw [cellE_obj hs] at he
  have hG : GoodIn Tg (wsV own idx C y (.code y b nC ret :: Tg)) := tg_in (fun _ h => h) (fun z hz => by
    simp only [wsV, List.mem_append, List.mem_cons, List.not_mem_nil, or_false] at hz
    rcases hz with (h | h | h | h) | h | h <;> first | (rw [h]; assumption) | exact h)
  refine g_run (ret := ret) (r := r) (σ2 := σ2) (va_runV (As := As) (rest := rest) ⟨hx, hb, hml, ho, hts⟩ hc (cwV n hts hG rfl rfl rfl m6 ⟨hv, ?_⟩) ⟨iv_blind, va_recv hK hP hcl he, fun U hU hW => ⟨rfl, by rw [hU]; exact hP, va_K.moved hW.alike hK, hI, hZ.to hS hU hW, va_Nw.warmM hW hN⟩⟩ rfl hn (by rw [← hml]; exact hl.1) rfl (lv_room hrs) hd ⟨Nat.le_refl 0, Nat.le_refl 0⟩) hS (fun hok H1 locs1 hP1 hS1 => kk hok H1 locs1 ls hP1 hS1 hl)
  show 8 + (nC + 11) + 40 * lv2 ≤ 40 * lvl
  unfold nMax at m7
  omega
theorem g_callS (hX : Fx X Y w cc nL own lvl) {y : MethodName} {b : ByteArray} {nC idx n lv2 : Nat} {ret : Option FieldType} (As : List Value) (rest : List Value) {r : Option Value} {σ2 : Mem} (hm : MSok own idx y b nC ret n) (hc : Ct X.2.1 Y w y b nC ret lv2 As σ r σ2) (hv : lv2 + 1 ≤ lvl) (hst : st = As.reverse ++ rest) (hn : As.length = n) (hrs : (rest.map fun v => v.category).sum ≤ 8) (hd : decode cc pc = .ok (.invokestatic idx, 3))
    (kk : okR ret r → Gd X Y w σ2 lv (pc + 3) (r.toList ++ rest)) : Gd X Y w σ lv pc st := by
  obtain ⟨p, l, e, R, s, m, args, below, meth, c, Q⟩ := X
  obtain ⟨hx, hb, hml, ho, hts, hK, hI, hZ, hR, hN⟩ := hX
  obtain ⟨m1, m2, m4, m5, m6, m7⟩ := hm
  subst hR; subst hst
  intro H locs ls hP hS hl
  have hG : GoodIn Tg (va_wsS own idx y (.code y b nC ret :: Tg)) := tg_in (fun _ h => h) (fun z hz => by
    simp only [va_wsS, List.mem_append, List.mem_cons, List.not_mem_nil, or_false] at hz
    rcases hz with (h | h | h) | h | h <;> first | (rw [h]; assumption) | exact h)
  refine g_run (ret := ret) (r := r) (σ2 := σ2) (va_runS (As := As) (rest := rest) ⟨hx, hb, hml, ho, hts⟩ hc (va_cwS n hts hG rfl rfl rfl m6 ⟨hv, ?_⟩) ⟨iv_blind, fun U hU hW => ⟨rfl, by rw [hU]; exact hP, va_K.moved hW.alike hK, hI, hZ.to hS hU hW, va_Nw.warmM hW hN⟩⟩ rfl hn (by rw [← hml]; exact hl.1) rfl (lv_room hrs) hd ⟨Nat.le_refl 0, Nat.le_refl 0⟩) hS (fun hok H1 locs1 hP1 hS1 => kk hok H1 locs1 ls hP1 hS1 hl)
  show 8 + (nC + 11) + 40 * lv2 ≤ 40 * lvl
  unfold nMax at m7
  omega
/-- the nest mate's factorial, called out of Tree -/
theorem g_callF (hX : Fx X Y w cc nL R_T lvl) {lv2 : Nat} (As : List Value) (rest : List Value) {r : Option Value} {σ2 : Mem} (h1 : Cond.static y_O_factorial ∈ Tg) (h2 : Cond.initialized R_O ∈ Tg) (h3 : Cond.code y_O_factorial b_O_factorial 1 (some .int) ∈ Tg) (hc : Ct X.2.1 Y w y_O_factorial b_O_factorial 1 (some .int) lv2 As σ r σ2) (hv : lv2 + 1 ≤ lvl) (hst : st = As.reverse ++ rest) (hn : As.length = 1) (hrs : (rest.map fun v => v.category).sum ≤ 8) (hd : decode cc pc = .ok (.invokestatic 158, 3))
    (kk : okR (some .int) r → Gd X Y w σ2 lv (pc + 3) (r.toList ++ rest)) : Gd X Y w σ lv pc st := by
  obtain ⟨p, l, e, R, s, m, args, below, meth, c, Q⟩ := X
  obtain ⟨hx, hb, hml, ho, hts, hK, hI, hZ, hR, hN⟩ := hX
  subst hR; subst hst
  intro H locs ls hP hS hl
  have hG : GoodIn Tg (.code y_O_factorial b_O_factorial 1 (some .int) :: Tg) := tg_in (fun _ h => h) (fun z hz => by
    rcases List.mem_cons.mp hz with h | h
    · rw [h]; exact h3
    · exact h)
  refine g_run (ret := some .int) (r := r) (σ2 := σ2) (va_runSN (As := As) (rest := rest) ⟨hx, hb, hml, ho, hts⟩ hc ⟨va_cnB 1 hts hG rfl rfl rfl hN (hts _ h2) (by decide +kernel) ⟨hv, ?_⟩, hts _ h1, trivial⟩ ⟨iv_blind, fun U hU hW => ⟨rfl, by rw [hU]; exact hP, va_K.moved hW.alike hK, hI, hZ.to hS hU hW, va_Nw.warmM hW hN⟩⟩ rfl hn (by rw [← hml]; exact hl.1) rfl (lv_room hrs) hd ⟨Nat.le_refl 0, Nat.le_refl 0⟩) hS (fun hok H1 locs1 hP1 hS1 => kk hok H1 locs1 ls hP1 hS1 hl)
  show 8 + (1 + 11) + 40 * lv2 ≤ 40 * lvl
  omega
-- ends
theorem g_ireturn (hX : Fx X Y w cc nL own lvl) {v : Int32} (hR : Rt X Y w (some .int) (some (.int v)) σ) (hd : decode cc pc = .ok (.ireturn, 1)) : Gd X Y w σ lv pc [.int v] := by
  obtain ⟨p, l, e, R, s, m, args, below, meth, c, Q⟩ := X
  obtain ⟨h1, h2, rfl⟩ := hR
  intro H locs ls hP hS hl
  exact W.iret hX.1 hX.2.1 h1 (fun t ht hW => ⟨rfl, trivial, by rw [ht]; exact hP, hS.F ht⟩) hS.2.2 hd h2
theorem g_zreturn (hX : Fx X Y w cc nL own lvl) {v : Int32} (hR : Rt X Y w (some .boolean) (some (.int v)) σ) (hn : okR (some .boolean) (some (.int v))) (hd : decode cc pc = .ok (.ireturn, 1)) : Gd X Y w σ lv pc [.int v] := by
  obtain ⟨p, l, e, R, s, m, args, below, meth, c, Q⟩ := X
  obtain ⟨h1, h2, rfl⟩ := hR
  intro H locs ls hP hS hl
  exact W.zret hX.1 hX.2.1 h1 hn (fun t ht hW => ⟨rfl, hn, by rw [ht]; exact hP, hS.F ht⟩) hS.2.2 hd h2
theorem g_lreturn (hX : Fx X Y w cc nL own lvl) {v : Int64} (hR : Rt X Y w (some .long) (some (.long v)) σ) (hd : decode cc pc = .ok (.lreturn, 1)) : Gd X Y w σ lv pc [.long v] := by
  obtain ⟨p, l, e, R, s, m, args, below, meth, c, Q⟩ := X
  obtain ⟨h1, h2, rfl⟩ := hR
  intro H locs ls hP hS hl
  exact W.lret hX.1 hX.2.1 h1 (fun t ht hW => ⟨rfl, trivial, by rw [ht]; exact hP, hS.F ht⟩) hS.2.2 hd h2
theorem g_return (hX : Fx X Y w cc nL own lvl) (hR : Rt X Y w none none σ) (hd : decode cc pc = .ok (.return_, 1)) : Gd X Y w σ lv pc [] := by
  obtain ⟨p, l, e, R, s, m, args, below, meth, c, Q⟩ := X
  obtain ⟨h1, h2, rfl⟩ := hR
  intro H locs ls hP hS hl
  exact W.vret hX.1 hX.2.1 h1 (fun t ht hW => ⟨rfl, trivial, by rw [ht]; exact hP, hS.F ht⟩) hS.2.2 hd h2
theorem g_tabIn (hX : Fx X Y w cc nL own lvl) {x : Int32} {dflt lo hi : Int} {offs : Array Int} {len : Nat} {off : Int} (tgt : Nat) (hd : decode cc pc = .ok (.tableswitch dflt lo hi offs, len)) (h1 : ¬ x.toInt < lo) (h2 : ¬ hi < x.toInt) (ho : offs[(x.toInt - lo).toNat]? = some off) (ht : (pc : Int) + off = (tgt : Int)) (k : Gd X Y w σ lv tgt st) : Gd X Y w σ lv pc (.int x :: st) := by
  obtain ⟨p, l, e, R, s, m, args, below, meth, c, Q⟩ := X
  intro H locs ls hP hS hl
  exact lv_tableIn hX.1 hX.2.1 hd h1 h2 ho ht (k H locs ls hP hS hl)
theorem g_tabOut (hX : Fx X Y w cc nL own lvl) {x : Int32} {dflt lo hi : Int} {offs : Array Int} {len : Nat} (tgt : Nat) (hd : decode cc pc = .ok (.tableswitch dflt lo hi offs, len)) (h : x.toInt < lo ∨ hi < x.toInt) (ht : (pc : Int) + dflt = (tgt : Int)) (k : Gd X Y w σ lv tgt st) : Gd X Y w σ lv pc (.int x :: st) := by
  obtain ⟨p, l, e, R, s, m, args, below, meth, c, Q⟩ := X
  intro H locs ls hP hS hl
  exact lv_tableOut hX.1 hX.2.1 hd h ht (k H locs ls hP hS hl)
end GR
theorem g_loop {S R : Type} (f : S → Option (S ⊕ R)) (hd : S → Prop) (x : R) (step : ∀ s y, f s = some y → (∀ s2, y = .inl s2 → hd s2) → (∀ r, y = .inr r → r = x) → hd s) : ∀ n s, lp f n s = some x → hd s := by
  intro n
  induction n with
  | zero => intro s h; cases h
  | succ n ih =>
    intro s h
    obtain ⟨y, hy, h2⟩ := obind h
    refine step s y hy (fun s2 e => ?_) (fun r e => ?_)
    · subst e; exact ih s2 h2
    · subst e; exact Option.some.inj h2
/-- a method's contract out of the walk of its body -/
theorem ct_of {l : Launch} {Y : Wx} {w : Nat} {y : MethodName} {b : ByteArray} {nL : Nat} {ret : Option FieldType} {lvl : Nat} {as : List Value} {σ : Mem} {r : Option Value} {σ2 : Mem} {lv : List (Nat × Value)} (hy : plainName y.cls = true) (hn : (lg_sl as).length ≤ nL) (hlv : lv_args 0 as = lv)
    (h : ∀ X : Cx, X.2.1 = l → Fx X Y w b nL y.cls lvl → Rt X Y w ret r σ2 → Gd X Y w σ lv 0 []) : Ct l Y w y b nL ret lvl as σ r σ2 := by
  subst hlv
  refine Met.ofW (cc := b) (maxL := nL) (ret := ret) hy rfl ?_
  intro p e s m args below meth c s₁ B hml hv
  obtain ⟨rfl, hP, hK, hI, hZ, hN⟩ := hv
  have hts := atoms_spec (ws := .code y b nL ret :: Tg) B.pre
  have hown : s.vm.findClass y.cls = some m.cls := findClass_of_methodNamed B.named
  have hl := lv_entry as (n := nL) hn
  rw [lg_entry_eq]
  exact h (p, l, e, rmL lvl, s, m, as.toArray, below, meth, c, MQ below (Qo Y w ret r σ2) as.toArray s 0 0 (Aw Y w)) rfl ⟨B.exec, B.bytes, hml, hown, fun z hz => hts z (List.mem_cons_of_mem _ hz), hK, hI, hZ, rfl, hN⟩ ⟨B.returns, B.notSynchronized, rfl⟩ s.heap [] _ hP va_S.rf (by rw [hml]; exact hl)

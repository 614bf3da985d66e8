theorem sh_0 : shp 0 = (2, 2, [none, some 1, none, none, some 2, none, none, some 6, some 10, some 3, none, some 21, some 32, some 4, some 5]) := rfl
theorem iw_0 : inW 0 0 := by unfold inW; decide
theorem sh_1 : shp 1 = (0, 10, []) := rfl
theorem iw_1 : inW 0 1 := by unfold inW; decide
theorem isA_1_ : shp 1 = (0, lenOf 1, []) := rfl
theorem sh_2 : shp 2 = (0, 8, []) := rfl
theorem iw_2 : inW 0 2 := by unfold inW; decide
theorem isA_2_ : shp 2 = (0, lenOf 2, []) := rfl
theorem sh_3 : shp 3 = (0, 40, []) := rfl
theorem iw_3 : inW 0 3 := by unfold inW; decide
theorem isA_3_ : shp 3 = (0, lenOf 3, []) := rfl
theorem sh_4 : shp 4 = (0, 8, []) := rfl
theorem iw_4 : inW 0 4 := by unfold inW; decide
theorem isA_4_ : shp 4 = (0, lenOf 4, []) := rfl
theorem sh_5 : shp 5 = (0, 8, []) := rfl
theorem iw_5 : inW 0 5 := by unfold inW; decide
theorem isA_5_ : shp 5 = (0, lenOf 5, []) := rfl
theorem sh_6 : shp 6 = (2, 0, [some 7, some 8, some 9]) := rfl
theorem iw_6 : inW 0 6 := by unfold inW; decide
theorem sh_7 : shp 7 = (0, 4, []) := rfl
theorem iw_7 : inW 0 7 := by unfold inW; decide
theorem isA_7_ : shp 7 = (0, lenOf 7, []) := rfl
theorem sh_8 : shp 8 = (0, 4, []) := rfl
theorem iw_8 : inW 0 8 := by unfold inW; decide
theorem isA_8_ : shp 8 = (0, lenOf 8, []) := rfl
theorem sh_9 : shp 9 = (0, 240, []) := rfl
theorem iw_9 : inW 0 9 := by unfold inW; decide
theorem isA_9_ : shp 9 = (0, lenOf 9, []) := rfl
theorem sh_10 : shp 10 = (2, 1, shT 10) := rfl
theorem iw_10 : inW 0 10 := by unfold inW; decide
theorem sh_11 : shp 11 = (0, 24, []) := rfl
theorem iw_11 : inW 0 11 := by unfold inW; decide
theorem isA_11_ : shp 11 = (0, lenOf 11, []) := rfl
theorem sh_12 : shp 12 = (0, 24, []) := rfl
theorem iw_12 : inW 0 12 := by unfold inW; decide
theorem isA_12_ : shp 12 = (0, lenOf 12, []) := rfl
theorem sh_13 : shp 13 = (0, 24, []) := rfl
theorem iw_13 : inW 0 13 := by unfold inW; decide
theorem isA_13_ : shp 13 = (0, lenOf 13, []) := rfl
theorem sh_14 : shp 14 = (0, 192, []) := rfl
theorem iw_14 : inW 0 14 := by unfold inW; decide
theorem isA_14_ : shp 14 = (0, lenOf 14, []) := rfl
theorem sh_15 : shp 15 = (0, 8, []) := rfl
theorem iw_15 : inW 0 15 := by unfold inW; decide
theorem isA_15_ : shp 15 = (0, lenOf 15, []) := rfl
theorem sh_16 : shp 16 = (0, 8, []) := rfl
theorem iw_16 : inW 0 16 := by unfold inW; decide
theorem isA_16_ : shp 16 = (0, lenOf 16, []) := rfl
theorem sh_17 : shp 17 = (0, 7, []) := rfl
theorem iw_17 : inW 0 17 := by unfold inW; decide
theorem isA_17_ : shp 17 = (0, lenOf 17, []) := rfl
theorem sh_18 : shp 18 = (0, 24, []) := rfl
theorem iw_18 : inW 0 18 := by unfold inW; decide
theorem isA_18_ : shp 18 = (0, lenOf 18, []) := rfl
theorem sh_19 : shp 19 = (0, 24, []) := rfl
theorem iw_19 : inW 0 19 := by unfold inW; decide
theorem isA_19_ : shp 19 = (0, lenOf 19, []) := rfl
theorem sh_20 : shp 20 = (0, 24, []) := rfl
theorem iw_20 : inW 0 20 := by unfold inW; decide
theorem isA_20_ : shp 20 = (0, lenOf 20, []) := rfl
theorem sh_21 : shp 21 = (2, 1, shT 21) := rfl
theorem iw_21 : inW 0 21 := by unfold inW; decide
theorem sh_22 : shp 22 = (0, 24, []) := rfl
theorem iw_22 : inW 0 22 := by unfold inW; decide
theorem isA_22_ : shp 22 = (0, lenOf 22, []) := rfl
theorem sh_23 : shp 23 = (0, 24, []) := rfl
theorem iw_23 : inW 0 23 := by unfold inW; decide
theorem isA_23_ : shp 23 = (0, lenOf 23, []) := rfl
theorem sh_24 : shp 24 = (0, 24, []) := rfl
theorem iw_24 : inW 0 24 := by unfold inW; decide
theorem isA_24_ : shp 24 = (0, lenOf 24, []) := rfl
theorem sh_25 : shp 25 = (0, 192, []) := rfl
theorem iw_25 : inW 0 25 := by unfold inW; decide
theorem isA_25_ : shp 25 = (0, lenOf 25, []) := rfl
theorem sh_26 : shp 26 = (0, 8, []) := rfl
theorem iw_26 : inW 0 26 := by unfold inW; decide
theorem isA_26_ : shp 26 = (0, lenOf 26, []) := rfl
theorem sh_27 : shp 27 = (0, 8, []) := rfl
theorem iw_27 : inW 0 27 := by unfold inW; decide
theorem isA_27_ : shp 27 = (0, lenOf 27, []) := rfl
theorem sh_28 : shp 28 = (0, 7, []) := rfl
theorem iw_28 : inW 0 28 := by unfold inW; decide
theorem isA_28_ : shp 28 = (0, lenOf 28, []) := rfl
theorem sh_29 : shp 29 = (0, 24, []) := rfl
theorem iw_29 : inW 0 29 := by unfold inW; decide
theorem isA_29_ : shp 29 = (0, lenOf 29, []) := rfl
theorem sh_30 : shp 30 = (0, 24, []) := rfl
theorem iw_30 : inW 0 30 := by unfold inW; decide
theorem isA_30_ : shp 30 = (0, lenOf 30, []) := rfl
theorem sh_31 : shp 31 = (0, 24, []) := rfl
theorem iw_31 : inW 0 31 := by unfold inW; decide
theorem isA_31_ : shp 31 = (0, lenOf 31, []) := rfl
theorem sh_32 : shp 32 = (2, 1, shT 32) := rfl
theorem iw_32 : inW 0 32 := by unfold inW; decide
theorem sh_33 : shp 33 = (0, 24, []) := rfl
theorem iw_33 : inW 0 33 := by unfold inW; decide
theorem isA_33_ : shp 33 = (0, lenOf 33, []) := rfl
theorem sh_34 : shp 34 = (0, 24, []) := rfl
theorem iw_34 : inW 0 34 := by unfold inW; decide
theorem isA_34_ : shp 34 = (0, lenOf 34, []) := rfl
theorem sh_35 : shp 35 = (0, 24, []) := rfl
theorem iw_35 : inW 0 35 := by unfold inW; decide
theorem isA_35_ : shp 35 = (0, lenOf 35, []) := rfl
theorem sh_36 : shp 36 = (0, 192, []) := rfl
theorem iw_36 : inW 0 36 := by unfold inW; decide
theorem isA_36_ : shp 36 = (0, lenOf 36, []) := rfl
theorem sh_37 : shp 37 = (0, 8, []) := rfl
theorem iw_37 : inW 0 37 := by unfold inW; decide
theorem isA_37_ : shp 37 = (0, lenOf 37, []) := rfl
theorem sh_38 : shp 38 = (0, 8, []) := rfl
theorem iw_38 : inW 0 38 := by unfold inW; decide
theorem isA_38_ : shp 38 = (0, lenOf 38, []) := rfl
theorem sh_39 : shp 39 = (0, 7, []) := rfl
theorem iw_39 : inW 0 39 := by unfold inW; decide
theorem isA_39_ : shp 39 = (0, lenOf 39, []) := rfl
theorem sh_40 : shp 40 = (0, 24, []) := rfl
theorem iw_40 : inW 0 40 := by unfold inW; decide
theorem isA_40_ : shp 40 = (0, lenOf 40, []) := rfl
theorem sh_41 : shp 41 = (0, 24, []) := rfl
theorem iw_41 : inW 0 41 := by unfold inW; decide
theorem isA_41_ : shp 41 = (0, lenOf 41, []) := rfl
theorem sh_42 : shp 42 = (0, 24, []) := rfl
theorem iw_42 : inW 0 42 := by unfold inW; decide
theorem isA_42_ : shp 42 = (0, lenOf 42, []) := rfl
theorem sh_43 : shp 43 = (2, 3, [none, none, some 44, some 45, some 46, some 47, some 48, none, some 49, some 50, some 51, some 52, none, some 53, some 54, some 55, some 56, some 57, some 58, some 59, none, none, none, some 60, some 61, some 62, some 63, some 64, some 65, none]) := rfl
theorem iw_43 : inW 1 43 := by unfold inW; decide
theorem sh_44 : shp 44 = (0, 10, []) := rfl
theorem iw_44 : inW 1 44 := by unfold inW; decide
theorem isA_44_ : shp 44 = (0, lenOf 44, []) := rfl
theorem sh_45 : shp 45 = (0, 256, []) := rfl
theorem iw_45 : inW 1 45 := by unfold inW; decide
theorem isA_45_ : shp 45 = (0, lenOf 45, []) := rfl
theorem sh_46 : shp 46 = (0, 256, []) := rfl
theorem iw_46 : inW 1 46 := by unfold inW; decide
theorem isA_46_ : shp 46 = (0, lenOf 46, []) := rfl
theorem sh_47 : shp 47 = (0, 256, []) := rfl
theorem iw_47 : inW 1 47 := by unfold inW; decide
theorem isA_47_ : shp 47 = (0, lenOf 47, []) := rfl
theorem sh_48 : shp 48 = (0, 256, []) := rfl
theorem iw_48 : inW 1 48 := by unfold inW; decide
theorem isA_48_ : shp 48 = (0, lenOf 48, []) := rfl
theorem sh_49 : shp 49 = (0, 8, []) := rfl
theorem iw_49 : inW 1 49 := by unfold inW; decide
theorem isA_49_ : shp 49 = (0, lenOf 49, []) := rfl
theorem sh_50 : shp 50 = (0, 8, []) := rfl
theorem iw_50 : inW 1 50 := by unfold inW; decide
theorem isA_50_ : shp 50 = (0, lenOf 50, []) := rfl
theorem sh_51 : shp 51 = (0, 8, []) := rfl
theorem iw_51 : inW 1 51 := by unfold inW; decide
theorem isA_51_ : shp 51 = (0, lenOf 51, []) := rfl
theorem sh_52 : shp 52 = (0, 64, []) := rfl
theorem iw_52 : inW 1 52 := by unfold inW; decide
theorem isA_52_ : shp 52 = (0, lenOf 52, []) := rfl
theorem sh_53 : shp 53 = (0, 40, []) := rfl
theorem iw_53 : inW 1 53 := by unfold inW; decide
theorem isA_53_ : shp 53 = (0, lenOf 53, []) := rfl
theorem sh_54 : shp 54 = (0, 256, []) := rfl
theorem iw_54 : inW 1 54 := by unfold inW; decide
theorem isA_54_ : shp 54 = (0, lenOf 54, []) := rfl
theorem sh_55 : shp 55 = (0, 64, []) := rfl
theorem iw_55 : inW 1 55 := by unfold inW; decide
theorem isA_55_ : shp 55 = (0, lenOf 55, []) := rfl
theorem sh_56 : shp 56 = (0, 8, []) := rfl
theorem iw_56 : inW 1 56 := by unfold inW; decide
theorem isA_56_ : shp 56 = (0, lenOf 56, []) := rfl
theorem sh_57 : shp 57 = (0, 8, []) := rfl
theorem iw_57 : inW 1 57 := by unfold inW; decide
theorem isA_57_ : shp 57 = (0, lenOf 57, []) := rfl
theorem sh_58 : shp 58 = (0, 8, []) := rfl
theorem iw_58 : inW 1 58 := by unfold inW; decide
theorem isA_58_ : shp 58 = (0, lenOf 58, []) := rfl
theorem sh_59 : shp 59 = (0, 256, []) := rfl
theorem iw_59 : inW 1 59 := by unfold inW; decide
theorem isA_59_ : shp 59 = (0, lenOf 59, []) := rfl
theorem sh_60 : shp 60 = (0, 8, []) := rfl
theorem iw_60 : inW 1 60 := by unfold inW; decide
theorem isA_60_ : shp 60 = (0, lenOf 60, []) := rfl
theorem sh_61 : shp 61 = (1, 4, []) := rfl
theorem iw_61 : inW 1 61 := by unfold inW; decide
theorem sh_62 : shp 62 = (0, 4, []) := rfl
theorem iw_62 : inW 1 62 := by unfold inW; decide
theorem isA_62_ : shp 62 = (0, lenOf 62, []) := rfl
theorem sh_63 : shp 63 = (0, 4, []) := rfl
theorem iw_63 : inW 1 63 := by unfold inW; decide
theorem isA_63_ : shp 63 = (0, lenOf 63, []) := rfl
theorem sh_64 : shp 64 = (0, 240, []) := rfl
theorem iw_64 : inW 1 64 := by unfold inW; decide
theorem isA_64_ : shp 64 = (0, lenOf 64, []) := rfl
theorem sh_65 : shp 65 = (0, 60, []) := rfl
theorem iw_65 : inW 1 65 := by unfold inW; decide
theorem isA_65_ : shp 65 = (0, lenOf 65, []) := rfl
def isT (t : Nat) : Prop := t = 10 ∨ t = 21 ∨ t = 32
def isA (a : Nat) : Prop := inW 0 a ∧ shp a = (0, lenOf a, [])
theorem isT_10 : isT 10 := by unfold isT; decide
theorem isT_21 : isT 21 := by unfold isT; decide
theorem isT_32 : isT 32 := by unfold isT; decide
theorem isA_3 : isA 3 := ⟨iw_3, isA_3_⟩
theorem isA_4 : isA 4 := ⟨iw_4, isA_4_⟩
theorem isA_5 : isA 5 := ⟨iw_5, isA_5_⟩
theorem shTt {t : Nat} (h : isT t) : shp t = (2, 1, shT t) := by rcases h with rfl | rfl | rfl <;> rfl
theorem iwT {t : Nat} (h : isT t) : inW 0 t := by unfold inW; rcases h with rfl | rfl | rfl <;> decide
theorem shA1 {t : Nat} (h : isT t) : shp (t + 1) = (0, 24, []) := by rcases h with rfl | rfl | rfl <;> rfl
theorem iwA1 {t : Nat} (h : isT t) : inW 0 (t + 1) := by unfold inW; rcases h with rfl | rfl | rfl <;> decide
theorem isA1 {t : Nat} (h : isT t) : isA (t + 1) := ⟨iwA1 h, by rcases h with rfl | rfl | rfl <;> rfl⟩
theorem shA2 {t : Nat} (h : isT t) : shp (t + 2) = (0, 24, []) := by rcases h with rfl | rfl | rfl <;> rfl
theorem iwA2 {t : Nat} (h : isT t) : inW 0 (t + 2) := by unfold inW; rcases h with rfl | rfl | rfl <;> decide
theorem isA2 {t : Nat} (h : isT t) : isA (t + 2) := ⟨iwA2 h, by rcases h with rfl | rfl | rfl <;> rfl⟩
theorem shA3 {t : Nat} (h : isT t) : shp (t + 3) = (0, 24, []) := by rcases h with rfl | rfl | rfl <;> rfl
theorem iwA3 {t : Nat} (h : isT t) : inW 0 (t + 3) := by unfold inW; rcases h with rfl | rfl | rfl <;> decide
theorem isA3 {t : Nat} (h : isT t) : isA (t + 3) := ⟨iwA3 h, by rcases h with rfl | rfl | rfl <;> rfl⟩
theorem shA4 {t : Nat} (h : isT t) : shp (t + 4) = (0, 192, []) := by rcases h with rfl | rfl | rfl <;> rfl
theorem iwA4 {t : Nat} (h : isT t) : inW 0 (t + 4) := by unfold inW; rcases h with rfl | rfl | rfl <;> decide
theorem isA4 {t : Nat} (h : isT t) : isA (t + 4) := ⟨iwA4 h, by rcases h with rfl | rfl | rfl <;> rfl⟩
theorem shA5 {t : Nat} (h : isT t) : shp (t + 5) = (0, 8, []) := by rcases h with rfl | rfl | rfl <;> rfl
theorem iwA5 {t : Nat} (h : isT t) : inW 0 (t + 5) := by unfold inW; rcases h with rfl | rfl | rfl <;> decide
theorem isA5 {t : Nat} (h : isT t) : isA (t + 5) := ⟨iwA5 h, by rcases h with rfl | rfl | rfl <;> rfl⟩
theorem shA6 {t : Nat} (h : isT t) : shp (t + 6) = (0, 8, []) := by rcases h with rfl | rfl | rfl <;> rfl
theorem iwA6 {t : Nat} (h : isT t) : inW 0 (t + 6) := by unfold inW; rcases h with rfl | rfl | rfl <;> decide
theorem isA6 {t : Nat} (h : isT t) : isA (t + 6) := ⟨iwA6 h, by rcases h with rfl | rfl | rfl <;> rfl⟩
theorem shA7 {t : Nat} (h : isT t) : shp (t + 7) = (0, 7, []) := by rcases h with rfl | rfl | rfl <;> rfl
theorem iwA7 {t : Nat} (h : isT t) : inW 0 (t + 7) := by unfold inW; rcases h with rfl | rfl | rfl <;> decide
theorem isA7 {t : Nat} (h : isT t) : isA (t + 7) := ⟨iwA7 h, by rcases h with rfl | rfl | rfl <;> rfl⟩
theorem shA8 {t : Nat} (h : isT t) : shp (t + 8) = (0, 24, []) := by rcases h with rfl | rfl | rfl <;> rfl
theorem iwA8 {t : Nat} (h : isT t) : inW 0 (t + 8) := by unfold inW; rcases h with rfl | rfl | rfl <;> decide
theorem isA8 {t : Nat} (h : isT t) : isA (t + 8) := ⟨iwA8 h, by rcases h with rfl | rfl | rfl <;> rfl⟩
theorem shA9 {t : Nat} (h : isT t) : shp (t + 9) = (0, 24, []) := by rcases h with rfl | rfl | rfl <;> rfl
theorem iwA9 {t : Nat} (h : isT t) : inW 0 (t + 9) := by unfold inW; rcases h with rfl | rfl | rfl <;> decide
theorem isA9 {t : Nat} (h : isT t) : isA (t + 9) := ⟨iwA9 h, by rcases h with rfl | rfl | rfl <;> rfl⟩
theorem shA10 {t : Nat} (h : isT t) : shp (t + 10) = (0, 24, []) := by rcases h with rfl | rfl | rfl <;> rfl
theorem iwA10 {t : Nat} (h : isT t) : inW 0 (t + 10) := by unfold inW; rcases h with rfl | rfl | rfl <;> decide
theorem isA10 {t : Nat} (h : isT t) : isA (t + 10) := ⟨iwA10 h, by rcases h with rfl | rfl | rfl <;> rfl⟩
theorem ltex {α β : Type} {e : α} {f : α → β} {z : β} (h : lt e f = z) : ∃ a, e = a ∧ f a = z := ⟨e, rfl, h⟩
theorem lt2 {A0 A1 β : Type} {f : A0 → A1 → β} {a0 : A0} {a1 : A1} {z : β} (h : (fun q : A0 × A1 => lt q.1 (fun y0 => lt q.2 (fun y1 => f y0 y1))) (a0, a1) = z) : f a0 a1 = z := h
theorem lt3 {A0 A1 A2 β : Type} {f : A0 → A1 → A2 → β} {a0 : A0} {a1 : A1} {a2 : A2} {z : β} (h : (fun q : A0 × A1 × A2 => lt q.1 (fun y0 => lt q.2.1 (fun y1 => lt q.2.2 (fun y2 => f y0 y1 y2)))) (a0, a1, a2) = z) : f a0 a1 a2 = z := h
theorem lt4 {A0 A1 A2 A3 β : Type} {f : A0 → A1 → A2 → A3 → β} {a0 : A0} {a1 : A1} {a2 : A2} {a3 : A3} {z : β} (h : (fun q : A0 × A1 × A2 × A3 => lt q.1 (fun y0 => lt q.2.1 (fun y1 => lt q.2.2.1 (fun y2 => lt q.2.2.2 (fun y3 => f y0 y1 y2 y3))))) (a0, a1, a2, a3) = z) : f a0 a1 a2 a3 = z := h
theorem lt5 {A0 A1 A2 A3 A4 β : Type} {f : A0 → A1 → A2 → A3 → A4 → β} {a0 : A0} {a1 : A1} {a2 : A2} {a3 : A3} {a4 : A4} {z : β} (h : (fun q : A0 × A1 × A2 × A3 × A4 => lt q.1 (fun y0 => lt q.2.1 (fun y1 => lt q.2.2.1 (fun y2 => lt q.2.2.2.1 (fun y3 => lt q.2.2.2.2 (fun y4 => f y0 y1 y2 y3 y4)))))) (a0, a1, a2, a3, a4) = z) : f a0 a1 a2 a3 a4 = z := h
theorem lt6 {A0 A1 A2 A3 A4 A5 β : Type} {f : A0 → A1 → A2 → A3 → A4 → A5 → β} {a0 : A0} {a1 : A1} {a2 : A2} {a3 : A3} {a4 : A4} {a5 : A5} {z : β} (h : (fun q : A0 × A1 × A2 × A3 × A4 × A5 => lt q.1 (fun y0 => lt q.2.1 (fun y1 => lt q.2.2.1 (fun y2 => lt q.2.2.2.1 (fun y3 => lt q.2.2.2.2.1 (fun y4 => lt q.2.2.2.2.2 (fun y5 => f y0 y1 y2 y3 y4 y5))))))) (a0, a1, a2, a3, a4, a5) = z) : f a0 a1 a2 a3 a4 a5 = z := h
theorem lt7 {A0 A1 A2 A3 A4 A5 A6 β : Type} {f : A0 → A1 → A2 → A3 → A4 → A5 → A6 → β} {a0 : A0} {a1 : A1} {a2 : A2} {a3 : A3} {a4 : A4} {a5 : A5} {a6 : A6} {z : β} (h : (fun q : A0 × A1 × A2 × A3 × A4 × A5 × A6 => lt q.1 (fun y0 => lt q.2.1 (fun y1 => lt q.2.2.1 (fun y2 => lt q.2.2.2.1 (fun y3 => lt q.2.2.2.2.1 (fun y4 => lt q.2.2.2.2.2.1 (fun y5 => lt q.2.2.2.2.2.2 (fun y6 => f y0 y1 y2 y3 y4 y5 y6)))))))) (a0, a1, a2, a3, a4, a5, a6) = z) : f a0 a1 a2 a3 a4 a5 a6 = z := h
theorem lt8 {A0 A1 A2 A3 A4 A5 A6 A7 β : Type} {f : A0 → A1 → A2 → A3 → A4 → A5 → A6 → A7 → β} {a0 : A0} {a1 : A1} {a2 : A2} {a3 : A3} {a4 : A4} {a5 : A5} {a6 : A6} {a7 : A7} {z : β} (h : (fun q : A0 × A1 × A2 × A3 × A4 × A5 × A6 × A7 => lt q.1 (fun y0 => lt q.2.1 (fun y1 => lt q.2.2.1 (fun y2 => lt q.2.2.2.1 (fun y3 => lt q.2.2.2.2.1 (fun y4 => lt q.2.2.2.2.2.1 (fun y5 => lt q.2.2.2.2.2.2.1 (fun y6 => lt q.2.2.2.2.2.2.2 (fun y7 => f y0 y1 y2 y3 y4 y5 y6 y7))))))))) (a0, a1, a2, a3, a4, a5, a6, a7) = z) : f a0 a1 a2 a3 a4 a5 a6 a7 = z := h
theorem sw_out9 {x : Int32} (h0 : ¬ x = 0) (h1 : ¬ x = 1) (h2 : ¬ x = 2) (h3 : ¬ x = 3) (h4 : ¬ x = 4) (h5 : ¬ x = 5) (h6 : ¬ x = 6) (h7 : ¬ x = 7) (h8 : ¬ x = 8) : x.toInt < 0 ∨ 8 < x.toInt := by
  by_cases c : x.toInt < 0
  · exact Or.inl c
  · right
    apply Int.not_le.mp
    intro c2
    have hx : x = Int32.ofInt x.toInt := (Int32.ofInt_toInt x).symm
    have : x.toInt = 0 ∨ x.toInt = 1 ∨ x.toInt = 2 ∨ x.toInt = 3 ∨ x.toInt = 4 ∨ x.toInt = 5 ∨ x.toInt = 6 ∨ x.toInt = 7 ∨ x.toInt = 8 := by omega
    rcases this with h | h | h | h | h | h | h | h | h <;> rw [h] at hx <;> first | exact h0 hx | exact h1 hx | exact h2 hx | exact h3 hx | exact h4 hx | exact h5 hx | exact h6 hx | exact h7 hx | exact h8 hx
theorem g_iushr {X : Cx} {Y : Wx} {w : Nat} {cc : ByteArray} {nL : Nat} {own : String} {lvl : Nat} {σ : Mem} {lv : List (Nat × Value)} {pc : Nat} {st : List Value} (hX : Fx X Y w cc nL own lvl) {x y : Int32} (hd : decode cc pc = .ok (.iushr, 1)) (k : Gd X Y w σ lv (pc + 1) (.int ((x.toUInt32 >>> (y.toUInt32 &&& Int32.toUInt32 31)).toInt32) :: st)) : Gd X Y w σ lv pc (.int y :: .int x :: st) := by
  obtain ⟨p, l, e, R, s, m, args, below, meth, c, Q⟩ := X
  intro H locs ls hP hS hl
  exact lv_iushr hX.1 hX.2.1 hd rfl (k H locs ls hP hS hl)
theorem fl_M_7 : FIok R_M 7 3 0 := ⟨R_M, F_M, 30, ty_M, rfl, by decide, lw_M, q_443, ty_M_ok, n_M, rfl, rfl⟩
theorem fl_M_13 : FLok R_M 13 3 2 := ⟨R_M, F_M, 30, ty_M, rfl, by decide, lw_M, q_445, ty_M_ok, n_M⟩
theorem fl_M_17 : FLok R_M 17 3 3 := ⟨R_M, F_M, 30, ty_M, rfl, by decide, lw_M, q_446, ty_M_ok, n_M⟩
theorem fl_M_20 : FLok R_M 20 3 4 := ⟨R_M, F_M, 30, ty_M, rfl, by decide, lw_M, q_447, ty_M_ok, n_M⟩
theorem fl_M_23 : FLok R_M 23 3 5 := ⟨R_M, F_M, 30, ty_M, rfl, by decide, lw_M, q_448, ty_M_ok, n_M⟩
theorem fl_M_26 : FLok R_M 26 3 6 := ⟨R_M, F_M, 30, ty_M, rfl, by decide, lw_M, q_449, ty_M_ok, n_M⟩
theorem fl_M_29 : FLok R_M 29 3 8 := ⟨R_M, F_M, 30, ty_M, rfl, by decide, lw_M, q_451, ty_M_ok, n_M⟩
theorem fl_M_32 : FLok R_M 32 3 9 := ⟨R_M, F_M, 30, ty_M, rfl, by decide, lw_M, q_452, ty_M_ok, n_M⟩
theorem fl_M_35 : FLok R_M 35 3 10 := ⟨R_M, F_M, 30, ty_M, rfl, by decide, lw_M, q_453, ty_M_ok, n_M⟩
theorem fl_M_38 : FLok R_M 38 3 11 := ⟨R_M, F_M, 30, ty_M, rfl, by decide, lw_M, q_454, ty_M_ok, n_M⟩
theorem fl_M_41 : FLok R_M 41 3 13 := ⟨R_M, F_M, 30, ty_M, rfl, by decide, lw_M, q_456, ty_M_ok, n_M⟩
theorem fl_M_44 : FLok R_M 44 3 14 := ⟨R_M, F_M, 30, ty_M, rfl, by decide, lw_M, q_457, ty_M_ok, n_M⟩
theorem fl_M_47 : FLok R_M 47 3 15 := ⟨R_M, F_M, 30, ty_M, rfl, by decide, lw_M, q_458, ty_M_ok, n_M⟩
theorem fl_M_50 : FLok R_M 50 3 16 := ⟨R_M, F_M, 30, ty_M, rfl, by decide, lw_M, q_459, ty_M_ok, n_M⟩
theorem fl_M_53 : FLok R_M 53 3 17 := ⟨R_M, F_M, 30, ty_M, rfl, by decide, lw_M, q_460, ty_M_ok, n_M⟩
theorem fl_M_56 : FLok R_M 56 3 18 := ⟨R_M, F_M, 30, ty_M, rfl, by decide, lw_M, q_461, ty_M_ok, n_M⟩
theorem fl_M_59 : FLok R_M 59 3 19 := ⟨R_M, F_M, 30, ty_M, rfl, by decide, lw_M, q_462, ty_M_ok, n_M⟩
theorem fl_M_62 : FLok R_M 62 3 23 := ⟨R_M, F_M, 30, ty_M, rfl, by decide, lw_M, q_466, ty_M_ok, n_M⟩
theorem fl_M_65 : FLok R_M 65 3 24 := ⟨R_M, F_M, 30, ty_M, rfl, by decide, lw_M, q_467, ty_M_ok, n_M⟩
theorem fl_M_69 : FLok R_M 69 3 25 := ⟨R_M, F_M, 30, ty_M, rfl, by decide, lw_M, q_468, ty_M_ok, n_M⟩
theorem fl_M_72 : FLok R_M 72 3 26 := ⟨R_M, F_M, 30, ty_M, rfl, by decide, lw_M, q_469, ty_M_ok, n_M⟩
theorem fl_M_75 : FLok R_M 75 3 27 := ⟨R_M, F_M, 30, ty_M, rfl, by decide, lw_M, q_470, ty_M_ok, n_M⟩
theorem fl_M_78 : FLok R_M 78 3 28 := ⟨R_M, F_M, 30, ty_M, rfl, by decide, lw_M, q_471, ty_M_ok, n_M⟩
theorem fl_M_93 : FIok R_M 93 3 1 := ⟨R_M, F_M, 30, ty_M, rfl, by decide, lw_M, q_444, ty_M_ok, n_M, rfl, rfl⟩
theorem fl_M_156 : FIok R_M 156 3 7 := ⟨R_M, F_M, 30, ty_M, rfl, by decide, lw_M, q_450, ty_M_ok, n_M, rfl, rfl⟩
theorem fl_M_159 : FIok R_M 159 3 12 := ⟨R_M, F_M, 30, ty_M, rfl, by decide, lw_M, q_455, ty_M_ok, n_M, rfl, rfl⟩
theorem fl_M_205 : FIok R_M 205 3 20 := ⟨R_M, F_M, 30, ty_M, rfl, by decide, lw_M, q_463, ty_M_ok, n_M, rfl, rfl⟩
theorem fl_M_208 : FIok R_M 208 3 21 := ⟨R_M, F_M, 30, ty_M, rfl, by decide, lw_M, q_464, ty_M_ok, n_M, rfl, rfl⟩
theorem fl_M_223 : FIok R_M 223 3 22 := ⟨R_M, F_M, 30, ty_M, rfl, by decide, lw_M, q_465, ty_M_ok, n_M, rfl, rfl⟩
theorem fl_M_248 : FIok R_M 248 3 29 := ⟨R_M, F_M, 30, ty_M, rfl, by decide, lw_M, q_472, ty_M_ok, n_M, rfl, rfl⟩
theorem fl_O_9 : FIok R_O 9 2 0 := ⟨R_O, F_O, 15, ty_O, rfl, by decide, lw_O, q_145, ty_O_ok, n_O, rfl, rfl⟩
theorem fl_O_13 : FLok R_O 13 2 1 := ⟨R_O, F_O, 15, ty_O, rfl, by decide, lw_O, q_146, ty_O_ok, n_O⟩
theorem fl_O_17 : FIok R_O 17 2 2 := ⟨R_O, F_O, 15, ty_O, rfl, by decide, lw_O, q_147, ty_O_ok, n_O, rfl, rfl⟩
theorem fl_O_20 : FIok R_O 20 2 3 := ⟨R_O, F_O, 15, ty_O, rfl, by decide, lw_O, q_148, ty_O_ok, n_O, rfl, rfl⟩
theorem fl_O_23 : FLok R_O 23 2 4 := ⟨R_O, F_O, 15, ty_O, rfl, by decide, lw_O, q_149, ty_O_ok, n_O⟩
theorem fl_O_26 : FIok R_O 26 2 5 := ⟨R_O, F_O, 15, ty_O, rfl, by decide, lw_O, q_150, ty_O_ok, n_O, rfl, rfl⟩
theorem fl_O_29 : FIok R_O 29 2 6 := ⟨R_O, F_O, 15, ty_O, rfl, by decide, lw_O, q_151, ty_O_ok, n_O, rfl, rfl⟩
theorem fl_O_35 : FLok R_O 35 2 7 := ⟨R_O, F_O, 15, ty_O, rfl, by decide, lw_O, q_152, ty_O_ok, n_O⟩
theorem fl_O_42 : FLok R_O 42 2 8 := ⟨R_O, F_O, 15, ty_O, rfl, by decide, lw_O, q_153, ty_O_ok, n_O⟩
theorem fl_O_46 : FLok R_O 46 2 9 := ⟨R_O, F_O, 15, ty_O, rfl, by decide, lw_O, q_154, ty_O_ok, n_O⟩
theorem fl_O_49 : FIok R_O 49 2 10 := ⟨R_O, F_O, 15, ty_O, rfl, by decide, lw_O, q_155, ty_O_ok, n_O, rfl, rfl⟩
theorem fl_O_52 : FLok R_O 52 2 11 := ⟨R_O, F_O, 15, ty_O, rfl, by decide, lw_O, q_156, ty_O_ok, n_O⟩
theorem fl_O_55 : FLok R_O 55 2 12 := ⟨R_O, F_O, 15, ty_O, rfl, by decide, lw_O, q_157, ty_O_ok, n_O⟩
theorem fl_O_58 : FLok R_O 58 2 13 := ⟨R_O, F_O, 15, ty_O, rfl, by decide, lw_O, q_158, ty_O_ok, n_O⟩
theorem fl_O_61 : FLok R_O 61 2 14 := ⟨R_O, F_O, 15, ty_O, rfl, by decide, lw_O, q_159, ty_O_ok, n_O⟩
theorem fl_S_9 : FLok R_S 9 0 0 := ⟨R_S, F_S, 3, ty_S, rfl, by decide, lw_S, q_20, ty_S_ok, n_S⟩
theorem fl_S_13 : FLok R_S 13 0 1 := ⟨R_S, F_S, 3, ty_S, rfl, by decide, lw_S, q_21, ty_S_ok, n_S⟩
theorem fl_S_16 : FLok R_S 16 0 2 := ⟨R_S, F_S, 3, ty_S, rfl, by decide, lw_S, q_22, ty_S_ok, n_S⟩
theorem fl_T_11 : FLok R_T 11 1 0 := ⟨R_T, F_T, 15, ty_T, rfl, by decide, lw_T, q_30, ty_T_ok, n_T⟩
theorem fl_T_15 : FLok R_T 15 1 1 := ⟨R_T, F_T, 15, ty_T, rfl, by decide, lw_T, q_31, ty_T_ok, n_T⟩
theorem fl_T_18 : FLok R_T 18 1 2 := ⟨R_T, F_T, 15, ty_T, rfl, by decide, lw_T, q_32, ty_T_ok, n_T⟩
theorem fl_T_21 : FLok R_T 21 1 3 := ⟨R_T, F_T, 15, ty_T, rfl, by decide, lw_T, q_33, ty_T_ok, n_T⟩
theorem fl_T_24 : FIok R_T 24 1 4 := ⟨R_T, F_T, 15, ty_T, rfl, by decide, lw_T, q_34, ty_T_ok, n_T, rfl, rfl⟩
theorem fl_T_28 : FIok R_T 28 1 5 := ⟨R_T, F_T, 15, ty_T, rfl, by decide, lw_T, q_35, ty_T_ok, n_T, rfl, rfl⟩
theorem fl_T_31 : FLok R_T 31 1 6 := ⟨R_T, F_T, 15, ty_T, rfl, by decide, lw_T, q_36, ty_T_ok, n_T⟩
theorem fl_T_34 : FIok R_T 34 1 7 := ⟨R_T, F_T, 15, ty_T, rfl, by decide, lw_T, q_37, ty_T_ok, n_T, rfl, rfl⟩
theorem fl_T_37 : FLok R_T 37 1 8 := ⟨R_T, F_T, 15, ty_T, rfl, by decide, lw_T, q_38, ty_T_ok, n_T⟩
theorem fl_T_40 : FIok R_T 40 1 9 := ⟨R_T, F_T, 15, ty_T, rfl, by decide, lw_T, q_39, ty_T_ok, n_T, rfl, rfl⟩
theorem fl_T_43 : FLok R_T 43 1 10 := ⟨R_T, F_T, 15, ty_T, rfl, by decide, lw_T, q_40, ty_T_ok, n_T⟩
theorem fl_T_46 : FIok R_T 46 1 11 := ⟨R_T, F_T, 15, ty_T, rfl, by decide, lw_T, q_41, ty_T_ok, n_T, rfl, rfl⟩
theorem fl_T_49 : FLok R_T 49 1 12 := ⟨R_T, F_T, 15, ty_T, rfl, by decide, lw_T, q_42, ty_T_ok, n_T⟩
theorem fl_T_52 : FLok R_T 52 1 13 := ⟨R_T, F_T, 15, ty_T, rfl, by decide, lw_T, q_43, ty_T_ok, n_T⟩
theorem fl_T_55 : FLok R_T 55 1 14 := ⟨R_T, F_T, 15, ty_T, rfl, by decide, lw_T, q_44, ty_T_ok, n_T⟩
theorem mv_M_81 : MSok R_M 81 y_M_isIn b_M_isIn 2 (some .boolean) 2 := ⟨q_491, q_492, q_5, q_493, by decide +kernel, by decide⟩
theorem mv_M_85 : MSok R_M 85 y_M_in b_M_in 3 (some .boolean) 3 := ⟨q_478, q_479, q_5, q_480, by decide +kernel, by decide⟩
theorem mv_M_89 : MSok R_M 89 y_M_many b_M_many 3 (some .int) 1 := ⟨q_488, q_489, q_5, q_490, by decide +kernel, by decide⟩
theorem mv_M_96 : MVok R_M 96 R_M y_M_takenNow b_M_takenNow 3 (some .int) 0 := ⟨q_494, q_495, q_792, q_5, q_496, by decide +kernel, by decide⟩
theorem mv_M_100 : MVok R_M 100 R_M y_M_adds b_M_adds 2 (some .int) 1 := ⟨q_485, q_486, q_791, q_5, q_487, by decide +kernel, by decide⟩
theorem mv_M_103 : MSok R_M 103 y_M_isSheet b_M_isSheet 1 (some .boolean) 1 := ⟨q_514, q_515, q_5, q_516, by decide +kernel, by decide⟩
theorem mv_M_107 : MVok R_M 107 R_M y_M_meets b_M_meets 2 (some .int) 1 := ⟨q_517, q_518, q_796, q_5, q_519, by decide +kernel, by decide⟩
theorem mv_M_110 : MVok R_M 110 R_M y_M_all b_M_all 1 (some .int) 0 := ⟨q_500, q_501, q_794, q_5, q_502, by decide +kernel, by decide⟩
theorem mv_M_113 : MVok R_M 113 R_M y_M_nexts b_M_nexts 9 (some .int) 3 := ⟨q_503, q_504, q_795, q_5, q_505, by decide +kernel, by decide⟩
theorem mv_M_117 : MVok R_M 117 R_M y_M_rowsBy b_M_rowsBy 6 (some .int) 2 := ⟨q_497, q_498, q_793, q_5, q_499, by decide +kernel, by decide⟩
theorem mv_M_121 : MVok R_M 121 R_M y_M_isGroup b_M_isGroup 2 (some .boolean) 1 := ⟨q_524, q_525, q_797, q_5, q_526, by decide +kernel, by decide⟩
theorem mv_M_124 : MVok R_M 124 R_M y_M_reasonOf b_M_reasonOf 6 (some .int) 1 := ⟨q_531, q_532, q_798, q_5, q_533, by decide +kernel, by decide⟩
theorem mv_M_127 : MVok R_M 127 R_M y_M_manyNow b_M_manyNow 1 (some .int) 0 := ⟨q_538, q_539, q_799, q_5, q_540, by decide +kernel, by decide⟩
theorem mv_M_130 : MVok R_M 130 R_M y_M_findsGo b_M_findsGo 5 none 0 := ⟨q_554, q_555, q_803, q_5, q_556, by decide +kernel, by decide⟩
theorem mv_M_133 : MVok R_M 133 R_M y_M_isSure b_M_isSure 4 (some .boolean) 1 := ⟨q_557, q_558, q_804, q_5, q_559, by decide +kernel, by decide⟩
theorem mv_M_136 : MSok R_M 136 y_M_areCrossing b_M_areCrossing 2 (some .boolean) 2 := ⟨q_560, q_561, q_5, q_562, by decide +kernel, by decide⟩
theorem mv_M_139 : MVok R_M 139 R_M y_M_partWith b_M_partWith 6 (some .int) 2 := ⟨q_572, q_573, q_807, q_5, q_574, by decide +kernel, by decide⟩
theorem mv_M_142 : MSok R_M 142 y_M_least b_M_least 2 (some .int) 1 := ⟨q_566, q_567, q_5, q_568, by decide +kernel, by decide⟩
theorem mv_M_145 : MVok R_M 145 R_M y_M_turnsRight b_M_turnsRight 8 none 1 := ⟨q_575, q_576, q_808, q_5, q_577, by decide +kernel, by decide⟩
theorem mv_M_149 : MVok R_M 149 R_M y_M_areBeside b_M_areBeside 3 (some .boolean) 2 := ⟨q_578, q_579, q_809, q_5, q_580, by decide +kernel, by decide⟩
theorem mv_M_152 : MVok R_M 152 R_M y_M_swaps b_M_swaps 4 none 2 := ⟨q_581, q_582, q_810, q_5, q_583, by decide +kernel, by decide⟩
theorem mv_M_162 : MVok R_M 162 R_M y_M_findsStrong b_M_findsStrong 4 none 0 := ⟨q_551, q_552, q_802, q_5, q_553, by decide +kernel, by decide⟩
theorem mv_M_165 : MVok R_M 165 R_M y_M_shows b_M_shows 2 none 1 := ⟨q_563, q_564, q_805, q_5, q_565, by decide +kernel, by decide⟩
theorem mv_M_168 : MVok R_M 168 R_M y_M_findsParts b_M_findsParts 6 none 1 := ⟨q_569, q_570, q_806, q_5, q_571, by decide +kernel, by decide⟩
theorem mv_M_171 : MVok R_M 171 R_M y_M_findsTree b_M_findsTree 5 none 0 := ⟨q_548, q_549, q_801, q_5, q_550, by decide +kernel, by decide⟩
theorem mv_M_174 : MVok R_M 174 R_M y_M_treeOf b_M_treeOf 2 (some .int) 1 := ⟨q_545, q_546, q_800, q_5, q_547, by decide +kernel, by decide⟩
theorem mv_M_177 : MVok R_M 177 R_M y_M_nodeFor b_M_nodeFor 3 (some .int) 2 := ⟨q_588, q_589, q_811, q_5, q_590, by decide +kernel, by decide⟩
theorem mv_M_180 : MSok R_M 180 y_M_factorial b_M_factorial 3 (some .int) 1 := ⟨q_605, q_606, q_5, q_607, by decide +kernel, by decide⟩
theorem mv_M_183 : MVok R_M 183 R_M y_M_waysAt b_M_waysAt 2 (some .int) 1 := ⟨q_602, q_603, q_814, q_5, q_604, by decide +kernel, by decide⟩
theorem mv_M_186 : MVok R_M 186 R_M y_M_nodeOf b_M_nodeOf 4 (some .int) 1 := ⟨q_608, q_609, q_815, q_5, q_610, by decide +kernel, by decide⟩
theorem mv_M_189 : MVok R_M 189 R_M y_M_orders b_M_orders 9 none 1 := ⟨q_611, q_612, q_816, q_5, q_613, by decide +kernel, by decide⟩
theorem mv_M_192 : MVok R_M 192 R_M y_M_findsRow b_M_findsRow 8 none 1 := ⟨q_599, q_600, q_813, q_5, q_601, by decide +kernel, by decide⟩
theorem mv_M_196 : MVok R_M 196 R_M y_M_rowOf b_M_rowOf 3 (some .int) 2 := ⟨q_596, q_597, q_812, q_5, q_598, by decide +kernel, by decide⟩
theorem mv_M_199 : MVok R_M 199 R_M y_M_isSet b_M_isSet 2 (some .boolean) 1 := ⟨q_618, q_619, q_817, q_5, q_620, by decide +kernel, by decide⟩
theorem mv_M_202 : MVok R_M 202 R_M y_M_mustOf b_M_mustOf 4 (some .int) 1 := ⟨q_625, q_626, q_818, q_5, q_627, by decide +kernel, by decide⟩
theorem mv_M_211 : MVok R_M 211 R_M y_M_spansFrom b_M_spansFrom 7 none 2 := ⟨q_638, q_639, q_821, q_5, q_640, by decide +kernel, by decide⟩
theorem mv_M_214 : MVok R_M 214 R_M y_M_isThing b_M_isThing 2 (some .boolean) 1 := ⟨q_632, q_633, q_819, q_5, q_634, by decide +kernel, by decide⟩
theorem mv_M_217 : MVok R_M 217 R_M y_M_apartOf b_M_apartOf 4 (some .int) 3 := ⟨q_635, q_636, q_820, q_5, q_637, by decide +kernel, by decide⟩
theorem mv_M_220 : MVok R_M 220 R_M y_M_spareOf b_M_spareOf 5 (some .int) 0 := ⟨q_645, q_646, q_822, q_5, q_647, by decide +kernel, by decide⟩
theorem mv_M_226 : MVok R_M 226 R_M y_M_faultOf b_M_faultOf 4 (some .int) 0 := ⟨q_664, q_665, q_823, q_5, q_666, by decide +kernel, by decide⟩
theorem mv_M_229 : MVok R_M 229 R_M y_M_isHad b_M_isHad 7 (some .boolean) 1 := ⟨q_677, q_678, q_826, q_5, q_679, by decide +kernel, by decide⟩
theorem mv_M_232 : MVok R_M 232 R_M y_M_isRow b_M_isRow 1 (some .boolean) 0 := ⟨q_671, q_672, q_824, q_5, q_673, by decide +kernel, by decide⟩
theorem mv_M_236 : MVok R_M 236 R_M y_M_missesOf b_M_missesOf 3 (some .int) 0 := ⟨q_674, q_675, q_825, q_5, q_676, by decide +kernel, by decide⟩
theorem mv_M_239 : MVok R_M 239 R_M y_M_placeOf b_M_placeOf 3 (some .int) 1 := ⟨q_690, q_691, q_829, q_5, q_692, by decide +kernel, by decide⟩
theorem mv_M_242 : MVok R_M 242 R_M y_M_wayTold b_M_wayTold 10 (some .int) 1 := ⟨q_687, q_688, q_828, q_5, q_689, by decide +kernel, by decide⟩
theorem mv_M_245 : MVok R_M 245 R_M y_M_numberOf b_M_numberOf 3 (some .int) 0 := ⟨q_684, q_685, q_827, q_5, q_686, by decide +kernel, by decide⟩
theorem mv_M_251 : MVok R_M 251 R_M y_M_lacks b_M_lacks 4 (some .int) 3 := ⟨q_705, q_706, q_830, q_5, q_707, by decide +kernel, by decide⟩
theorem mv_M_254 : MVok R_M 254 R_M y_M_keep b_M_keep 4 none 3 := ⟨q_708, q_709, q_831, q_5, q_710, by decide +kernel, by decide⟩
theorem mv_M_259 : MVok R_M 259 R_M y_M_takenMany b_M_takenMany 4 (some .int) 0 := ⟨q_728, q_729, q_832, q_5, q_730, by decide +kernel, by decide⟩
theorem mv_M_262 : MVok R_M 262 R_M y_M_nodesOf b_M_nodesOf 4 (some .int) 1 := ⟨q_731, q_732, q_833, q_5, q_733, by decide +kernel, by decide⟩
theorem mv_M_268 : MVok R_M 268 R_M y_M_may b_M_may 2 (some .int) 1 := ⟨q_749, q_615, q_616, q_5, q_617, by decide +kernel, by decide⟩
theorem mv_M_271 : MVok R_M 271 R_M y_M_must b_M_must 2 (some .int) 1 := ⟨q_750, q_622, q_623, q_5, q_624, by decide +kernel, by decide⟩
theorem mv_M_276 : MVok R_M 276 R_M y_M_count b_M_count 2 (some .int) 1 := ⟨q_740, q_725, q_726, q_5, q_727, by decide +kernel, by decide⟩
theorem mv_M_279 : MVok R_M 279 R_M y_M_taken b_M_taken 2 (some .int) 1 := ⟨q_741, q_521, q_522, q_5, q_523, by decide +kernel, by decide⟩
theorem mv_M_282 : MVok R_M 282 R_M y_M_reason b_M_reason 2 (some .int) 1 := ⟨q_742, q_528, q_529, q_5, q_530, by decide +kernel, by decide⟩
theorem mv_M_285 : MVok R_M 285 R_M y_M_rowDigest b_M_rowDigest 7 (some .long) 2 := ⟨q_743, q_744, q_834, q_5, q_745, by decide +kernel, by decide⟩
theorem mv_M_289 : MVok R_M 289 R_M y_M_setDigest b_M_setDigest 6 (some .long) 2 := ⟨q_746, q_747, q_835, q_5, q_748, by decide +kernel, by decide⟩
theorem mv_M_292 : MVok R_M 292 R_M y_M_apart b_M_apart 4 (some .int) 3 := ⟨q_751, q_629, q_630, q_5, q_631, by decide +kernel, by decide⟩
theorem mv_M_295 : MVok R_M 295 R_M y_M_misses b_M_misses 1 (some .int) 0 := ⟨q_752, q_668, q_669, q_5, q_670, by decide +kernel, by decide⟩
theorem mv_M_298 : MVok R_M 298 R_M y_M_number b_M_number 1 (some .int) 0 := ⟨q_753, q_681, q_682, q_5, q_683, by decide +kernel, by decide⟩
theorem mv_O_64 : MVok R_O 64 R_O y_O_drawAll b_O_drawAll 2 none 0 := ⟨q_45, q_46, q_754, q_1, q_47, by decide +kernel, by decide⟩
theorem mv_O_67 : MSok R_O 67 y_O_isSet b_O_isSet 1 (some .boolean) 1 := ⟨q_168, q_169, q_1, q_170, by decide +kernel, by decide⟩
theorem mv_O_71 : MSok R_O 71 y_J_bitCount b_J_bitCount 1 (some .int) 1 := ⟨q_171, q_88, q_4, q_89, by decide +kernel, by decide⟩
theorem mv_O_77 : MVok R_O 77 R_O y_O_takeGroup b_O_takeGroup 3 none 1 := ⟨q_58, q_59, q_757, q_1, q_60, by decide +kernel, by decide⟩
theorem mv_O_81 : MVok R_O 81 R_T y_T_show b_T_show 6 (some .int) 1 := ⟨q_138, q_139, q_140, q_3, q_141, by decide +kernel, by decide⟩
theorem mv_O_85 : MVok R_O 85 R_O y_O_taken b_O_taken 2 (some .int) 1 := ⟨q_172, q_173, q_174, q_1, q_175, by decide +kernel, by decide⟩
theorem mv_O_88 : MVok R_O 88 R_O y_O_isGroup b_O_isGroup 2 (some .boolean) 1 := ⟨q_176, q_177, q_777, q_1, q_178, by decide +kernel, by decide⟩
theorem mv_O_91 : MVok R_O 91 R_O y_O_isTaken b_O_isTaken 2 (some .boolean) 1 := ⟨q_179, q_180, q_778, q_1, q_181, by decide +kernel, by decide⟩
theorem mv_O_94 : MVok R_O 94 R_T y_T_plant b_T_plant 3 none 1 := ⟨q_48, q_49, q_50, q_3, q_51, by decide +kernel, by decide⟩
theorem mv_O_97 : MVok R_O 97 R_T y_T_reduce b_T_reduce 5 (some .boolean) 1 := ⟨q_83, q_84, q_85, q_3, q_86, by decide +kernel, by decide⟩
theorem mv_O_100 : MVok R_O 100 R_T y_T_draw b_T_draw 2 none 1 := ⟨q_61, q_62, q_63, q_3, q_64, by decide +kernel, by decide⟩
theorem mv_O_104 : MSok R_O 104 y_O_isSheet b_O_isSheet 1 (some .boolean) 1 := ⟨q_195, q_196, q_1, q_197, by decide +kernel, by decide⟩
theorem mv_O_107 : MVok R_O 107 R_S y_S_isLost b_S_isLost 2 (some .boolean) 1 := ⟨q_198, q_199, q_200, q_2, q_201, by decide +kernel, by decide⟩
theorem mv_O_110 : MVok R_O 110 R_O y_O_found b_O_found 2 (some .int) 1 := ⟨q_202, q_203, q_779, q_1, q_204, by decide +kernel, by decide⟩
theorem mv_O_113 : MVok R_O 113 R_S y_S_sizeOf b_S_sizeOf 2 (some .int) 1 := ⟨q_205, q_206, q_207, q_2, q_208, by decide +kernel, by decide⟩
theorem mv_O_116 : MVok R_O 116 R_S y_S_item b_S_item 3 (some .int) 2 := ⟨q_209, q_210, q_211, q_2, q_212, by decide +kernel, by decide⟩
theorem mv_O_120 : MVok R_O 120 R_O y_O_group b_O_group 2 (some .int) 1 := ⟨q_213, q_165, q_166, q_1, q_167, by decide +kernel, by decide⟩
theorem mv_O_123 : MVok R_O 123 R_T y_T_rowCount b_T_rowCount 4 (some .long) 0 := ⟨q_218, q_219, q_220, q_3, q_221, by decide +kernel, by decide⟩
theorem mv_O_127 : MVok R_O 127 R_T y_T_nodeCount b_T_nodeCount 1 (some .int) 0 := ⟨q_236, q_237, q_238, q_3, q_239, by decide +kernel, by decide⟩
theorem mv_O_131 : MVok R_O 131 R_T y_T_isTurning b_T_isTurning 2 (some .boolean) 1 := ⟨q_240, q_241, q_242, q_3, q_243, by decide +kernel, by decide⟩
theorem mv_O_134 : MVok R_O 134 R_T y_T_partCount b_T_partCount 2 (some .int) 1 := ⟨q_244, q_245, q_246, q_3, q_247, by decide +kernel, by decide⟩
theorem mv_O_137 : MVok R_O 137 R_T y_T_thingsOf b_T_thingsOf 2 (some .int) 1 := ⟨q_248, q_249, q_250, q_3, q_251, by decide +kernel, by decide⟩
theorem mv_O_140 : MSok R_O 140 y_O_isRowNumber b_O_isRowNumber 1 (some .boolean) 1 := ⟨q_256, q_257, q_1, q_258, by decide +kernel, by decide⟩
theorem mv_O_143 : MVok R_O 143 R_T y_T_layRow b_T_layRow 6 none 2 := ⟨q_260, q_261, q_262, q_3, q_263, by decide +kernel, by decide⟩
theorem mv_O_147 : MVok R_O 147 R_O y_O_isSetOfThings b_O_isSetOfThings 2 (some .boolean) 1 := ⟨q_277, q_278, q_782, q_1, q_279, by decide +kernel, by decide⟩
theorem mv_O_150 : MVok R_O 150 R_O y_O_isThing b_O_isThing 2 (some .boolean) 1 := ⟨q_288, q_289, q_783, q_1, q_290, by decide +kernel, by decide⟩
theorem mv_O_153 : MVok R_O 153 R_T y_T_between b_T_between 9 (some .int) 3 := ⟨q_291, q_292, q_293, q_3, q_294, by decide +kernel, by decide⟩
theorem mv_O_157 : MVok R_O 157 R_O y_O_fault b_O_fault 4 (some .int) 0 := ⟨q_328, q_321, q_322, q_1, q_323, by decide +kernel, by decide⟩
theorem mv_O_160 : MVok R_O 160 R_O y_O_findPlaces b_O_findPlaces 3 none 0 := ⟨q_329, q_330, q_786, q_1, q_331, by decide +kernel, by decide⟩
theorem mv_O_163 : MVok R_O 163 R_O y_O_isSideBySide b_O_isSideBySide 6 (some .boolean) 1 := ⟨q_332, q_333, q_787, q_1, q_334, by decide +kernel, by decide⟩
theorem mv_O_166 : MVok R_O 166 R_O y_O_misses b_O_misses 3 (some .int) 0 := ⟨q_341, q_325, q_326, q_1, q_327, by decide +kernel, by decide⟩
theorem mv_O_169 : MVok R_O 169 R_T y_T_numberOf b_T_numberOf 4 (some .int) 1 := ⟨q_342, q_343, q_344, q_3, q_345, by decide +kernel, by decide⟩
theorem mv_O_172 : MSok R_O 172 y_O_isForm b_O_isForm 1 (some .boolean) 1 := ⟨q_356, q_357, q_1, q_358, by decide +kernel, by decide⟩
theorem mv_O_175 : MVok R_O 175 R_S y_S_lay b_S_lay 5 none 3 := ⟨q_359, q_360, q_361, q_2, q_362, by decide +kernel, by decide⟩
theorem mv_O_179 : MVok R_O 179 R_S y_S_drop b_S_drop 2 none 1 := ⟨q_367, q_368, q_369, q_2, q_370, by decide +kernel, by decide⟩
theorem mv_O_182 : MVok R_O 182 R_O y_O_findingOf b_O_findingOf 4 (some .int) 3 := ⟨q_375, q_376, q_790, q_1, q_377, by decide +kernel, by decide⟩
theorem mv_O_186 : MVok R_O 186 R_S y_S_setItem b_S_setItem 5 none 3 := ⟨q_382, q_383, q_384, q_2, q_385, by decide +kernel, by decide⟩
theorem mv_O_190 : MVok R_O 190 R_S y_S_formOf b_S_formOf 2 (some .int) 1 := ⟨q_378, q_379, q_380, q_2, q_381, by decide +kernel, by decide⟩
theorem mv_O_193 : MVok R_O 193 R_S y_S_hasItems b_S_hasItems 4 (some .boolean) 3 := ⟨q_395, q_396, q_397, q_2, q_398, by decide +kernel, by decide⟩
theorem mv_O_197 : MVok R_O 197 R_S y_S_move b_S_move 6 none 5 := ⟨q_399, q_400, q_401, q_2, q_402, by decide +kernel, by decide⟩
theorem mv_O_206 : MVok R_O 206 R_T y_T_turningCount b_T_turningCount 3 (some .int) 0 := ⟨q_414, q_415, q_416, q_3, q_417, by decide +kernel, by decide⟩
theorem mv_O_213 : MVok R_O 213 R_O y_O_count b_O_count 2 (some .int) 1 := ⟨q_424, q_411, q_412, q_1, q_413, by decide +kernel, by decide⟩
theorem mv_O_216 : MVok R_O 216 R_O y_O_reason b_O_reason 6 (some .int) 1 := ⟨q_425, q_188, q_189, q_1, q_190, by decide +kernel, by decide⟩
theorem mv_O_219 : MVok R_O 219 R_O y_O_many b_O_many 1 (some .long) 0 := ⟨q_426, q_215, q_216, q_1, q_217, by decide +kernel, by decide⟩
theorem mv_O_222 : MVok R_O 222 R_O y_O_tree b_O_tree 2 (some .int) 1 := ⟨q_427, q_229, q_230, q_1, q_231, by decide +kernel, by decide⟩
theorem mv_O_225 : MVok R_O 225 R_O y_O_node b_O_node 3 (some .int) 2 := ⟨q_428, q_233, q_234, q_1, q_235, by decide +kernel, by decide⟩
theorem mv_O_231 : MVok R_O 231 R_O y_O_row b_O_row 3 (some .int) 2 := ⟨q_430, q_253, q_254, q_1, q_255, by decide +kernel, by decide⟩
theorem mv_O_237 : MVok R_O 237 R_O y_O_may b_O_may 2 (some .int) 1 := ⟨q_432, q_274, q_275, q_1, q_276, by decide +kernel, by decide⟩
theorem mv_O_240 : MVok R_O 240 R_O y_O_must b_O_must 2 (some .int) 1 := ⟨q_433, q_281, q_282, q_1, q_283, by decide +kernel, by decide⟩
theorem mv_O_243 : MVok R_O 243 R_O y_O_apart b_O_apart 4 (some .int) 3 := ⟨q_434, q_285, q_286, q_1, q_287, by decide +kernel, by decide⟩
theorem mv_O_246 : MVok R_O 246 R_O y_O_spare b_O_spare 6 (some .int) 0 := ⟨q_435, q_305, q_306, q_1, q_307, by decide +kernel, by decide⟩
theorem mv_O_249 : MVok R_O 249 R_O y_O_number b_O_number 2 (some .int) 0 := ⟨q_436, q_338, q_339, q_1, q_340, by decide +kernel, by decide⟩
theorem mv_T_58 : MVok R_T 58 R_T y_T_clear b_T_clear 2 none 0 := ⟨q_52, q_53, q_755, q_3, q_54, by decide +kernel, by decide⟩
theorem mv_T_61 : MVok R_T 61 R_T y_T_add b_T_add 3 none 2 := ⟨q_55, q_56, q_756, q_3, q_57, by decide +kernel, by decide⟩
theorem mv_T_65 : MSok R_T 65 y_T_place b_T_place 6 (some .int) 4 := ⟨q_65, q_66, q_3, q_67, by decide +kernel, by decide⟩
theorem mv_T_69 : MVok R_T 69 R_T y_T_order b_T_order 6 none 1 := ⟨q_68, q_69, q_758, q_3, q_70, by decide +kernel, by decide⟩
theorem mv_T_73 : MVok R_T 73 R_T y_T_part b_T_part 3 (some .int) 2 := ⟨q_71, q_72, q_759, q_3, q_73, by decide +kernel, by decide⟩
theorem mv_T_77 : MVok R_T 77 R_T y_T_least b_T_least 2 (some .int) 1 := ⟨q_74, q_75, q_760, q_3, q_76, by decide +kernel, by decide⟩
theorem mv_T_81 : MSok R_T 81 y_T_turn b_T_turn 6 none 3 := ⟨q_77, q_78, q_3, q_79, by decide +kernel, by decide⟩
theorem mv_T_85 : MVok R_T 85 R_T y_T_setPart b_T_setPart 4 none 3 := ⟨q_80, q_81, q_761, q_3, q_82, by decide +kernel, by decide⟩
theorem mv_T_89 : MSok R_T 89 y_J_bitCount b_J_bitCount 1 (some .int) 1 := ⟨q_87, q_88, q_4, q_89, by decide +kernel, by decide⟩
theorem mv_T_94 : MVok R_T 94 R_T y_T_lowestWith b_T_lowestWith 6 (some .int) 1 := ⟨q_93, q_94, q_762, q_3, q_95, by decide +kernel, by decide⟩
theorem mv_T_97 : MVok R_T 97 R_T y_T_stateOf b_T_stateOf 4 (some .int) 2 := ⟨q_96, q_97, q_763, q_3, q_98, by decide +kernel, by decide⟩
theorem mv_T_100 : MVok R_T 100 R_T y_T_reduceFree b_T_reduceFree 6 (some .boolean) 2 := ⟨q_99, q_100, q_764, q_3, q_101, by decide +kernel, by decide⟩
theorem mv_T_104 : MVok R_T 104 R_T y_T_reduceTurning b_T_reduceTurning 8 (some .boolean) 2 := ⟨q_132, q_133, q_775, q_3, q_134, by decide +kernel, by decide⟩
theorem mv_T_107 : MVok R_T 107 R_T y_T_giveBackSplit b_T_giveBackSplit 2 none 0 := ⟨q_135, q_136, q_776, q_3, q_137, by decide +kernel, by decide⟩
theorem mv_T_110 : MVok R_T 110 R_T y_T_partIn b_T_partIn 7 (some .int) 4 := ⟨q_102, q_103, q_765, q_3, q_104, by decide +kernel, by decide⟩
theorem mv_T_114 : MVok R_T 114 R_T y_T_splitToLine b_T_splitToLine 8 (some .boolean) 3 := ⟨q_105, q_106, q_766, q_3, q_107, by decide +kernel, by decide⟩
theorem mv_T_118 : MVok R_T 118 R_T y_T_bundle b_T_bundle 6 (some .int) 3 := ⟨q_108, q_109, q_767, q_3, q_110, by decide +kernel, by decide⟩
theorem mv_T_122 : MVok R_T 122 R_T y_T_append b_T_append 2 none 1 := ⟨q_114, q_115, q_769, q_3, q_116, by decide +kernel, by decide⟩
theorem mv_T_125 : MVok R_T 125 R_T y_T_keepEmpty b_T_keepEmpty 5 none 2 := ⟨q_126, q_127, q_773, q_3, q_128, by decide +kernel, by decide⟩
theorem mv_T_128 : MVok R_T 128 R_T y_T_fillFromLine b_T_fillFromLine 3 none 1 := ⟨q_129, q_130, q_774, q_3, q_131, by decide +kernel, by decide⟩
theorem mv_T_131 : MVok R_T 131 R_T y_T_unusedNode b_T_unusedNode 2 (some .int) 0 := ⟨q_111, q_112, q_768, q_3, q_113, by decide +kernel, by decide⟩
theorem mv_T_135 : MVok R_T 135 R_T y_T_hold b_T_hold 2 none 1 := ⟨q_117, q_118, q_770, q_3, q_119, by decide +kernel, by decide⟩
theorem mv_T_138 : MVok R_T 138 R_T y_T_splitTurning b_T_splitTurning 8 (some .boolean) 2 := ⟨q_120, q_121, q_771, q_3, q_122, by decide +kernel, by decide⟩
theorem mv_T_141 : MVok R_T 141 R_T y_T_markSplit b_T_markSplit 2 none 1 := ⟨q_123, q_124, q_772, q_3, q_125, by decide +kernel, by decide⟩
theorem mv_T_144 : MVok R_T 144 R_T y_T_ways b_T_ways 2 (some .int) 1 := ⟨q_222, q_223, q_780, q_3, q_224, by decide +kernel, by decide⟩
theorem mv_T_147 : MSok R_T 147 y_T_setAt b_T_setAt 3 none 3 := ⟨q_142, q_143, q_3, q_144, by decide +kernel, by decide⟩
theorem mv_T_155 : MVok R_T 155 R_T y_T_layParts b_T_layParts 10 none 2 := ⟨q_267, q_268, q_781, q_3, q_269, by decide +kernel, by decide⟩
theorem mv_T_161 : MSok R_T 161 y_T_nthBit b_T_nthBit 4 (some .int) 2 := ⟨q_270, q_271, q_3, q_272, by decide +kernel, by decide⟩
theorem mv_T_164 : MVok R_T 164 R_T y_T_wayOf b_T_wayOf 9 (some .int) 2 := ⟨q_346, q_347, q_788, q_3, q_348, by decide +kernel, by decide⟩
theorem mv_T_168 : MVok R_T 168 R_T y_T_leastThing b_T_leastThing 2 (some .int) 1 := ⟨q_349, q_350, q_789, q_3, q_351, by decide +kernel, by decide⟩
theorem mv_T_171 : MVok R_T 171 R_T y_T_besideIn b_T_besideIn 9 (some .int) 3 := ⟨q_295, q_296, q_784, q_3, q_297, by decide +kernel, by decide⟩
theorem mv_T_175 : MVok R_T 175 R_T y_T_betweenIn b_T_betweenIn 10 (some .int) 4 := ⟨q_301, q_302, q_785, q_3, q_303, by decide +kernel, by decide⟩
theorem okB0 : okR (some .boolean) (some (.int 0)) := rfl
theorem okB1 : okR (some .boolean) (some (.int 1)) := rfl

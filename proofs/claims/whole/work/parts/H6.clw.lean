def sg0 : Mem := fun k => match k with
  | 0 => fun i => if i = 0 then 5 else 0
  | 7 => fM1
  | 12 => fSt 8
  | 23 => fSt 8
  | 34 => fSt 8
  | 19 => fLn 8
  | 30 => fLn 8
  | 41 => fLn 8
  | _ => fun _ => 0
theorem wd_list0 (Y : Wx) (σ : Mem) : wd Y 0 σ = [(adr Y 0, cellE Y σ 0), (adr Y 1, cellE Y σ 1), (adr Y 2, cellE Y σ 2), (adr Y 3, cellE Y σ 3), (adr Y 4, cellE Y σ 4), (adr Y 5, cellE Y σ 5), (adr Y 6, cellE Y σ 6), (adr Y 7, cellE Y σ 7), (adr Y 8, cellE Y σ 8), (adr Y 9, cellE Y σ 9), (adr Y 10, cellE Y σ 10), (adr Y 11, cellE Y σ 11), (adr Y 12, cellE Y σ 12), (adr Y 13, cellE Y σ 13), (adr Y 14, cellE Y σ 14), (adr Y 15, cellE Y σ 15), (adr Y 16, cellE Y σ 16), (adr Y 17, cellE Y σ 17), (adr Y 18, cellE Y σ 18), (adr Y 19, cellE Y σ 19), (adr Y 20, cellE Y σ 20), (adr Y 21, cellE Y σ 21), (adr Y 22, cellE Y σ 22), (adr Y 23, cellE Y σ 23), (adr Y 24, cellE Y σ 24), (adr Y 25, cellE Y σ 25), (adr Y 26, cellE Y σ 26), (adr Y 27, cellE Y σ 27), (adr Y 28, cellE Y σ 28), (adr Y 29, cellE Y σ 29), (adr Y 30, cellE Y σ 30), (adr Y 31, cellE Y σ 31), (adr Y 32, cellE Y σ 32), (adr Y 33, cellE Y σ 33), (adr Y 34, cellE Y σ 34), (adr Y 35, cellE Y σ 35), (adr Y 36, cellE Y σ 36), (adr Y 37, cellE Y σ 37), (adr Y 38, cellE Y σ 38), (adr Y 39, cellE Y σ 39), (adr Y 40, cellE Y σ 40), (adr Y 41, cellE Y σ 41), (adr Y 42, cellE Y σ 42)] := rfl
theorem cO0 (Y : Wx) : cellE Y sg0 0 = .inr (2, [.int 5, .ref (adr Y 1), .int 0, .int 0, .ref (adr Y 2), .int 0, .int 0, .ref (adr Y 6), .ref (adr Y 10), .ref (adr Y 3), .int 0, .ref (adr Y 21), .ref (adr Y 32), .ref (adr Y 4), .ref (adr Y 5)]) := by
  rw [cellE_obj (show shp 0 = (2, 2, [none, some 1, none, none, some 2, none, none, some 6, some 10, some 3, none, some 21, some 32, some 4, some 5]) from rfl)]
  simp only [List.mapIdx_cons, List.mapIdx_nil]
  rfl
theorem cO1 (Y : Wx) : cellE Y sg0 1 = .inl (Y.2.1, 10, .inl (fun _ => 0)) := cellE_arr (show shp 1 = (0, 10, []) from rfl)
theorem cO2 (Y : Wx) : cellE Y sg0 2 = .inl (Y.2.1, 8, .inl (fun _ => 0)) := cellE_arr (show shp 2 = (0, 8, []) from rfl)
theorem cO3 (Y : Wx) : cellE Y sg0 3 = .inl (Y.2.1, 40, .inl (fun _ => 0)) := cellE_arr (show shp 3 = (0, 40, []) from rfl)
theorem cO4 (Y : Wx) : cellE Y sg0 4 = .inl (Y.2.1, 8, .inl (fun _ => 0)) := cellE_arr (show shp 4 = (0, 8, []) from rfl)
theorem cO5 (Y : Wx) : cellE Y sg0 5 = .inl (Y.2.1, 8, .inl (fun _ => 0)) := cellE_arr (show shp 5 = (0, 8, []) from rfl)
theorem cO6 (Y : Wx) : cellE Y sg0 6 = .inr (0, [.ref (adr Y 7), .ref (adr Y 8), .ref (adr Y 9)]) := by
  rw [cellE_obj (show shp 6 = (2, 0, [some 7, some 8, some 9]) from rfl)]
  simp only [List.mapIdx_cons, List.mapIdx_nil]
  rfl
theorem cO7 (Y : Wx) : cellE Y sg0 7 = .inl (Y.2.1, 4, .inl fM1) := cellE_arr (show shp 7 = (0, 4, []) from rfl)
theorem cO8 (Y : Wx) : cellE Y sg0 8 = .inl (Y.2.1, 4, .inl (fun _ => 0)) := cellE_arr (show shp 8 = (0, 4, []) from rfl)
theorem cO9 (Y : Wx) : cellE Y sg0 9 = .inl (Y.2.1, 240, .inl (fun _ => 0)) := cellE_arr (show shp 9 = (0, 240, []) from rfl)
theorem cO10 (Y : Wx) : cellE Y sg0 10 = .inr (1, [.ref (adr Y 11), .ref (adr Y 12), .ref (adr Y 13), .ref (adr Y 14), .int 0, .int 0, .ref (adr Y 15), .int 0, .ref (adr Y 16), .int 0, .ref (adr Y 17), .int 0, .ref (adr Y 18), .ref (adr Y 19), .ref (adr Y 20)]) := by
  rw [cellE_obj (show shp 10 = (2, 1, [some 11, some 12, some 13, some 14, none, none, some 15, none, some 16, none, some 17, none, some 18, some 19, some 20]) from rfl)]
  simp only [List.mapIdx_cons, List.mapIdx_nil]
  rfl
theorem cO11 (Y : Wx) : cellE Y sg0 11 = .inl (Y.2.1, 24, .inl (fun _ => 0)) := cellE_arr (show shp 11 = (0, 24, []) from rfl)
theorem cO12 (Y : Wx) : cellE Y sg0 12 = .inl (Y.2.1, 24, .inl (fSt 8)) := cellE_arr (show shp 12 = (0, 24, []) from rfl)
theorem cO13 (Y : Wx) : cellE Y sg0 13 = .inl (Y.2.1, 24, .inl (fun _ => 0)) := cellE_arr (show shp 13 = (0, 24, []) from rfl)
theorem cO14 (Y : Wx) : cellE Y sg0 14 = .inl (Y.2.1, 192, .inl (fun _ => 0)) := cellE_arr (show shp 14 = (0, 192, []) from rfl)
theorem cO15 (Y : Wx) : cellE Y sg0 15 = .inl (Y.2.1, 8, .inl (fun _ => 0)) := cellE_arr (show shp 15 = (0, 8, []) from rfl)
theorem cO16 (Y : Wx) : cellE Y sg0 16 = .inl (Y.2.1, 8, .inl (fun _ => 0)) := cellE_arr (show shp 16 = (0, 8, []) from rfl)
theorem cO17 (Y : Wx) : cellE Y sg0 17 = .inl (Y.2.1, 7, .inl (fun _ => 0)) := cellE_arr (show shp 17 = (0, 7, []) from rfl)
theorem cO18 (Y : Wx) : cellE Y sg0 18 = .inl (Y.2.1, 24, .inl (fun _ => 0)) := cellE_arr (show shp 18 = (0, 24, []) from rfl)
theorem cO19 (Y : Wx) : cellE Y sg0 19 = .inl (Y.2.1, 24, .inl (fLn 8)) := cellE_arr (show shp 19 = (0, 24, []) from rfl)
theorem cO20 (Y : Wx) : cellE Y sg0 20 = .inl (Y.2.1, 24, .inl (fun _ => 0)) := cellE_arr (show shp 20 = (0, 24, []) from rfl)
theorem cO21 (Y : Wx) : cellE Y sg0 21 = .inr (1, [.ref (adr Y 22), .ref (adr Y 23), .ref (adr Y 24), .ref (adr Y 25), .int 0, .int 0, .ref (adr Y 26), .int 0, .ref (adr Y 27), .int 0, .ref (adr Y 28), .int 0, .ref (adr Y 29), .ref (adr Y 30), .ref (adr Y 31)]) := by
  rw [cellE_obj (show shp 21 = (2, 1, [some 22, some 23, some 24, some 25, none, none, some 26, none, some 27, none, some 28, none, some 29, some 30, some 31]) from rfl)]
  simp only [List.mapIdx_cons, List.mapIdx_nil]
  rfl
theorem cO22 (Y : Wx) : cellE Y sg0 22 = .inl (Y.2.1, 24, .inl (fun _ => 0)) := cellE_arr (show shp 22 = (0, 24, []) from rfl)
theorem cO23 (Y : Wx) : cellE Y sg0 23 = .inl (Y.2.1, 24, .inl (fSt 8)) := cellE_arr (show shp 23 = (0, 24, []) from rfl)
theorem cO24 (Y : Wx) : cellE Y sg0 24 = .inl (Y.2.1, 24, .inl (fun _ => 0)) := cellE_arr (show shp 24 = (0, 24, []) from rfl)
theorem cO25 (Y : Wx) : cellE Y sg0 25 = .inl (Y.2.1, 192, .inl (fun _ => 0)) := cellE_arr (show shp 25 = (0, 192, []) from rfl)
theorem cO26 (Y : Wx) : cellE Y sg0 26 = .inl (Y.2.1, 8, .inl (fun _ => 0)) := cellE_arr (show shp 26 = (0, 8, []) from rfl)
theorem cO27 (Y : Wx) : cellE Y sg0 27 = .inl (Y.2.1, 8, .inl (fun _ => 0)) := cellE_arr (show shp 27 = (0, 8, []) from rfl)
theorem cO28 (Y : Wx) : cellE Y sg0 28 = .inl (Y.2.1, 7, .inl (fun _ => 0)) := cellE_arr (show shp 28 = (0, 7, []) from rfl)
theorem cO29 (Y : Wx) : cellE Y sg0 29 = .inl (Y.2.1, 24, .inl (fun _ => 0)) := cellE_arr (show shp 29 = (0, 24, []) from rfl)
theorem cO30 (Y : Wx) : cellE Y sg0 30 = .inl (Y.2.1, 24, .inl (fLn 8)) := cellE_arr (show shp 30 = (0, 24, []) from rfl)
theorem cO31 (Y : Wx) : cellE Y sg0 31 = .inl (Y.2.1, 24, .inl (fun _ => 0)) := cellE_arr (show shp 31 = (0, 24, []) from rfl)
theorem cO32 (Y : Wx) : cellE Y sg0 32 = .inr (1, [.ref (adr Y 33), .ref (adr Y 34), .ref (adr Y 35), .ref (adr Y 36), .int 0, .int 0, .ref (adr Y 37), .int 0, .ref (adr Y 38), .int 0, .ref (adr Y 39), .int 0, .ref (adr Y 40), .ref (adr Y 41), .ref (adr Y 42)]) := by
  rw [cellE_obj (show shp 32 = (2, 1, [some 33, some 34, some 35, some 36, none, none, some 37, none, some 38, none, some 39, none, some 40, some 41, some 42]) from rfl)]
  simp only [List.mapIdx_cons, List.mapIdx_nil]
  rfl
theorem cO33 (Y : Wx) : cellE Y sg0 33 = .inl (Y.2.1, 24, .inl (fun _ => 0)) := cellE_arr (show shp 33 = (0, 24, []) from rfl)
theorem cO34 (Y : Wx) : cellE Y sg0 34 = .inl (Y.2.1, 24, .inl (fSt 8)) := cellE_arr (show shp 34 = (0, 24, []) from rfl)
theorem cO35 (Y : Wx) : cellE Y sg0 35 = .inl (Y.2.1, 24, .inl (fun _ => 0)) := cellE_arr (show shp 35 = (0, 24, []) from rfl)
theorem cO36 (Y : Wx) : cellE Y sg0 36 = .inl (Y.2.1, 192, .inl (fun _ => 0)) := cellE_arr (show shp 36 = (0, 192, []) from rfl)
theorem cO37 (Y : Wx) : cellE Y sg0 37 = .inl (Y.2.1, 8, .inl (fun _ => 0)) := cellE_arr (show shp 37 = (0, 8, []) from rfl)
theorem cO38 (Y : Wx) : cellE Y sg0 38 = .inl (Y.2.1, 8, .inl (fun _ => 0)) := cellE_arr (show shp 38 = (0, 8, []) from rfl)
theorem cO39 (Y : Wx) : cellE Y sg0 39 = .inl (Y.2.1, 7, .inl (fun _ => 0)) := cellE_arr (show shp 39 = (0, 7, []) from rfl)
theorem cO40 (Y : Wx) : cellE Y sg0 40 = .inl (Y.2.1, 24, .inl (fun _ => 0)) := cellE_arr (show shp 40 = (0, 24, []) from rfl)
theorem cO41 (Y : Wx) : cellE Y sg0 41 = .inl (Y.2.1, 24, .inl (fLn 8)) := cellE_arr (show shp 41 = (0, 24, []) from rfl)
theorem cO42 (Y : Wx) : cellE Y sg0 42 = .inl (Y.2.1, 24, .inl (fun _ => 0)) := cellE_arr (show shp 42 = (0, 24, []) from rfl)
def clW (Y : Wx) (a : Nat → Nat) : va_W := [(a 0, .inr (2, [.int 5, .ref (a 1), .int 0, .int 0, .ref (a 2), .int 0, .int 0, .ref (a 6), .ref (a 10), .ref (a 3), .int 0, .ref (a 21), .ref (a 32), .ref (a 4), .ref (a 5)])), (a 1, .inl (Y.2.1, 10, .inl (fun _ => 0))), (a 2, .inl (Y.2.1, 8, .inl (fun _ => 0))), (a 3, .inl (Y.2.1, 40, .inl (fun _ => 0))), (a 4, .inl (Y.2.1, 8, .inl (fun _ => 0))), (a 5, .inl (Y.2.1, 8, .inl (fun _ => 0))), (a 6, .inr (0, [.ref (a 7), .ref (a 8), .ref (a 9)])), (a 7, .inl (Y.2.1, 4, .inl fM1)), (a 8, .inl (Y.2.1, 4, .inl (fun _ => 0))), (a 9, .inl (Y.2.1, 240, .inl (fun _ => 0))), (a 10, .inr (1, [.ref (a 11), .ref (a 12), .ref (a 13), .ref (a 14), .int 0, .int 0, .ref (a 15), .int 0, .ref (a 16), .int 0, .ref (a 17), .int 0, .ref (a 18), .ref (a 19), .ref (a 20)])), (a 11, .inl (Y.2.1, 24, .inl (fun _ => 0))), (a 12, .inl (Y.2.1, 24, .inl (fSt 8))), (a 13, .inl (Y.2.1, 24, .inl (fun _ => 0))), (a 14, .inl (Y.2.1, 192, .inl (fun _ => 0))), (a 15, .inl (Y.2.1, 8, .inl (fun _ => 0))), (a 16, .inl (Y.2.1, 8, .inl (fun _ => 0))), (a 17, .inl (Y.2.1, 7, .inl (fun _ => 0))), (a 18, .inl (Y.2.1, 24, .inl (fun _ => 0))), (a 19, .inl (Y.2.1, 24, .inl (fLn 8))), (a 20, .inl (Y.2.1, 24, .inl (fun _ => 0))), (a 21, .inr (1, [.ref (a 22), .ref (a 23), .ref (a 24), .ref (a 25), .int 0, .int 0, .ref (a 26), .int 0, .ref (a 27), .int 0, .ref (a 28), .int 0, .ref (a 29), .ref (a 30), .ref (a 31)])), (a 22, .inl (Y.2.1, 24, .inl (fun _ => 0))), (a 23, .inl (Y.2.1, 24, .inl (fSt 8))), (a 24, .inl (Y.2.1, 24, .inl (fun _ => 0))), (a 25, .inl (Y.2.1, 192, .inl (fun _ => 0))), (a 26, .inl (Y.2.1, 8, .inl (fun _ => 0))), (a 27, .inl (Y.2.1, 8, .inl (fun _ => 0))), (a 28, .inl (Y.2.1, 7, .inl (fun _ => 0))), (a 29, .inl (Y.2.1, 24, .inl (fun _ => 0))), (a 30, .inl (Y.2.1, 24, .inl (fLn 8))), (a 31, .inl (Y.2.1, 24, .inl (fun _ => 0))), (a 32, .inr (1, [.ref (a 33), .ref (a 34), .ref (a 35), .ref (a 36), .int 0, .int 0, .ref (a 37), .int 0, .ref (a 38), .int 0, .ref (a 39), .int 0, .ref (a 40), .ref (a 41), .ref (a 42)])), (a 33, .inl (Y.2.1, 24, .inl (fun _ => 0))), (a 34, .inl (Y.2.1, 24, .inl (fSt 8))), (a 35, .inl (Y.2.1, 24, .inl (fun _ => 0))), (a 36, .inl (Y.2.1, 192, .inl (fun _ => 0))), (a 37, .inl (Y.2.1, 8, .inl (fun _ => 0))), (a 38, .inl (Y.2.1, 8, .inl (fun _ => 0))), (a 39, .inl (Y.2.1, 7, .inl (fun _ => 0))), (a 40, .inl (Y.2.1, 24, .inl (fun _ => 0))), (a 41, .inl (Y.2.1, 24, .inl (fLn 8))), (a 42, .inl (Y.2.1, 24, .inl (fun _ => 0)))]
theorem clW_eq (Y : Wx) (a : Nat → Nat) : clW Y a = wd (Y.1, Y.2.1, Y.2.2.1, a, Y.2.2.2.2) 0 sg0 := by
  rw [wd_list0, cO0, cO1, cO2, cO3, cO4, cO5, cO6, cO7, cO8, cO9, cO10, cO11, cO12, cO13, cO14, cO15, cO16, cO17, cO18, cO19, cO20, cO21, cO22, cO23, cO24, cO25, cO26, cO27, cO28, cO29, cO30, cO31, cO32, cO33, cO34, cO35, cO36, cO37, cO38, cO39, cO40, cO41, cO42]
  rfl

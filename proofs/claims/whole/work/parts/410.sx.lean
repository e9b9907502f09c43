/-! reading by rule -/
theorem lt1_s {α β : Type} {a : α} {f : α → β} : lt1 a f = f a := rfl
theorem op1_n {α : Type} {f : Option α} {g : Nat → Option α} : op1 none f g = f := rfl
theorem op1_s {α : Type} {x : Nat} {f : Option α} {g : Nat → Option α} : op1 (some x) f g = g x := rfl
theorem L0 : (0 : Int32) = nI 0 := rfl
theorem L1 : (1 : Int32) = nI 1 := rfl
theorem L2 : (2 : Int32) = nI 2 := rfl
theorem L3 : (3 : Int32) = nI 3 := rfl
theorem L4 : (4 : Int32) = nI 4 := rfl
theorem L5 : (5 : Int32) = nI 5 := rfl
theorem L6 : (6 : Int32) = nI 6 := rfl
theorem L7 : (7 : Int32) = nI 7 := rfl
theorem L8 : (8 : Int32) = nI 8 := rfl
theorem L9 : (9 : Int32) = nI 9 := rfl
theorem L10 : (10 : Int32) = nI 10 := rfl
theorem L11 : (11 : Int32) = nI 11 := rfl
theorem L12 : (12 : Int32) = nI 12 := rfl
theorem L13 : (13 : Int32) = nI 13 := rfl
theorem L14 : (14 : Int32) = nI 14 := rfl
theorem L15 : (15 : Int32) = nI 15 := rfl
theorem L20 : (20 : Int32) = nI 20 := rfl
theorem L32 : (32 : Int32) = nI 32 := rfl
theorem L40 : (40 : Int32) = nI 40 := rfl
theorem L48 : (48 : Int32) = nI 48 := rfl
theorem L60 : (60 : Int32) = nI 60 := rfl
theorem L61 : (61 : Int32) = nI 61 := rfl
theorem L99 : (99 : Int32) = nI 99 := rfl
theorem L100 : (100 : Int32) = nI 100 := rfl
theorem L104 : (104 : Int32) = nI 104 := rfl
theorem L105 : (105 : Int32) = nI 105 := rfl
theorem L108 : (108 : Int32) = nI 108 := rfl
theorem L109 : (109 : Int32) = nI 109 := rfl
theorem L115 : (115 : Int32) = nI 115 := rfl
theorem L119 : (119 : Int32) = nI 119 := rfl
theorem L122 : (122 : Int32) = nI 122 := rfl
theorem L780 : (780 : Int32) = nI 780 := rfl
theorem L795 : (795 : Int32) = nI 795 := rfl
theorem L1000 : (1000 : Int32) = nI 1000 := rfl
theorem L1000000 : (1000000 : Int32) = nI 1000000 := rfl
theorem leN {a b : Nat} (ha : a < 2147483648) (hb : b < 2147483648) : (nI a ≤ nI b) = (a ≤ b) := propext (nI_leI ha hb)
theorem ltN {a b : Nat} (ha : a < 2147483648) (hb : b < 2147483648) : (nI a < nI b) = (a < b) := propext (nI_ltI ha hb)
theorem eqN {a b : Nat} (ha : a < 2147483648) (hb : b < 2147483648) : (nI a = nI b) = (a = b) := propext (nI_eq ha hb)
theorem clN {a : Nat} (ha : a < 2147483648) : (nI a).toNatClampNeg = a := nI_clamp ha
theorem or_z (x : Int32) : x ||| nI 0 = x := or_0 x
theorem ad_z (x : Int32) : x + nI 0 = x := by rw [nI_0]; exact Int32.add_zero x
theorem neg9 {a : Nat} (ha : a < 2147483648) : ¬ nI a = -nI 9 := fun q => by
  have h1 := congrArg Int32.toInt q
  rw [nI_toInt ha, show (-nI 9 : Int32).toInt = -9 from by decide +kernel] at h1
  omega
theorem neg9' {a : Nat} (ha : a < 2147483648) : ¬ nI a = (-9 : Int32) := neg9 ha
theorem neg9l : (-nI 9 : Int32) = (-9 : Int32) := rfl
theorem rd25 {fu : Nat} {M : Mm} {i : Nat} (h : i < 8) : F_X6_read fu M 25 (nI i) = some (M.1 25 i) := rd_eq (show i < ln 25 from h)
theorem wr25 {fu : Nat} {M : Mm} {i : Nat} {x : Int32} (h : i < 8) : F_X6_write fu M 25 (nI i) x = some (pI M 25 i x) := wr_eq (show i < ln 25 from h)
theorem rd26 {fu : Nat} {M : Mm} {i : Nat} (h : i < 6) : F_X6_read fu M 26 (nI i) = some (M.1 26 i) := rd_eq (show i < ln 26 from h)
theorem wr26 {fu : Nat} {M : Mm} {i : Nat} {x : Int32} (h : i < 6) : F_X6_write fu M 26 (nI i) x = some (pI M 26 i x) := wr_eq (show i < ln 26 from h)
theorem rd27 {fu : Nat} {M : Mm} {i : Nat} (h : i < 6) : F_X6_read fu M 27 (nI i) = some (M.1 27 i) := rd_eq (show i < ln 27 from h)
theorem wr27 {fu : Nat} {M : Mm} {i : Nat} {x : Int32} (h : i < 6) : F_X6_write fu M 27 (nI i) x = some (pI M 27 i x) := wr_eq (show i < ln 27 from h)
theorem rd28 {fu : Nat} {M : Mm} {i : Nat} (h : i < 6) : F_X6_read fu M 28 (nI i) = some (M.1 28 i) := rd_eq (show i < ln 28 from h)
theorem wr28 {fu : Nat} {M : Mm} {i : Nat} {x : Int32} (h : i < 6) : F_X6_write fu M 28 (nI i) x = some (pI M 28 i x) := wr_eq (show i < ln 28 from h)
theorem rd29 {fu : Nat} {M : Mm} {i : Nat} (h : i < 6) : F_X6_read fu M 29 (nI i) = some (M.1 29 i) := rd_eq (show i < ln 29 from h)
theorem wr29 {fu : Nat} {M : Mm} {i : Nat} {x : Int32} (h : i < 6) : F_X6_write fu M 29 (nI i) x = some (pI M 29 i x) := wr_eq (show i < ln 29 from h)
theorem rd30 {fu : Nat} {M : Mm} {i : Nat} (h : i < 6) : F_X6_read fu M 30 (nI i) = some (M.1 30 i) := rd_eq (show i < ln 30 from h)
theorem wr30 {fu : Nat} {M : Mm} {i : Nat} {x : Int32} (h : i < 6) : F_X6_write fu M 30 (nI i) x = some (pI M 30 i x) := wr_eq (show i < ln 30 from h)
theorem rd31 {fu : Nat} {M : Mm} {i : Nat} (h : i < 6) : F_X6_read fu M 31 (nI i) = some (M.1 31 i) := rd_eq (show i < ln 31 from h)
theorem wr31 {fu : Nat} {M : Mm} {i : Nat} {x : Int32} (h : i < 6) : F_X6_write fu M 31 (nI i) x = some (pI M 31 i x) := wr_eq (show i < ln 31 from h)
theorem rd32 {fu : Nat} {M : Mm} {i : Nat} (h : i < 60) : F_X6_read fu M 32 (nI i) = some (M.1 32 i) := rd_eq (show i < ln 32 from h)
theorem wr32 {fu : Nat} {M : Mm} {i : Nat} {x : Int32} (h : i < 60) : F_X6_write fu M 32 (nI i) x = some (pI M 32 i x) := wr_eq (show i < ln 32 from h)
theorem rd33 {fu : Nat} {M : Mm} {i : Nat} (h : i < 60) : F_X6_read fu M 33 (nI i) = some (M.1 33 i) := rd_eq (show i < ln 33 from h)
theorem wr33 {fu : Nat} {M : Mm} {i : Nat} {x : Int32} (h : i < 60) : F_X6_write fu M 33 (nI i) x = some (pI M 33 i x) := wr_eq (show i < ln 33 from h)
theorem rd34 {fu : Nat} {M : Mm} {i : Nat} (h : i < 60) : F_X6_read fu M 34 (nI i) = some (M.1 34 i) := rd_eq (show i < ln 34 from h)
theorem wr34 {fu : Nat} {M : Mm} {i : Nat} {x : Int32} (h : i < 60) : F_X6_write fu M 34 (nI i) x = some (pI M 34 i x) := wr_eq (show i < ln 34 from h)
theorem rd69 {fu : Nat} {M : Mm} {i : Nat} (h : i < 8) : F_X6_read fu M 69 (nI i) = some (M.1 69 i) := rd_eq (show i < ln 69 from h)
theorem wr69 {fu : Nat} {M : Mm} {i : Nat} {x : Int32} (h : i < 8) : F_X6_write fu M 69 (nI i) x = some (pI M 69 i x) := wr_eq (show i < ln 69 from h)
theorem rd70 {fu : Nat} {M : Mm} {i : Nat} (h : i < 6) : F_X6_read fu M 70 (nI i) = some (M.1 70 i) := rd_eq (show i < ln 70 from h)
theorem wr70 {fu : Nat} {M : Mm} {i : Nat} {x : Int32} (h : i < 6) : F_X6_write fu M 70 (nI i) x = some (pI M 70 i x) := wr_eq (show i < ln 70 from h)
theorem rd71 {fu : Nat} {M : Mm} {i : Nat} (h : i < 6) : F_X6_read fu M 71 (nI i) = some (M.1 71 i) := rd_eq (show i < ln 71 from h)
theorem wr71 {fu : Nat} {M : Mm} {i : Nat} {x : Int32} (h : i < 6) : F_X6_write fu M 71 (nI i) x = some (pI M 71 i x) := wr_eq (show i < ln 71 from h)
theorem rd72 {fu : Nat} {M : Mm} {i : Nat} (h : i < 6) : F_X6_read fu M 72 (nI i) = some (M.1 72 i) := rd_eq (show i < ln 72 from h)
theorem wr72 {fu : Nat} {M : Mm} {i : Nat} {x : Int32} (h : i < 6) : F_X6_write fu M 72 (nI i) x = some (pI M 72 i x) := wr_eq (show i < ln 72 from h)
theorem rd73 {fu : Nat} {M : Mm} {i : Nat} (h : i < 6) : F_X6_read fu M 73 (nI i) = some (M.1 73 i) := rd_eq (show i < ln 73 from h)
theorem wr73 {fu : Nat} {M : Mm} {i : Nat} {x : Int32} (h : i < 6) : F_X6_write fu M 73 (nI i) x = some (pI M 73 i x) := wr_eq (show i < ln 73 from h)
theorem rd75 {fu : Nat} {M : Mm} {i : Nat} (h : i < 6) : F_X6_read fu M 75 (nI i) = some (M.1 75 i) := rd_eq (show i < ln 75 from h)
theorem wr75 {fu : Nat} {M : Mm} {i : Nat} {x : Int32} (h : i < 6) : F_X6_write fu M 75 (nI i) x = some (pI M 75 i x) := wr_eq (show i < ln 75 from h)
theorem rd76 {fu : Nat} {M : Mm} {i : Nat} (h : i < 6) : F_X6_read fu M 76 (nI i) = some (M.1 76 i) := rd_eq (show i < ln 76 from h)
theorem wr76 {fu : Nat} {M : Mm} {i : Nat} {x : Int32} (h : i < 6) : F_X6_write fu M 76 (nI i) x = some (pI M 76 i x) := wr_eq (show i < ln 76 from h)
theorem rd80 {fu : Nat} {M : Mm} {i : Nat} (h : i < 6) : F_X6_read fu M 80 (nI i) = some (M.1 80 i) := rd_eq (show i < ln 80 from h)
theorem wr80 {fu : Nat} {M : Mm} {i : Nat} {x : Int32} (h : i < 6) : F_X6_write fu M 80 (nI i) x = some (pI M 80 i x) := wr_eq (show i < ln 80 from h)
theorem rd81 {fu : Nat} {M : Mm} {i : Nat} (h : i < 61) : F_X6_read fu M 81 (nI i) = some (M.1 81 i) := rd_eq (show i < ln 81 from h)
theorem wr81 {fu : Nat} {M : Mm} {i : Nat} {x : Int32} (h : i < 61) : F_X6_write fu M 81 (nI i) x = some (pI M 81 i x) := wr_eq (show i < ln 81 from h)
theorem rd82 {fu : Nat} {M : Mm} {i : Nat} (h : i < 6) : F_X6_read fu M 82 (nI i) = some (M.1 82 i) := rd_eq (show i < ln 82 from h)
theorem wr82 {fu : Nat} {M : Mm} {i : Nat} {x : Int32} (h : i < 6) : F_X6_write fu M 82 (nI i) x = some (pI M 82 i x) := wr_eq (show i < ln 82 from h)
theorem rd83 {fu : Nat} {M : Mm} {i : Nat} (h : i < 6) : F_X6_read fu M 83 (nI i) = some (M.1 83 i) := rd_eq (show i < ln 83 from h)
theorem wr83 {fu : Nat} {M : Mm} {i : Nat} {x : Int32} (h : i < 6) : F_X6_write fu M 83 (nI i) x = some (pI M 83 i x) := wr_eq (show i < ln 83 from h)
theorem rd84 {fu : Nat} {M : Mm} {i : Nat} (h : i < 6) : F_X6_read fu M 84 (nI i) = some (M.1 84 i) := rd_eq (show i < ln 84 from h)
theorem wr84 {fu : Nat} {M : Mm} {i : Nat} {x : Int32} (h : i < 6) : F_X6_write fu M 84 (nI i) x = some (pI M 84 i x) := wr_eq (show i < ln 84 from h)
theorem rd85 {fu : Nat} {M : Mm} {i : Nat} (h : i < 64) : F_X6_read fu M 85 (nI i) = some (M.1 85 i) := rd_eq (show i < ln 85 from h)
theorem wr85 {fu : Nat} {M : Mm} {i : Nat} {x : Int32} (h : i < 64) : F_X6_write fu M 85 (nI i) x = some (pI M 85 i x) := wr_eq (show i < ln 85 from h)
theorem xr87 {α : Type} {i : Nat} {a : Option α} (h : i < 240) : (if nI i < 0 ∨ ln 87 ≤ (nI i).toNatClampNeg then none else a) = a := xr (show i < ln 87 from h)
theorem xs87 {α : Type} {i : Nat} {a : Option α} (h : i < 240) : (if nI i < nI 0 ∨ ln 87 ≤ (nI i).toNatClampNeg then none else a) = a := xr (show i < ln 87 from h)
theorem xr88 {α : Type} {i : Nat} {a : Option α} (h : i < 6) : (if nI i < 0 ∨ ln 88 ≤ (nI i).toNatClampNeg then none else a) = a := xr (show i < ln 88 from h)
theorem xs88 {α : Type} {i : Nat} {a : Option α} (h : i < 6) : (if nI i < nI 0 ∨ ln 88 ≤ (nI i).toNatClampNeg then none else a) = a := xr (show i < ln 88 from h)
theorem xr89 {α : Type} {i : Nat} {a : Option α} (h : i < 240) : (if nI i < 0 ∨ ln 89 ≤ (nI i).toNatClampNeg then none else a) = a := xr (show i < ln 89 from h)
theorem xs89 {α : Type} {i : Nat} {a : Option α} (h : i < 240) : (if nI i < nI 0 ∨ ln 89 ≤ (nI i).toNatClampNeg then none else a) = a := xr (show i < ln 89 from h)
theorem xr90 {α : Type} {i : Nat} {a : Option α} (h : i < 4) : (if nI i < 0 ∨ ln 90 ≤ (nI i).toNatClampNeg then none else a) = a := xr (show i < ln 90 from h)
theorem xs90 {α : Type} {i : Nat} {a : Option α} (h : i < 4) : (if nI i < nI 0 ∨ ln 90 ≤ (nI i).toNatClampNeg then none else a) = a := xr (show i < ln 90 from h)
theorem xr91 {α : Type} {i : Nat} {a : Option α} (h : i < 6) : (if nI i < 0 ∨ ln 91 ≤ (nI i).toNatClampNeg then none else a) = a := xr (show i < ln 91 from h)
theorem xs91 {α : Type} {i : Nat} {a : Option α} (h : i < 6) : (if nI i < nI 0 ∨ ln 91 ≤ (nI i).toNatClampNeg then none else a) = a := xr (show i < ln 91 from h)
theorem xr92 {α : Type} {i : Nat} {a : Option α} (h : i < 6) : (if nI i < 0 ∨ ln 92 ≤ (nI i).toNatClampNeg then none else a) = a := xr (show i < ln 92 from h)
theorem xs92 {α : Type} {i : Nat} {a : Option α} (h : i < 6) : (if nI i < nI 0 ∨ ln 92 ≤ (nI i).toNatClampNeg then none else a) = a := xr (show i < ln 92 from h)
theorem xr93 {α : Type} {i : Nat} {a : Option α} (h : i < 8) : (if nI i < 0 ∨ ln 93 ≤ (nI i).toNatClampNeg then none else a) = a := xr (show i < ln 93 from h)
theorem xs93 {α : Type} {i : Nat} {a : Option α} (h : i < 8) : (if nI i < nI 0 ∨ ln 93 ≤ (nI i).toNatClampNeg then none else a) = a := xr (show i < ln 93 from h)
theorem xr94 {α : Type} {i : Nat} {a : Option α} (h : i < 6) : (if nI i < 0 ∨ ln 94 ≤ (nI i).toNatClampNeg then none else a) = a := xr (show i < ln 94 from h)
theorem xs94 {α : Type} {i : Nat} {a : Option α} (h : i < 6) : (if nI i < nI 0 ∨ ln 94 ≤ (nI i).toNatClampNeg then none else a) = a := xr (show i < ln 94 from h)
theorem xr95 {α : Type} {i : Nat} {a : Option α} (h : i < 6) : (if nI i < 0 ∨ ln 95 ≤ (nI i).toNatClampNeg then none else a) = a := xr (show i < ln 95 from h)
theorem xs95 {α : Type} {i : Nat} {a : Option α} (h : i < 6) : (if nI i < nI 0 ∨ ln 95 ≤ (nI i).toNatClampNeg then none else a) = a := xr (show i < ln 95 from h)
theorem xr96 {α : Type} {i : Nat} {a : Option α} (h : i < 780) : (if nI i < 0 ∨ ln 96 ≤ (nI i).toNatClampNeg then none else a) = a := xr (show i < ln 96 from h)
theorem xs96 {α : Type} {i : Nat} {a : Option α} (h : i < 780) : (if nI i < nI 0 ∨ ln 96 ≤ (nI i).toNatClampNeg then none else a) = a := xr (show i < ln 96 from h)
theorem xr97 {α : Type} {i : Nat} {a : Option α} (h : i < 2385) : (if nI i < 0 ∨ ln 97 ≤ (nI i).toNatClampNeg then none else a) = a := xr (show i < ln 97 from h)
theorem xs97 {α : Type} {i : Nat} {a : Option α} (h : i < 2385) : (if nI i < nI 0 ∨ ln 97 ≤ (nI i).toNatClampNeg then none else a) = a := xr (show i < ln 97 from h)
theorem xr98 {α : Type} {i : Nat} {a : Option α} (h : i < 3) : (if nI i < 0 ∨ ln 98 ≤ (nI i).toNatClampNeg then none else a) = a := xr (show i < ln 98 from h)
theorem xs98 {α : Type} {i : Nat} {a : Option α} (h : i < 3) : (if nI i < nI 0 ∨ ln 98 ≤ (nI i).toNatClampNeg then none else a) = a := xr (show i < ln 98 from h)
theorem xr99 {α : Type} {i : Nat} {a : Option α} (h : i < 6) : (if nI i < 0 ∨ ln 99 ≤ (nI i).toNatClampNeg then none else a) = a := xr (show i < ln 99 from h)
theorem xs99 {α : Type} {i : Nat} {a : Option α} (h : i < 6) : (if nI i < nI 0 ∨ ln 99 ≤ (nI i).toNatClampNeg then none else a) = a := xr (show i < ln 99 from h)
theorem xr100 {α : Type} {i : Nat} {a : Option α} (h : i < 40) : (if nI i < 0 ∨ ln 100 ≤ (nI i).toNatClampNeg then none else a) = a := xr (show i < ln 100 from h)
theorem xs100 {α : Type} {i : Nat} {a : Option α} (h : i < 40) : (if nI i < nI 0 ∨ ln 100 ≤ (nI i).toNatClampNeg then none else a) = a := xr (show i < ln 100 from h)
theorem xr101 {α : Type} {i : Nat} {a : Option α} (h : i < 6) : (if nI i < 0 ∨ ln 101 ≤ (nI i).toNatClampNeg then none else a) = a := xr (show i < ln 101 from h)
theorem xs101 {α : Type} {i : Nat} {a : Option α} (h : i < 6) : (if nI i < nI 0 ∨ ln 101 ≤ (nI i).toNatClampNeg then none else a) = a := xr (show i < ln 101 from h)
theorem xr102 {α : Type} {i : Nat} {a : Option α} (h : i < 6) : (if nI i < 0 ∨ ln 102 ≤ (nI i).toNatClampNeg then none else a) = a := xr (show i < ln 102 from h)
theorem xs102 {α : Type} {i : Nat} {a : Option α} (h : i < 6) : (if nI i < nI 0 ∨ ln 102 ≤ (nI i).toNatClampNeg then none else a) = a := xr (show i < ln 102 from h)
theorem xr103 {α : Type} {i : Nat} {a : Option α} (h : i < 6) : (if nI i < 0 ∨ ln 103 ≤ (nI i).toNatClampNeg then none else a) = a := xr (show i < ln 103 from h)
theorem xs103 {α : Type} {i : Nat} {a : Option α} (h : i < 6) : (if nI i < nI 0 ∨ ln 103 ≤ (nI i).toNatClampNeg then none else a) = a := xr (show i < ln 103 from h)
theorem xr104 {α : Type} {i : Nat} {a : Option α} (h : i < 6) : (if nI i < 0 ∨ ln 104 ≤ (nI i).toNatClampNeg then none else a) = a := xr (show i < ln 104 from h)
theorem xs104 {α : Type} {i : Nat} {a : Option α} (h : i < 6) : (if nI i < nI 0 ∨ ln 104 ≤ (nI i).toNatClampNeg then none else a) = a := xr (show i < ln 104 from h)
theorem xr105 {α : Type} {i : Nat} {a : Option α} (h : i < 8) : (if nI i < 0 ∨ ln 105 ≤ (nI i).toNatClampNeg then none else a) = a := xr (show i < ln 105 from h)
theorem xs105 {α : Type} {i : Nat} {a : Option α} (h : i < 8) : (if nI i < nI 0 ∨ ln 105 ≤ (nI i).toNatClampNeg then none else a) = a := xr (show i < ln 105 from h)
theorem xr106 {α : Type} {i : Nat} {a : Option α} (h : i < 6) : (if nI i < 0 ∨ ln 106 ≤ (nI i).toNatClampNeg then none else a) = a := xr (show i < ln 106 from h)
theorem xs106 {α : Type} {i : Nat} {a : Option α} (h : i < 6) : (if nI i < nI 0 ∨ ln 106 ≤ (nI i).toNatClampNeg then none else a) = a := xr (show i < ln 106 from h)
theorem xr107 {α : Type} {i : Nat} {a : Option α} (h : i < 12) : (if nI i < 0 ∨ ln 107 ≤ (nI i).toNatClampNeg then none else a) = a := xr (show i < ln 107 from h)
theorem xs107 {α : Type} {i : Nat} {a : Option α} (h : i < 12) : (if nI i < nI 0 ∨ ln 107 ≤ (nI i).toNatClampNeg then none else a) = a := xr (show i < ln 107 from h)
theorem xr108 {α : Type} {i : Nat} {a : Option α} (h : i < 6) : (if nI i < 0 ∨ ln 108 ≤ (nI i).toNatClampNeg then none else a) = a := xr (show i < ln 108 from h)
theorem xs108 {α : Type} {i : Nat} {a : Option α} (h : i < 6) : (if nI i < nI 0 ∨ ln 108 ≤ (nI i).toNatClampNeg then none else a) = a := xr (show i < ln 108 from h)
theorem xr109 {α : Type} {i : Nat} {a : Option α} (h : i < 6) : (if nI i < 0 ∨ ln 109 ≤ (nI i).toNatClampNeg then none else a) = a := xr (show i < ln 109 from h)
theorem xs109 {α : Type} {i : Nat} {a : Option α} (h : i < 6) : (if nI i < nI 0 ∨ ln 109 ≤ (nI i).toNatClampNeg then none else a) = a := xr (show i < ln 109 from h)
theorem xr110 {α : Type} {i : Nat} {a : Option α} (h : i < 6) : (if nI i < 0 ∨ ln 110 ≤ (nI i).toNatClampNeg then none else a) = a := xr (show i < ln 110 from h)
theorem xs110 {α : Type} {i : Nat} {a : Option α} (h : i < 6) : (if nI i < nI 0 ∨ ln 110 ≤ (nI i).toNatClampNeg then none else a) = a := xr (show i < ln 110 from h)
theorem xr78 {α : Type} {i : Nat} {a : Option α} (h : i < 100) : (if nI i < 0 ∨ ln 78 ≤ (nI i).toNatClampNeg then none else a) = a := xr (show i < ln 78 from h)
theorem xs78 {α : Type} {i : Nat} {a : Option α} (h : i < 100) : (if nI i < nI 0 ∨ ln 78 ≤ (nI i).toNatClampNeg then none else a) = a := xr (show i < ln 78 from h)
theorem xr79 {α : Type} {i : Nat} {a : Option α} (h : i < 100) : (if nI i < 0 ∨ ln 79 ≤ (nI i).toNatClampNeg then none else a) = a := xr (show i < ln 79 from h)
theorem xs79 {α : Type} {i : Nat} {a : Option α} (h : i < 100) : (if nI i < nI 0 ∨ ln 79 ≤ (nI i).toNatClampNeg then none else a) = a := xr (show i < ln 79 from h)
theorem xr111 {α : Type} {i : Nat} {a : Option α} (h : i < 100) : (if nI i < 0 ∨ ln 111 ≤ (nI i).toNatClampNeg then none else a) = a := xr (show i < ln 111 from h)
theorem xs111 {α : Type} {i : Nat} {a : Option α} (h : i < 100) : (if nI i < nI 0 ∨ ln 111 ≤ (nI i).toNatClampNeg then none else a) = a := xr (show i < ln 111 from h)
theorem xr112 {α : Type} {i : Nat} {a : Option α} (h : i < 100) : (if nI i < 0 ∨ ln 112 ≤ (nI i).toNatClampNeg then none else a) = a := xr (show i < ln 112 from h)
theorem xs112 {α : Type} {i : Nat} {a : Option α} (h : i < 100) : (if nI i < nI 0 ∨ ln 112 ≤ (nI i).toNatClampNeg then none else a) = a := xr (show i < ln 112 from h)
theorem ltsub {a b : Nat} (ha : a < 1073741824) (hb : b < 1073741824) : (nI 0 < nI a - nI b) = (b < a) := by
  rw [Int32.lt_iff_toInt_lt, pk_sub_toInt ha hb, nI_toInt (by decide)]
  exact propext (by omega)
theorem lesub {a b : Nat} (ha : a < 1073741824) (hb : b < 1073741824) : (nI a - nI b ≤ nI 0) = (a ≤ b) := by
  rw [Int32.le_iff_toInt_le, pk_sub_toInt ha hb, nI_toInt (by decide)]
  exact propext (by omega)
theorem subsub (a b c : Nat) : nI a - nI b - nI c = nI a - nI (b + c) := by
  rw [← nI_add, Int32.sub_sub]
/-- the first of m numbers from d on; -9: none -/
def srch (p : Nat → Bool) : Nat → Nat → Int32
  | 0, _ => -9
  | m + 1, d => if p d then nI d else srch p m (d + 1)
/-- how many of m numbers from d on -/
def cntF (p : Nat → Bool) : Nat → Nat → Nat
  | 0, _ => 0
  | m + 1, d => (if p d then 1 else 0) + cntF p m (d + 1)
theorem cntF_le (p : Nat → Bool) : ∀ m d, cntF p m d ≤ m := by
  intro m
  induction m with
  | zero => intro d; exact Nat.le_refl _
  | succ m ih => intro d; have := ih (d + 1); unfold cntF; split <;> omega
/-- how many below n -/
def cnt (p : Nat → Bool) : Nat → Nat
  | 0 => 0
  | n + 1 => cnt p n + (if p n then 1 else 0)
theorem cnt_le (p : Nat → Bool) : ∀ n, cnt p n ≤ n := by
  intro n
  induction n with
  | zero => exact Nat.le_refl _
  | succ n ih => unfold cnt; split <;> omega
theorem cnt_cg {f g : Nat → Bool} : ∀ n, (∀ i, i < n → f i = g i) → cnt f n = cnt g n := by
  intro n
  induction n with
  | zero => intro _; rfl
  | succ n ih =>
    intro h
    unfold cnt
    rw [ih (fun i hi => h i (by omega)), h n (by omega)]
theorem pc_add : ∀ n, n < 6 → ∀ s, s < 2 ^ n → pc (s + 2 ^ n) = pc s + 1 := by decide +kernel
theorem pc_bset (f : Nat → Bool) : ∀ n, n ≤ 6 → pc (bset f n) = cnt f n := by
  intro n
  induction n with
  | zero => intro _; simp [bset, pc, cnt]
  | succ n ih =>
    intro h
    have := ih (by omega)
    unfold bset cnt
    by_cases hf : f n = true
    · rw [if_pos hf, if_pos hf, pc_add n (by omega) _ (bset_lt f n), this]
    · rw [if_neg hf, if_neg hf, Nat.add_zero, this, Nat.add_zero]
theorem bset_self {n s : Nat} (h : s < 2 ^ n) : bset (fun i => s.testBit i) n = s := by
  apply Nat.eq_of_testBit_eq
  intro i
  rw [bset_bit]
  by_cases hi : i < n
  · simp [hi]
  · have : s.testBit i = false := Nat.testBit_lt_two_pow (Nat.lt_of_lt_of_le h (Nat.pow_le_pow_right (by decide) (by omega)))
    simp [this]
theorem pc_self {n s : Nat} (hn : n ≤ 6) (h : s < 2 ^ n) : pc s = cnt (fun i => s.testBit i) n := by
  rw [← pc_bset _ n hn, bset_self h]
def pcr : Nat → Nat → Nat
  | 0, _ => 0
  | m + 1, s => s % 2 + pcr m (s / 2)
theorem pcr_0 : ∀ m, pcr m 0 = 0 := by
  intro m
  induction m with
  | zero => rfl
  | succ m ih => unfold pcr; rw [Nat.zero_div, ih]
theorem pcr_6 (s : Nat) : pcr 6 s = pc s := by
  simp only [pcr, pc, Nat.div_div_eq_div_mul]
  omega
theorem and_1 {n : Nat} (h : n < 2147483648) : nI n &&& nI 1 = nI (n % 2) := pk_andN (by omega) 1 (by decide)
theorem shr_1 {n : Nat} (h : n < 2147483648) : nI n >>> (nI 1 &&& 31) = nI (n / 2) := pk_shrN (by omega) _ 1 (by decide)
theorem bits_X4 {fu : Nat} {M : Mm} : ∀ (m n s a : Nat), s < 2 ^ m → m < n → m ≤ 20 → F_X7_bits_4 fu M n (nI a) (nI s) = some (nI (a + pcr m s)) := by
  intro m
  induction m with
  | zero =>
    intro n s a hs hn _
    obtain ⟨n, rfl⟩ : ∃ q, n = q + 1 := ⟨n - 1, by omega⟩
    have : s = 0 := by simpa using hs
    subst this
    unfold F_X7_bits_4
    simp (disch := omega) only [L0, L1, L2, L3, L4, L5, L6, L7, L8, L9, L10, L11, L12, L13, L14, L15, L20, L32, L40, L48, L60, L61, L99, L100, L104, L105, L108, L109, L115, L119, L122, L780, L795, L1000, L1000000, leN, ltN, eqN, clN, nI_add, pk_mul, if_pos, if_neg, lt1_s, ob1_s, ob2_s, op1_n, op1_s]
    rfl
  | succ m ih =>
    intro n s a hs hn hm
    obtain ⟨n, rfl⟩ : ∃ q, n = q + 1 := ⟨n - 1, by omega⟩
    have h2 : s < 2 ^ 21 := Nat.lt_of_lt_of_le hs (Nat.pow_le_pow_right (by decide) (by omega))
    have hs2 : s / 2 < 2 ^ m := by rw [Nat.pow_succ] at hs; omega
    unfold F_X7_bits_4
    by_cases h : s = 0
    · subst h
      simp (disch := omega) only [L0, L1, L2, L3, L4, L5, L6, L7, L8, L9, L10, L11, L12, L13, L14, L15, L20, L32, L40, L48, L60, L61, L99, L100, L104, L105, L108, L109, L115, L119, L122, L780, L795, L1000, L1000000, leN, ltN, eqN, clN, nI_add, pk_mul, if_pos, if_neg, lt1_s, ob1_s, ob2_s, op1_n, op1_s]
      rw [pcr_0, Nat.add_zero]
    · simp (disch := omega) only [L0, L1, L2, L3, L4, L5, L6, L7, L8, L9, L10, L11, L12, L13, L14, L15, L20, L32, L40, L48, L60, L61, L99, L100, L104, L105, L108, L109, L115, L119, L122, L780, L795, L1000, L1000000, leN, ltN, eqN, clN, nI_add, pk_mul, if_pos, if_neg, lt1_s, ob1_s, ob2_s, op1_n, op1_s, and_1, shr_1]
      rw [ih n (s / 2) _ hs2 (by omega) (by omega), Nat.add_assoc]
      rfl
theorem bits_X {fu : Nat} (hf : 1000 ≤ fu) {M : Mm} {s : Nat} (hs : s < 64) : F_X7_bits fu M (nI s) = some (nI (pc s)) := by
  unfold F_X7_bits
  rw [L0, bits_X4 6 fu s 0 hs (by omega) (by decide), Nat.zero_add, pcr_6]

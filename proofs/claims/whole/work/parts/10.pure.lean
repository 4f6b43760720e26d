/-! ===== the methods as functions, by program out of the bytecode ===== -/
def X5_add_b0 (μ : wd_Mem) (x1 : Int32) : Option (Int32 × wd_Mem) :=
  (if (μ 1 1) < (100 : Int32) then wd_chk (wd_in (μ 1 1) 100) (some ((1 : Int32), (mset (mset μ 2 (Int32.toNatClampNeg (μ 1 1)) x1) 1 1 ((μ 1 1) + (1 : Int32))))) else some ((0 : Int32), μ))
def X5_add (μ : wd_Mem) (x1 : Int32) : Option (Int32 × wd_Mem) := X5_add_b0 μ x1
def X7_type_b11 (μ : wd_Mem) : Option (Int32 × wd_Mem) :=
  some ((-1 : Int32), μ)
def X7_type_b0 (μ : wd_Mem) (x1 : Int32) : Option (Int32 × wd_Mem) :=
  (if x1 < 0 then X7_type_b11 μ else (if x1 ≤ (255 : Int32) then (X5_add μ x1).bind (fun r3 => (if r3.1 = 0 then some ((-3 : Int32), r3.2) else some ((r3.2 1 1), r3.2))) else X7_type_b11 μ))
def X7_type (μ : wd_Mem) (x1 : Int32) : Option (Int32 × wd_Mem) := X7_type_b0 μ x1
def X7_clear_b0 (μ : wd_Mem) : Option (Int32 × wd_Mem) :=
  some ((μ 1 1), (mset μ 1 1 (0 : Int32)))
def X7_clear (μ : wd_Mem) : Option (Int32 × wd_Mem) := X7_clear_b0 μ
def X4_forget_b0 (h0 : Nat) (μ : wd_Mem) : Option (wd_Mem) :=
  some (mset (mset μ h0 0 (3 : Int32)) h0 1 (0 : Int32))
def X4_forget (h0 : Nat) (μ : wd_Mem) : Option (wd_Mem) := X4_forget_b0 h0 μ
def X5_isDigit_b16 (μ : wd_Mem) : Int32 :=
  (0 : Int32)
def X5_isDigit_b0 (μ : wd_Mem) (x0 : Int32) : Int32 :=
  (if x0 < (48 : Int32) then X5_isDigit_b16 μ else (if (57 : Int32) < x0 then X5_isDigit_b16 μ else (1 : Int32)))
def X5_isDigit (μ : wd_Mem) (x0 : Int32) : Int32 := X5_isDigit_b0 μ x0
def X5_nextNumber_c5 (rec : wd_Mem → Option (wd_Mem)) (k : wd_Mem → Option (wd_Mem)) (μ : wd_Mem) : Option (wd_Mem) :=
  (if (μ 1 1) ≤ (μ 1 2) then k μ else wd_chk (wd_in (μ 1 2) 100) ((if (X5_isDigit μ (μ 2 (Int32.toNatClampNeg (μ 1 2)))) = 0 then k μ else rec (mset (mset μ 1 5 (if ((((μ 1 5) * (10 : Int32)) + (μ 2 (Int32.toNatClampNeg (μ 1 2)))) - (48 : Int32)) < (100 : Int32) then ((((μ 1 5) * (10 : Int32)) + (μ 2 (Int32.toNatClampNeg (μ 1 2)))) - (48 : Int32)) else (100 : Int32))) 1 2 ((μ 1 2) + (1 : Int32))))))
def X5_nextNumber_l5 (k : wd_Mem → Option (wd_Mem)) : Nat → wd_Mem → Option (wd_Mem)
  | 0, _ => none
  | n + 1, μ => X5_nextNumber_c5 (X5_nextNumber_l5 k n) k μ
def X5_nextNumber_b117 (μ : wd_Mem) (s1 : Int32) : Option (wd_Mem) :=
  some (mset μ 1 3 s1)
def X5_nextNumber_b105 (μ : wd_Mem) (s0 : Int32) : Option (wd_Mem) :=
  (if s0 = 0 then X5_nextNumber_b117 μ (-2 : Int32) else X5_nextNumber_b117 μ (-1 : Int32))
def X5_nextNumber_b104 (μ : wd_Mem) : Option (wd_Mem) :=
  X5_nextNumber_b105 μ (0 : Int32)
def X5_nextNumber_b73 (μ : wd_Mem) : Option (wd_Mem) :=
  wd_chk (wd_in (μ 1 4) 100) ((if (μ 2 (Int32.toNatClampNeg (μ 1 4))) = (48 : Int32) then (if ((μ 1 2) - (μ 1 4)) ≤ (1 : Int32) then X5_nextNumber_b104 μ else X5_nextNumber_b105 μ (1 : Int32)) else X5_nextNumber_b104 μ))
def X5_nextNumber_b0 (μ : wd_Mem) : Option (wd_Mem) :=
  X5_nextNumber_l5 (fun μ => X5_nextNumber_b73 μ) wd_big (mset μ 1 5 (0 : Int32))
def X5_nextNumber (μ : wd_Mem) : Option (wd_Mem) := X5_nextNumber_b0 μ
def X5_nextToken_c0 (rec : wd_Mem → Option (wd_Mem)) (k : wd_Mem → Option (wd_Mem)) (μ : wd_Mem) : Option (wd_Mem) :=
  (if (μ 1 1) ≤ (μ 1 2) then k μ else wd_chk (wd_in (μ 1 2) 100) ((if (μ 2 (Int32.toNatClampNeg (μ 1 2))) = (32 : Int32) then rec (mset μ 1 2 ((μ 1 2) + (1 : Int32))) else k μ)))
def X5_nextToken_l0 (k : wd_Mem → Option (wd_Mem)) : Nat → wd_Mem → Option (wd_Mem)
  | 0, _ => none
  | n + 1, μ => X5_nextToken_c0 (X5_nextToken_l0 k n) k μ
def X5_nextToken_b38 (μ : wd_Mem) : Option (wd_Mem) :=
  (if (μ 1 2) < (μ 1 1) then wd_chk (wd_in (μ 1 2) 100) ((if (X5_isDigit (mset (mset μ 1 4 (μ 1 2)) 1 3 (-1 : Int32)) (μ 2 (Int32.toNatClampNeg (μ 1 2)))) = 0 then some (mset (mset (mset (mset μ 1 4 (μ 1 2)) 1 3 (-1 : Int32)) 1 3 (μ 2 (Int32.toNatClampNeg (μ 1 2)))) 1 2 ((μ 1 2) + (1 : Int32))) else (X5_nextNumber (mset (mset μ 1 4 (μ 1 2)) 1 3 (-1 : Int32))).bind (fun r7 => some r7))) else some (mset (mset μ 1 4 (μ 1 2)) 1 3 (-1 : Int32)))
def X5_nextToken_b0 (μ : wd_Mem) : Option (wd_Mem) :=
  X5_nextToken_l0 (fun μ => X5_nextToken_b38 μ) wd_big μ
def X5_nextToken (μ : wd_Mem) : Option (wd_Mem) := X5_nextToken_b0 μ
def X5_readNumber_b33 (μ : wd_Mem) : Option (Int32 × wd_Mem) :=
  some ((0 : Int32), μ)
def X5_readNumber_b0 (μ : wd_Mem) (x1 x2 : Int32) : Option (Int32 × wd_Mem) :=
  (X5_nextToken μ).bind (fun r1 => (if (r1 1 3) = (-2 : Int32) then (if (r1 1 5) < x1 then X5_readNumber_b33 r1 else (if x2 < (r1 1 5) then X5_readNumber_b33 r1 else some ((1 : Int32), r1))) else X5_readNumber_b33 r1))
def X5_readNumber (μ : wd_Mem) (x1 x2 : Int32) : Option (Int32 × wd_Mem) := X5_readNumber_b0 μ x1 x2
def X5_readRoom_b0 (h1 : Nat) (μ : wd_Mem) : Option (Int32 × wd_Mem) :=
  (X5_readNumber μ (1 : Int32) (20 : Int32)).bind (fun r1 => (if r1.1 = 0 then some ((0 : Int32), r1.2) else some ((1 : Int32), (mset r1.2 h1 0 (r1.2 1 5)))))
def X5_readRoom (h1 : Nat) (μ : wd_Mem) : Option (Int32 × wd_Mem) := X5_readRoom_b0 h1 μ
def X6_placeOf_b0 (μ : wd_Mem) (x0 x1 : Int32) : Int32 :=
  ((x1 * (5 : Int32)) + x0)
def X6_placeOf (μ : wd_Mem) (x0 x1 : Int32) : Int32 := X6_placeOf_b0 μ x0 x1
def X6_move_b0 (h0 : Nat) (μ : wd_Mem) (x1 x2 x3 x4 x5 : Int32) : Option (wd_Mem) :=
  wd_chk (wd_in (X6_placeOf μ x1 x2) 10) (some (mset (mset (mset μ (h0 + 1) (Int32.toNatClampNeg (X6_placeOf μ x1 x2)) x3) (h0 + 2) (Int32.toNatClampNeg (X6_placeOf μ x1 x2)) x4) (h0 + 3) (Int32.toNatClampNeg (X6_placeOf μ x1 x2)) x5))
def X6_move (h0 : Nat) (μ : wd_Mem) (x1 x2 x3 x4 x5 : Int32) : Option (wd_Mem) := X6_move_b0 h0 μ x1 x2 x3 x4 x5
def X6_open_b0 (h0 : Nat) (μ : wd_Mem) (x1 x2 x3 : Int32) : Option (wd_Mem) :=
  (X6_move h0 μ x1 (0 : Int32) x2 (-9 : Int32) (-9 : Int32)).bind (fun r1 => (X6_move h0 r1 x1 (1 : Int32) x3 (-9 : Int32) (-9 : Int32)).bind (fun r2 => some r2))
def X6_open (h0 : Nat) (μ : wd_Mem) (x1 x2 x3 : Int32) : Option (wd_Mem) := X6_open_b0 h0 μ x1 x2 x3
def X4_add_b0 (h0 : Nat) (μ : wd_Mem) (x1 x2 : Int32) : Option (wd_Mem) :=
  (if (5 : Int32) ≤ (μ h0 1) then some μ else wd_chk (wd_in (μ h0 1) 5) (wd_chk (wd_in ((mset μ (h0 + 1) (Int32.toNatClampNeg (μ h0 1)) x1) h0 1) 5) (some (mset (mset (mset μ (h0 + 1) (Int32.toNatClampNeg (μ h0 1)) x1) (h0 + 2) (Int32.toNatClampNeg ((mset μ (h0 + 1) (Int32.toNatClampNeg (μ h0 1)) x1) h0 1)) x2) h0 1 (((mset (mset μ (h0 + 1) (Int32.toNatClampNeg (μ h0 1)) x1) (h0 + 2) (Int32.toNatClampNeg ((mset μ (h0 + 1) (Int32.toNatClampNeg (μ h0 1)) x1) h0 1)) x2) h0 1) + (1 : Int32))))))
def X4_add (h0 : Nat) (μ : wd_Mem) (x1 x2 : Int32) : Option (wd_Mem) := X4_add_b0 h0 μ x1 x2
def X5_readTask_b27 (h1 : Nat) (h2 : Nat) (μ : wd_Mem) : Option (Int32 × wd_Mem) :=
  some ((0 : Int32), μ)
def X5_readTask_b0 (h1 : Nat) (h2 : Nat) (μ : wd_Mem) : Option (Int32 × wd_Mem) :=
  (if (μ 1 3) = (116 : Int32) then (if (5 : Int32) ≤ (μ h1 1) then X5_readTask_b27 h1 h2 μ else (X5_readNumber μ (0 : Int32) (15 : Int32)).bind (fun r3 => (if r3.1 = 0 then X5_readTask_b27 h1 h2 r3.2 else (X5_readNumber r3.2 ((r3.2 1 5) + (1 : Int32)) (16 : Int32)).bind (fun r5 => (if r5.1 = 0 then some ((0 : Int32), r5.2) else (X5_readNumber r5.2 (1 : Int32) (if ((r5.2 1 5) - (r3.2 1 5)) < (9 : Int32) then ((r5.2 1 5) - (r3.2 1 5)) else (9 : Int32))).bind (fun r7 => (if r7.1 = 0 then some ((0 : Int32), r7.2) else (X5_readNumber r7.2 (1 : Int32) (if (r7.2 h1 0) < (9 : Int32) then (r7.2 h1 0) else (9 : Int32))).bind (fun r9 => (if r9.1 = 0 then some ((0 : Int32), r9.2) else (X6_open h2 r9.2 (r9.2 h1 1) (r3.2 1 5) (r5.2 1 5)).bind (fun r11 => (X4_add h1 r11 (r7.2 1 5) (r11 1 5)).bind (fun r12 => some ((1 : Int32), r12)))))))))))) else X5_readTask_b27 h1 h2 μ)
def X5_readTask (h1 : Nat) (h2 : Nat) (μ : wd_Mem) : Option (Int32 × wd_Mem) := X5_readTask_b0 h1 h2 μ
def X5_readItemEnd_b0 (μ : wd_Mem) : Option (Int32 × wd_Mem) :=
  (X5_nextToken μ).bind (fun r1 => (if (r1 1 3) = (59 : Int32) then some ((1 : Int32), r1) else some ((0 : Int32), r1)))
def X5_readItemEnd (μ : wd_Mem) : Option (Int32 × wd_Mem) := X5_readItemEnd_b0 μ
def X5_read_b69 (rec : Int32 → wd_Mem → Option (Int32 × wd_Mem)) (k : wd_Mem → Option (Int32 × wd_Mem)) (h1 : Nat) (h2 : Nat) (μ : wd_Mem) (x3 s0 : Int32) : Option (Int32 × wd_Mem) :=
  (if s0 = 0 then some (((-10 : Int32) - (μ 1 4)), μ) else (X5_readItemEnd μ).bind (fun r8 => (if r8.1 = 0 then some (((-10 : Int32) - (r8.2 1 4)), r8.2) else rec (x3 + (1 : Int32)) r8.2)))
def X5_read_b59 (rec : Int32 → wd_Mem → Option (Int32 × wd_Mem)) (k : wd_Mem → Option (Int32 × wd_Mem)) (h1 : Nat) (h2 : Nat) (μ : wd_Mem) (x3 : Int32) : Option (Int32 × wd_Mem) :=
  X5_read_b69 rec k h1 h2 μ x3 (0 : Int32)
def X5_read_c11 (rec : Int32 → wd_Mem → Option (Int32 × wd_Mem)) (k : wd_Mem → Option (Int32 × wd_Mem)) (h1 : Nat) (h2 : Nat) (μ : wd_Mem) (x3 : Int32) : Option (Int32 × wd_Mem) :=
  (if (100 : Int32) < x3 then k μ else (X5_nextToken μ).bind (fun r3 => (if (r3 1 4) < (r3 1 1) then (if (r3 1 3) = (99 : Int32) then (if x3 = 0 then (X5_readRoom h1 r3).bind (fun r11 => (if r11.1 = 0 then X5_read_b59 rec k h1 h2 r11.2 x3 else X5_read_b69 rec k h1 h2 r11.2 x3 (1 : Int32))) else X5_read_b59 rec k h1 h2 r3 x3) else (X5_readTask h1 h2 r3).bind (fun r6 => X5_read_b69 rec k h1 h2 r6.2 x3 r6.1)) else some (x3, r3))))
def X5_read_l11 (k : wd_Mem → Option (Int32 × wd_Mem)) (h1 : Nat) (h2 : Nat) : Nat → Int32 → wd_Mem → Option (Int32 × wd_Mem)
  | 0, _, _ => none
  | n + 1, x3, μ => X5_read_c11 (X5_read_l11 k h1 h2 n) k h1 h2 μ x3
def X5_read_b97 (h1 : Nat) (h2 : Nat) (μ : wd_Mem) : Option (Int32 × wd_Mem) :=
  some (((-10 : Int32) - (μ 1 1)), μ)
def X5_read_b0 (h1 : Nat) (h2 : Nat) (μ : wd_Mem) : Option (Int32 × wd_Mem) :=
  (X4_forget h1 μ).bind (fun r1 => X5_read_l11 (fun μ => X5_read_b97 h1 h2 μ) h1 h2 wd_big (0 : Int32) (mset r1 1 2 (0 : Int32)))
def X5_read (h1 : Nat) (h2 : Nat) (μ : wd_Mem) : Option (Int32 × wd_Mem) := X5_read_b0 h1 h2 μ
def X4_take_c18 (rec : Int32 → wd_Mem → Option (wd_Mem)) (k : wd_Mem → Option (wd_Mem)) (h0 : Nat) (h1 : Nat) (μ : wd_Mem) (x2 : Int32) : Option (wd_Mem) :=
  (if (5 : Int32) ≤ x2 then k μ else wd_chk (wd_in x2 5) (rec (x2 + (1 : Int32)) (mset (mset μ (h0 + 1) (Int32.toNatClampNeg x2) (μ (h1 + 1) (Int32.toNatClampNeg x2))) (h0 + 2) (Int32.toNatClampNeg x2) ((mset μ (h0 + 1) (Int32.toNatClampNeg x2) (μ (h1 + 1) (Int32.toNatClampNeg x2))) (h1 + 2) (Int32.toNatClampNeg x2)))))
def X4_take_l18 (k : wd_Mem → Option (wd_Mem)) (h0 : Nat) (h1 : Nat) : Nat → Int32 → wd_Mem → Option (wd_Mem)
  | 0, _, _ => none
  | n + 1, x2, μ => X4_take_c18 (X4_take_l18 k h0 h1 n) k h0 h1 μ x2
def X4_take_b53 (h0 : Nat) (h1 : Nat) (μ : wd_Mem) : Option (wd_Mem) :=
  some μ
def X4_take_b0 (h0 : Nat) (h1 : Nat) (μ : wd_Mem) : Option (wd_Mem) :=
  X4_take_l18 (fun μ => X4_take_b53 h0 h1 μ) h0 h1 wd_big (0 : Int32) (mset (mset μ h0 0 (μ h1 0)) h0 1 ((mset μ h0 0 (μ h1 0)) h1 1))
def X4_take (h0 : Nat) (h1 : Nat) (μ : wd_Mem) : Option (wd_Mem) := X4_take_b0 h0 h1 μ
def X6_take_c2 (rec : Int32 → wd_Mem → Option (wd_Mem)) (k : wd_Mem → Option (wd_Mem)) (h0 : Nat) (h1 : Nat) (μ : wd_Mem) (x2 : Int32) : Option (wd_Mem) :=
  (if (10 : Int32) ≤ x2 then k μ else wd_chk (wd_in x2 10) (rec (x2 + (1 : Int32)) (mset (mset (mset μ (h0 + 1) (Int32.toNatClampNeg x2) (μ (h1 + 1) (Int32.toNatClampNeg x2))) (h0 + 2) (Int32.toNatClampNeg x2) ((mset μ (h0 + 1) (Int32.toNatClampNeg x2) (μ (h1 + 1) (Int32.toNatClampNeg x2))) (h1 + 2) (Int32.toNatClampNeg x2))) (h0 + 3) (Int32.toNatClampNeg x2) ((mset (mset μ (h0 + 1) (Int32.toNatClampNeg x2) (μ (h1 + 1) (Int32.toNatClampNeg x2))) (h0 + 2) (Int32.toNatClampNeg x2) ((mset μ (h0 + 1) (Int32.toNatClampNeg x2) (μ (h1 + 1) (Int32.toNatClampNeg x2))) (h1 + 2) (Int32.toNatClampNeg x2))) (h1 + 3) (Int32.toNatClampNeg x2)))))
def X6_take_l2 (k : wd_Mem → Option (wd_Mem)) (h0 : Nat) (h1 : Nat) : Nat → Int32 → wd_Mem → Option (wd_Mem)
  | 0, _, _ => none
  | n + 1, x2, μ => X6_take_c2 (X6_take_l2 k h0 h1 n) k h0 h1 μ x2
def X6_take_b50 (h0 : Nat) (h1 : Nat) (μ : wd_Mem) : Option (wd_Mem) :=
  some μ
def X6_take_b0 (h0 : Nat) (h1 : Nat) (μ : wd_Mem) : Option (wd_Mem) :=
  X6_take_l2 (fun μ => X6_take_b50 h0 h1 μ) h0 h1 wd_big (0 : Int32) μ
def X6_take (h0 : Nat) (h1 : Nat) (μ : wd_Mem) : Option (wd_Mem) := X6_take_b0 h0 h1 μ
def X7_desk_c62 (rec : Int32 → wd_Mem → Option (Int32 × wd_Mem)) (k : wd_Mem → Option (Int32 × wd_Mem)) (μ : wd_Mem) (x1 x2 : Int32) : Option (Int32 × wd_Mem) :=
  (if (2 : Int32) ≤ x2 then k μ else wd_chk (wd_in x2 2) (rec (x2 + (1 : Int32)) (mset μ 30 (Int32.toNatClampNeg x2) (vp_nar .boolean (0 : Int32)))))
def X7_desk_l62 (k : wd_Mem → Option (Int32 × wd_Mem)) (x1 : Int32) : Nat → Int32 → wd_Mem → Option (Int32 × wd_Mem)
  | 0, _, _ => none
  | n + 1, x2, μ => X7_desk_c62 (X7_desk_l62 k x1 n) k μ x1 x2
def X7_desk_b80 (μ : wd_Mem) (x1 : Int32) : Option (Int32 × wd_Mem) :=
  some (x1, μ)
def X7_desk_b0 (μ : wd_Mem) : Option (Int32 × wd_Mem) :=
  (X5_read 6 52 μ).bind (fun r1 => (if 0 ≤ r1.1 then (X4_take 3 6 r1.2).bind (fun r3 => (X6_take 48 52 r3).bind (fun r4 => X7_desk_l62 (fun μ => X7_desk_b80 μ r1.1) r1.1 wd_big (0 : Int32) (mset (mset r4 1 1 (0 : Int32)) 27 2 (0 : Int32)))) else some (r1.1, r1.2)))
def X7_desk (μ : wd_Mem) : Option (Int32 × wd_Mem) := X7_desk_b0 μ
def X4_has_b16 (h0 : Nat) (μ : wd_Mem) : Int32 :=
  (0 : Int32)
def X4_has_b0 (h0 : Nat) (μ : wd_Mem) (x1 : Int32) : Int32 :=
  (if x1 < 0 then X4_has_b16 h0 μ else (if (μ h0 1) ≤ x1 then X4_has_b16 h0 μ else (1 : Int32)))
def X4_has (h0 : Nat) (μ : wd_Mem) (x1 : Int32) : Int32 := X4_has_b0 h0 μ x1
def X6_edge_b0 (h0 : Nat) (μ : wd_Mem) (x1 x2 : Int32) : Option (Int32) :=
  wd_chk (wd_in (X6_placeOf μ x1 x2) 10) (some (μ (h0 + 1) (Int32.toNatClampNeg (X6_placeOf μ x1 x2))))
def X6_edge (h0 : Nat) (μ : wd_Mem) (x1 x2 : Int32) : Option (Int32) := X6_edge_b0 h0 μ x1 x2
def X2_open_c2 (rec : Int32 → wd_Mem → Option (wd_Mem)) (k : wd_Mem → Option (wd_Mem)) (h1 : Nat) (μ : wd_Mem) (x2 : Int32) : Option (wd_Mem) :=
  (if (μ 3 1) ≤ x2 then k μ else (X6_edge h1 μ x2 (0 : Int32)).bind (fun r2 => wd_chk (wd_in x2 5) ((X6_edge h1 (mset μ 22 (Int32.toNatClampNeg x2) r2) x2 (1 : Int32)).bind (fun r4 => rec (x2 + (1 : Int32)) (mset (mset (mset μ 22 (Int32.toNatClampNeg x2) r2) 23 (Int32.toNatClampNeg x2) r4) 24 (Int32.toNatClampNeg x2) (μ 5 (Int32.toNatClampNeg x2)))))))
def X2_open_l2 (k : wd_Mem → Option (wd_Mem)) (h1 : Nat) : Nat → Int32 → wd_Mem → Option (wd_Mem)
  | 0, _, _ => none
  | n + 1, x2, μ => X2_open_c2 (X2_open_l2 k h1 n) k h1 μ x2
def X2_open_b58 (h1 : Nat) (μ : wd_Mem) : Option (wd_Mem) :=
  some μ
def X2_open_b0 (h1 : Nat) (μ : wd_Mem) : Option (wd_Mem) :=
  X2_open_l2 (fun μ => X2_open_b58 h1 μ) h1 wd_big (0 : Int32) μ
def X2_open (h1 : Nat) (μ : wd_Mem) : Option (wd_Mem) := X2_open_b0 h1 μ
def X2_pin_b0 (μ : wd_Mem) (x1 x2 : Int32) : Option (wd_Mem) :=
  wd_chk (wd_in x1 5) (some (mset (mset μ 22 (Int32.toNatClampNeg x1) x2) 23 (Int32.toNatClampNeg x1) (x2 + (μ 4 (Int32.toNatClampNeg x1)))))
def X2_pin (μ : wd_Mem) (x1 x2 : Int32) : Option (wd_Mem) := X2_pin_b0 μ x1 x2
def X2_hasRoom_b0 (μ : wd_Mem) (x1 x2 : Int32) : Option (Int32) :=
  wd_chk (wd_in x2 16) (wd_chk (wd_in x1 5) ((if (μ 3 0) < ((μ 26 (Int32.toNatClampNeg x2)) + (μ 24 (Int32.toNatClampNeg x1))) then some (0 : Int32) else some (1 : Int32))))
def X2_hasRoom (μ : wd_Mem) (x1 x2 : Int32) : Option (Int32) := X2_hasRoom_b0 μ x1 x2
def X2_earliestFit_b44 (rec : Int32 → Int32 → Option (Int32)) (k : Option (Int32)) (μ : wd_Mem) (x1 x3 s0 : Int32) : Option (Int32) :=
  wd_chk (wd_in x1 5) ((if s0 < (μ 4 (Int32.toNatClampNeg x1)) then rec s0 (x3 + (1 : Int32)) else some ((x3 + (1 : Int32)) - s0)))
def X2_earliestFit_c13 (rec : Int32 → Int32 → Option (Int32)) (k : Option (Int32)) (μ : wd_Mem) (x1 x2 x3 : Int32) : Option (Int32) :=
  wd_chk (wd_in x1 5) ((if (if (μ 23 (Int32.toNatClampNeg x1)) < (16 : Int32) then (μ 23 (Int32.toNatClampNeg x1)) else (16 : Int32)) ≤ x3 then k else (X2_hasRoom μ x1 x3).bind (fun r4 => (if r4 = 0 then X2_earliestFit_b44 rec k μ x1 x3 (0 : Int32) else X2_earliestFit_b44 rec k μ x1 x3 (x2 + (1 : Int32))))))
def X2_earliestFit_l13 (k : Option (Int32)) (μ : wd_Mem) (x1 : Int32) : Nat → Int32 → Int32 → Option (Int32)
  | 0, _, _ => none
  | n + 1, x2, x3 => X2_earliestFit_c13 (X2_earliestFit_l13 k μ x1 n) k μ x1 x2 x3
def X2_earliestFit_b70 (μ : wd_Mem) : Option (Int32) :=
  some (-9 : Int32)
def X2_earliestFit_b0 (μ : wd_Mem) (x1 : Int32) : Option (Int32) :=
  wd_chk (wd_in x1 5) (X2_earliestFit_l13 (X2_earliestFit_b70 μ) μ x1 wd_big (0 : Int32) (if (0 : Int32) < (μ 22 (Int32.toNatClampNeg x1)) then (μ 22 (Int32.toNatClampNeg x1)) else (0 : Int32)))
def X2_earliestFit (μ : wd_Mem) (x1 : Int32) : Option (Int32) := X2_earliestFit_b0 μ x1
def X2_fill_c3 (rec : Int32 → wd_Mem → Option (wd_Mem)) (k : wd_Mem → Option (wd_Mem)) (μ : wd_Mem) (x1 x2 x3 x4 : Int32) : Option (wd_Mem) :=
  wd_chk (wd_in x1 5) ((if (x2 + (μ 4 (Int32.toNatClampNeg x1))) ≤ x4 then k μ else (if (16 : Int32) ≤ x4 then k μ else wd_chk (wd_in x4 16) (rec (x4 + (1 : Int32)) (mset μ 26 (Int32.toNatClampNeg x4) ((μ 26 (Int32.toNatClampNeg x4)) + x3))))))
def X2_fill_l3 (k : wd_Mem → Option (wd_Mem)) (x1 x2 x3 : Int32) : Nat → Int32 → wd_Mem → Option (wd_Mem)
  | 0, _, _ => none
  | n + 1, x4, μ => X2_fill_c3 (X2_fill_l3 k x1 x2 x3 n) k μ x1 x2 x3 x4
def X2_fill_b43 (μ : wd_Mem) : Option (wd_Mem) :=
  some μ
def X2_fill_b0 (μ : wd_Mem) (x1 x2 x3 : Int32) : Option (wd_Mem) :=
  X2_fill_l3 (fun μ => X2_fill_b43 μ) x1 x2 x3 wd_big x2 μ
def X2_fill (μ : wd_Mem) (x1 x2 x3 : Int32) : Option (wd_Mem) := X2_fill_b0 μ x1 x2 x3
def X2_isAnyBeside_b96 (self : wd_Mem → Int32 → Int32 → Option (Int32 × wd_Mem)) (rec : Int32 → wd_Mem → Option (Int32 × wd_Mem)) (k : wd_Mem → Option (Int32 × wd_Mem)) (μ : wd_Mem) (x1 x2 x3 : Int32) : Option (Int32 × wd_Mem) :=
  rec (x3 + (1 : Int32)) μ
def X2_isAnyBeside_c15 (self : wd_Mem → Int32 → Int32 → Option (Int32 × wd_Mem)) (rec : Int32 → wd_Mem → Option (Int32 × wd_Mem)) (k : wd_Mem → Option (Int32 × wd_Mem)) (μ : wd_Mem) (x1 x2 x3 : Int32) : Option (Int32 × wd_Mem) :=
  (if (μ 3 1) ≤ x3 then k μ else (if ((x1 >>> (x3 &&& 31)) &&& (1 : Int32)) = 0 then (X2_earliestFit μ x3).bind (fun r4 => (if 0 ≤ r4 then wd_chk (wd_in x3 5) ((X2_fill μ x3 r4 (μ 24 (Int32.toNatClampNeg x3))).bind (fun r7 => (self r7 (x1 ||| ((1 : Int32) <<< (x3 &&& 31))) (x2 + (1 : Int32))).bind (fun r8 => (X2_fill r8.2 x3 r4 (-(r8.2 24 (Int32.toNatClampNeg x3)))).bind (fun r9 => (if r8.1 = 0 then X2_isAnyBeside_b96 self rec k r9 x1 x2 x3 else some ((1 : Int32), r9)))))) else some ((0 : Int32), μ))) else X2_isAnyBeside_b96 self rec k μ x1 x2 x3))
def X2_isAnyBeside_l15 (self : wd_Mem → Int32 → Int32 → Option (Int32 × wd_Mem)) (k : wd_Mem → Option (Int32 × wd_Mem)) (x1 x2 : Int32) : Nat → Int32 → wd_Mem → Option (Int32 × wd_Mem)
  | 0, _, _ => none
  | n + 1, x3, μ => X2_isAnyBeside_c15 self (X2_isAnyBeside_l15 self k x1 x2 n) k μ x1 x2 x3
def X2_isAnyBeside_b102 (self : wd_Mem → Int32 → Int32 → Option (Int32 × wd_Mem)) (μ : wd_Mem) : Option (Int32 × wd_Mem) :=
  some ((0 : Int32), μ)
def X2_isAnyBeside_b0 (self : wd_Mem → Int32 → Int32 → Option (Int32 × wd_Mem)) (μ : wd_Mem) (x1 x2 : Int32) : Option (Int32 × wd_Mem) :=
  (if x2 < (μ 3 1) then X2_isAnyBeside_l15 self (fun μ => X2_isAnyBeside_b102 self μ) x1 x2 wd_big (0 : Int32) μ else some ((1 : Int32), μ))
def X2_isAnyBeside : Nat → wd_Mem → Int32 → Int32 → Option (Int32 × wd_Mem)
  | 0, _, _, _ => none
  | n + 1, μ, x1, x2 => X2_isAnyBeside_b0 (X2_isAnyBeside n) μ x1 x2
def X2_isAny_b0 (μ : wd_Mem) : Option (Int32 × wd_Mem) :=
  (X2_isAnyBeside 8 μ (0 : Int32) (0 : Int32)).bind (fun r1 => wd_chk (wd_bit r1.1) (some (r1.1, r1.2)))
def X2_isAny (μ : wd_Mem) : Option (Int32 × wd_Mem) := X2_isAny_b0 μ
def X2_belong_b63 (rec : Int32 → Int32 → wd_Mem → Option (Int32 × wd_Mem)) (k : Int32 → wd_Mem → Option (Int32 × wd_Mem)) (h1 : Nat) (μ : wd_Mem) (x2 x4 x5 s0 s1 : Int32) : Option (Int32 × wd_Mem) :=
  rec (s0 ||| s1) (x5 + (1 : Int32)) μ
def X2_belong_c28 (rec : Int32 → Int32 → wd_Mem → Option (Int32 × wd_Mem)) (k : Int32 → wd_Mem → Option (Int32 × wd_Mem)) (h1 : Nat) (μ : wd_Mem) (x2 x3 x4 x5 : Int32) : Option (Int32 × wd_Mem) :=
  (if x4 < x5 then k x3 μ else (X2_open h1 μ).bind (fun r5 => (X2_pin r5 x2 x5).bind (fun r6 => (X2_isAny r6).bind (fun r7 => (if r7.1 = 0 then X2_belong_b63 rec k h1 r7.2 x2 x4 x5 x3 (0 : Int32) else X2_belong_b63 rec k h1 r7.2 x2 x4 x5 x3 ((1 : Int32) <<< (x5 &&& 31)))))))
def X2_belong_l28 (k : Int32 → wd_Mem → Option (Int32 × wd_Mem)) (h1 : Nat) (x2 x4 : Int32) : Nat → Int32 → Int32 → wd_Mem → Option (Int32 × wd_Mem)
  | 0, _, _, _ => none
  | n + 1, x3, x5, μ => X2_belong_c28 (X2_belong_l28 k h1 x2 x4 n) k h1 μ x2 x3 x4 x5
def X2_belong_b71 (h1 : Nat) (μ : wd_Mem) (x3 : Int32) : Option (Int32 × wd_Mem) :=
  some (x3, μ)
def X2_belong_b0 (h1 : Nat) (μ : wd_Mem) (x2 : Int32) : Option (Int32 × wd_Mem) :=
  (X6_edge h1 μ x2 (1 : Int32)).bind (fun r1 => wd_chk (wd_in x2 5) ((X6_edge h1 μ x2 (0 : Int32)).bind (fun r3 => X2_belong_l28 (fun x3 μ => X2_belong_b71 h1 μ x3) h1 x2 (r1 - (μ 4 (Int32.toNatClampNeg x2))) wd_big (0 : Int32) r3 μ)))
def X2_belong (h1 : Nat) (μ : wd_Mem) (x2 : Int32) : Option (Int32 × wd_Mem) := X2_belong_b0 h1 μ x2
def X2_pinFirst_c24 (rec : Int32 → wd_Mem → Option (wd_Mem)) (k : wd_Mem → Option (wd_Mem)) (μ : wd_Mem) (x1 x2 x3 : Int32) : Option (wd_Mem) :=
  (if x2 < x3 then k μ else (X2_pin μ x1 x3).bind (fun r3 => (X2_isAny r3).bind (fun r4 => (if r4.1 = 0 then rec (x3 + (1 : Int32)) r4.2 else some r4.2))))
def X2_pinFirst_l24 (k : wd_Mem → Option (wd_Mem)) (x1 x2 : Int32) : Nat → Int32 → wd_Mem → Option (wd_Mem)
  | 0, _, _ => none
  | n + 1, x3, μ => X2_pinFirst_c24 (X2_pinFirst_l24 k x1 x2 n) k μ x1 x2 x3
def X2_pinFirst_b49 (μ : wd_Mem) : Option (wd_Mem) :=
  some μ
def X2_pinFirst_b0 (μ : wd_Mem) (x1 : Int32) : Option (wd_Mem) :=
  wd_chk (wd_in x1 5) (X2_pinFirst_l24 (fun μ => X2_pinFirst_b49 μ) x1 ((μ 23 (Int32.toNatClampNeg x1)) - (μ 4 (Int32.toNatClampNeg x1))) wd_big (μ 22 (Int32.toNatClampNeg x1)) μ)
def X2_pinFirst (μ : wd_Mem) (x1 : Int32) : Option (wd_Mem) := X2_pinFirst_b0 μ x1
def X2_firstOf_c17 (rec : Int32 → wd_Mem → Option (Int32 × wd_Mem)) (k : wd_Mem → Option (Int32 × wd_Mem)) (h1 : Nat) (μ : wd_Mem) (x2 x3 : Int32) : Option (Int32 × wd_Mem) :=
  (if x2 < x3 then k μ else (X2_pinFirst μ x3).bind (fun r5 => rec (x3 + (1 : Int32)) r5))
def X2_firstOf_l17 (k : wd_Mem → Option (Int32 × wd_Mem)) (h1 : Nat) (x2 : Int32) : Nat → Int32 → wd_Mem → Option (Int32 × wd_Mem)
  | 0, _, _ => none
  | n + 1, x3, μ => X2_firstOf_c17 (X2_firstOf_l17 k h1 x2 n) k h1 μ x2 x3
def X2_firstOf_b33 (h1 : Nat) (μ : wd_Mem) (x2 : Int32) : Option (Int32 × wd_Mem) :=
  wd_chk (wd_in x2 5) (some ((μ 22 (Int32.toNatClampNeg x2)), μ))
def X2_firstOf_b0 (h1 : Nat) (μ : wd_Mem) (x2 : Int32) : Option (Int32 × wd_Mem) :=
  (X2_open h1 μ).bind (fun r1 => (X2_isAny r1).bind (fun r2 => (if r2.1 = 0 then some ((-9 : Int32), r2.2) else X2_firstOf_l17 (fun μ => X2_firstOf_b33 h1 μ x2) h1 x2 wd_big (0 : Int32) r2.2)))
def X2_firstOf (h1 : Nat) (μ : wd_Mem) (x2 : Int32) : Option (Int32 × wd_Mem) := X2_firstOf_b0 h1 μ x2
def X7_task_b0 (μ : wd_Mem) (x1 x2 : Int32) : Option (Int32 × wd_Mem) :=
  (if (X4_has 3 μ x1) = 0 then some ((-1 : Int32), μ) else (if x2 = nI 0 then (X6_edge 48 μ x1 (0 : Int32)).bind (fun r2 => some (r2, μ)) else (if x2 = nI 1 then (X6_edge 48 μ x1 (1 : Int32)).bind (fun r3 => some (r3, μ)) else (if x2 = nI 2 then wd_chk (wd_in x1 5) (some ((μ 4 (Int32.toNatClampNeg x1)), μ)) else (if x2 = nI 3 then wd_chk (wd_in x1 5) (some ((μ 5 (Int32.toNatClampNeg x1)), μ)) else (if x2 = nI 4 then (X2_belong 48 μ x1).bind (fun r6 => some (r6.1, r6.2)) else (if x2 = nI 5 then (X2_firstOf 48 μ x1).bind (fun r7 => some (r7.1, r7.2)) else some ((-1 : Int32), μ))))))))
def X7_task (μ : wd_Mem) (x1 x2 : Int32) : Option (Int32 × wd_Mem) := X7_task_b0 μ x1 x2
def X7_isZeroOrOne_b9 (μ : wd_Mem) : Int32 :=
  (1 : Int32)
def X7_isZeroOrOne_b0 (μ : wd_Mem) (x0 : Int32) : Int32 :=
  (if x0 = 0 then X7_isZeroOrOne_b9 μ else (if x0 = (1 : Int32) then X7_isZeroOrOne_b9 μ else (0 : Int32)))
def X7_isZeroOrOne (μ : wd_Mem) (x0 : Int32) : Int32 := X7_isZeroOrOne_b0 μ x0
def X6_ruleOf_b0 (h0 : Nat) (μ : wd_Mem) (x1 x2 : Int32) : Option (Int32) :=
  wd_chk (wd_in (X6_placeOf μ x1 x2) 10) (some (μ (h0 + 2) (Int32.toNatClampNeg (X6_placeOf μ x1 x2))))
def X6_ruleOf (h0 : Nat) (μ : wd_Mem) (x1 x2 : Int32) : Option (Int32) := X6_ruleOf_b0 h0 μ x1 x2
def X6_causeOf_b0 (h0 : Nat) (μ : wd_Mem) (x1 x2 : Int32) : Option (Int32) :=
  wd_chk (wd_in (X6_placeOf μ x1 x2) 10) (some (μ (h0 + 3) (Int32.toNatClampNeg (X6_placeOf μ x1 x2))))
def X6_causeOf (h0 : Nat) (μ : wd_Mem) (x1 x2 : Int32) : Option (Int32) := X6_causeOf_b0 h0 μ x1 x2
def X7_why_b25 (μ : wd_Mem) : Option (Int32) :=
  some (-1 : Int32)
def X7_why_b0 (μ : wd_Mem) (x1 x2 x3 : Int32) : Option (Int32) :=
  (if (X4_has 3 μ x1) = 0 then X7_why_b25 μ else (if (X7_isZeroOrOne μ x2) = 0 then X7_why_b25 μ else (if (X7_isZeroOrOne μ x3) = 0 then X7_why_b25 μ else (if x3 = 0 then (X6_ruleOf 48 μ x1 x2).bind (fun r6 => some r6) else (X6_causeOf 48 μ x1 x2).bind (fun r5 => some r5)))))
def X7_why (μ : wd_Mem) (x1 x2 x3 : Int32) : Option (Int32) := X7_why_b0 μ x1 x2 x3
def X4_energy_b0 (h0 : Nat) (μ : wd_Mem) (x1 : Int32) : Option (Int32) :=
  wd_chk (wd_in x1 5) (some ((μ (h0 + 1) (Int32.toNatClampNeg x1)) * (μ (h0 + 2) (Int32.toNatClampNeg x1))))
def X4_energy (h0 : Nat) (μ : wd_Mem) (x1 : Int32) : Option (Int32) := X4_energy_b0 h0 μ x1
def X3_sumUp_b0 (μ : wd_Mem) (x1 x2 : Int32) : Option (wd_Mem) :=
  wd_chk (wd_in x1 32) (wd_chk (wd_in x2 5) (wd_chk (wd_in (x1 ||| ((1 : Int32) <<< (x2 &&& 31))) 32) ((X4_energy 3 (mset (mset (mset μ 14 (Int32.toNatClampNeg (x1 ||| ((1 : Int32) <<< (x2 &&& 31)))) (if (μ 10 (Int32.toNatClampNeg x2)) < (μ 14 (Int32.toNatClampNeg x1)) then (μ 10 (Int32.toNatClampNeg x2)) else (μ 14 (Int32.toNatClampNeg x1)))) 15 (Int32.toNatClampNeg (x1 ||| ((1 : Int32) <<< (x2 &&& 31)))) (if (μ 15 (Int32.toNatClampNeg x1)) < (μ 11 (Int32.toNatClampNeg x2)) then (μ 11 (Int32.toNatClampNeg x2)) else (μ 15 (Int32.toNatClampNeg x1)))) 16 (Int32.toNatClampNeg (x1 ||| ((1 : Int32) <<< (x2 &&& 31)))) (if (μ 12 (Int32.toNatClampNeg x2)) < (μ 16 (Int32.toNatClampNeg x1)) then (μ 12 (Int32.toNatClampNeg x2)) else (μ 16 (Int32.toNatClampNeg x1)))) x2).bind (fun r4 => some (mset (mset (mset (mset μ 14 (Int32.toNatClampNeg (x1 ||| ((1 : Int32) <<< (x2 &&& 31)))) (if (μ 10 (Int32.toNatClampNeg x2)) < (μ 14 (Int32.toNatClampNeg x1)) then (μ 10 (Int32.toNatClampNeg x2)) else (μ 14 (Int32.toNatClampNeg x1)))) 15 (Int32.toNatClampNeg (x1 ||| ((1 : Int32) <<< (x2 &&& 31)))) (if (μ 15 (Int32.toNatClampNeg x1)) < (μ 11 (Int32.toNatClampNeg x2)) then (μ 11 (Int32.toNatClampNeg x2)) else (μ 15 (Int32.toNatClampNeg x1)))) 16 (Int32.toNatClampNeg (x1 ||| ((1 : Int32) <<< (x2 &&& 31)))) (if (μ 12 (Int32.toNatClampNeg x2)) < (μ 16 (Int32.toNatClampNeg x1)) then (μ 12 (Int32.toNatClampNeg x2)) else (μ 16 (Int32.toNatClampNeg x1)))) 17 (Int32.toNatClampNeg (x1 ||| ((1 : Int32) <<< (x2 &&& 31)))) ((μ 17 (Int32.toNatClampNeg x1)) + r4))))))
def X3_sumUp (μ : wd_Mem) (x1 x2 : Int32) : Option (wd_Mem) := X3_sumUp_b0 μ x1 x2
def X3_look_c116 (rec : Int32 → wd_Mem → Option (wd_Mem)) (k : wd_Mem → Option (wd_Mem)) (h1 : Nat) (μ : wd_Mem) (x2 x3 x4 : Int32) : Option (wd_Mem) :=
  (if ((1 : Int32) <<< (x3 &&& 31)) ≤ x4 then k μ else (X3_sumUp μ x4 x3).bind (fun r10 => rec (x4 + (1 : Int32)) r10))
def X3_look_l116 (k : wd_Mem → Option (wd_Mem)) (h1 : Nat) (x2 x3 : Int32) : Nat → Int32 → wd_Mem → Option (wd_Mem)
  | 0, _, _ => none
  | n + 1, x4, μ => X3_look_c116 (X3_look_l116 k h1 x2 x3 n) k h1 μ x2 x3 x4
def X3_look_b137 (rec : Int32 → wd_Mem → Option (wd_Mem)) (k : wd_Mem → Option (wd_Mem)) (h1 : Nat) (μ : wd_Mem) (x2 x3 : Int32) : Option (wd_Mem) :=
  rec (x3 + (1 : Int32)) μ
def X3_look_b68 (rec : Int32 → wd_Mem → Option (wd_Mem)) (k : wd_Mem → Option (wd_Mem)) (h1 : Nat) (μ : wd_Mem) (x2 x3 s1 s2 : Int32) : Option (wd_Mem) :=
  wd_chk (wd_in s1 5) (wd_chk (wd_in x3 5) (X3_look_l116 (fun μ => X3_look_b137 rec k h1 μ x2 x3) h1 x2 x3 wd_big (0 : Int32) (mset (mset (mset μ 11 (Int32.toNatClampNeg s1) s2) 12 (Int32.toNatClampNeg x3) ((μ 10 (Int32.toNatClampNeg x3)) + (μ 4 (Int32.toNatClampNeg x3)))) 13 (Int32.toNatClampNeg x3) (((mset μ 11 (Int32.toNatClampNeg s1) s2) 11 (Int32.toNatClampNeg x3)) - (μ 4 (Int32.toNatClampNeg x3))))))
def X3_look_b40 (rec : Int32 → wd_Mem → Option (wd_Mem)) (k : wd_Mem → Option (wd_Mem)) (h1 : Nat) (μ : wd_Mem) (x2 x3 s1 s2 : Int32) : Option (wd_Mem) :=
  wd_chk (wd_in s1 5) ((if x2 = 0 then (X6_edge h1 (mset μ 10 (Int32.toNatClampNeg s1) s2) x3 (1 : Int32)).bind (fun r11 => X3_look_b68 rec k h1 (mset μ 10 (Int32.toNatClampNeg s1) s2) x2 x3 x3 r11) else (X6_edge h1 (mset μ 10 (Int32.toNatClampNeg s1) s2) x3 (0 : Int32)).bind (fun r6 => X3_look_b68 rec k h1 (mset μ 10 (Int32.toNatClampNeg s1) s2) x2 x3 x3 ((16 : Int32) - r6))))
def X3_look_c2 (rec : Int32 → wd_Mem → Option (wd_Mem)) (k : wd_Mem → Option (wd_Mem)) (h1 : Nat) (μ : wd_Mem) (x2 x3 : Int32) : Option (wd_Mem) :=
  (if (μ 3 1) ≤ x3 then k μ else (if x2 = 0 then (X6_edge h1 μ x3 (0 : Int32)).bind (fun r12 => X3_look_b40 rec k h1 μ x2 x3 x3 r12) else (X6_edge h1 μ x3 (1 : Int32)).bind (fun r3 => X3_look_b40 rec k h1 μ x2 x3 x3 ((16 : Int32) - r3))))
def X3_look_l2 (k : wd_Mem → Option (wd_Mem)) (h1 : Nat) (x2 : Int32) : Nat → Int32 → wd_Mem → Option (wd_Mem)
  | 0, _, _ => none
  | n + 1, x3, μ => X3_look_c2 (X3_look_l2 k h1 x2 n) k h1 μ x2 x3
def X3_look_b143 (h1 : Nat) (μ : wd_Mem) : Option (wd_Mem) :=
  some μ
def X3_look_b0 (h1 : Nat) (μ : wd_Mem) (x2 : Int32) : Option (wd_Mem) :=
  X3_look_l2 (fun μ => X3_look_b143 h1 μ) h1 x2 wd_big (0 : Int32) μ
def X3_look (h1 : Nat) (μ : wd_Mem) (x2 : Int32) : Option (wd_Mem) := X3_look_b0 h1 μ x2
def X3_surely_b58 (rec : Int32 → Int32 → Option (Int32)) (k : Int32 → Option (Int32)) (μ : wd_Mem) (x1 x2 x3 x4 : Int32) : Option (Int32) :=
  rec x3 (x4 + (1 : Int32))
def X3_surely_c5 (rec : Int32 → Int32 → Option (Int32)) (k : Int32 → Option (Int32)) (μ : wd_Mem) (x1 x2 x3 x4 : Int32) : Option (Int32) :=
  (if (μ 3 1) ≤ x4 then k x3 else (if x4 = x2 then X3_surely_b58 rec k μ x1 x2 x3 x4 else wd_chk (wd_in x4 5) ((if x1 < (μ 13 (Int32.toNatClampNeg x4)) then X3_surely_b58 rec k μ x1 x2 x3 x4 else (if (μ 12 (Int32.toNatClampNeg x4)) ≤ x1 then X3_surely_b58 rec k μ x1 x2 x3 x4 else X3_surely_b58 rec k μ x1 x2 (x3 + (μ 5 (Int32.toNatClampNeg x4))) x4)))))
def X3_surely_l5 (k : Int32 → Option (Int32)) (μ : wd_Mem) (x1 x2 : Int32) : Nat → Int32 → Int32 → Option (Int32)
  | 0, _, _ => none
  | n + 1, x3, x4 => X3_surely_c5 (X3_surely_l5 k μ x1 x2 n) k μ x1 x2 x3 x4
def X3_surely_b64 (μ : wd_Mem) (x3 : Int32) : Option (Int32) :=
  some x3
def X3_surely_b0 (μ : wd_Mem) (x1 x2 : Int32) : Option (Int32) :=
  X3_surely_l5 (fun x3 => X3_surely_b64 μ x3) μ x1 x2 wd_big (0 : Int32) (0 : Int32)
def X3_surely (μ : wd_Mem) (x1 x2 : Int32) : Option (Int32) := X3_surely_b0 μ x1 x2
def X7_must_b10 (μ : wd_Mem) : Option (Int32 × wd_Mem) :=
  some ((-1 : Int32), μ)
def X7_must_b0 (μ : wd_Mem) (x1 : Int32) : Option (Int32 × wd_Mem) :=
  (if x1 < 0 then X7_must_b10 μ else (if x1 < (16 : Int32) then (X3_look 48 μ (0 : Int32)).bind (fun r3 => (X3_surely r3 x1 (-9 : Int32)).bind (fun r4 => some (r4, r3))) else X7_must_b10 μ))
def X7_must (μ : wd_Mem) (x1 : Int32) : Option (Int32 × wd_Mem) := X7_must_b0 μ x1
def X6_isBroken_c2 (rec : Int32 → Option (Int32)) (k : Option (Int32)) (h0 : Nat) (h1 : Nat) (μ : wd_Mem) (x2 : Int32) : Option (Int32) :=
  (if (μ h1 1) ≤ x2 then k else (X6_edge h0 μ x2 (0 : Int32)).bind (fun r2 => wd_chk (wd_in x2 5) ((X6_edge h0 μ x2 (1 : Int32)).bind (fun r4 => (if (r2 + (μ (h1 + 1) (Int32.toNatClampNeg x2))) ≤ r4 then rec (x2 + (1 : Int32)) else some (1 : Int32))))))
def X6_isBroken_l2 (k : Option (Int32)) (h0 : Nat) (h1 : Nat) (μ : wd_Mem) : Nat → Int32 → Option (Int32)
  | 0, _ => none
  | n + 1, x2 => X6_isBroken_c2 (X6_isBroken_l2 k h0 h1 μ n) k h0 h1 μ x2
def X6_isBroken_b40 (h0 : Nat) (h1 : Nat) (μ : wd_Mem) : Option (Int32) :=
  some (0 : Int32)
def X6_isBroken_b0 (h0 : Nat) (h1 : Nat) (μ : wd_Mem) : Option (Int32) :=
  X6_isBroken_l2 (X6_isBroken_b40 h0 h1 μ) h0 h1 μ wd_big (0 : Int32)
def X6_isBroken (h0 : Nat) (h1 : Nat) (μ : wd_Mem) : Option (Int32) := X6_isBroken_b0 h0 h1 μ
def X0_add_b0 (h1 : Nat) (μ : wd_Mem) : Option (wd_Mem) :=
  wd_chk (wd_nz (10 : Int32)) (wd_chk (wd_in (((μ 27 1) + (1 : Int32)) - ((μ 27 1) + (1 : Int32)) / (10 : Int32) * (10 : Int32)) 10) ((wd_ring[Int32.toNatClampNeg (((μ 27 1) + (1 : Int32)) - ((μ 27 1) + (1 : Int32)) / (10 : Int32) * (10 : Int32))]?).bind (fun a21 => (X6_take a21 h1 (mset μ 27 1 (((μ 27 1) + (1 : Int32)) - ((μ 27 1) + (1 : Int32)) / (10 : Int32) * (10 : Int32)))).bind (fun r3 => some (mset r3 27 2 (if ((r3 27 2) + (1 : Int32)) < (10 : Int32) then ((r3 27 2) + (1 : Int32)) else (10 : Int32)))))))
def X0_add (h1 : Nat) (μ : wd_Mem) : Option (wd_Mem) := X0_add_b0 h1 μ
def X1_tell_b0 (μ : wd_Mem) (x1 x2 x3 : Int32) : Option (wd_Mem) :=
  wd_chk (wd_in x1 5) ((if x2 ≤ (μ 19 (Int32.toNatClampNeg x1)) then some μ else some (mset (mset μ 19 (Int32.toNatClampNeg x1) x2) 20 (Int32.toNatClampNeg x1) x3)))
def X1_tell (μ : wd_Mem) (x1 x2 x3 : Int32) : Option (wd_Mem) := X1_tell_b0 μ x1 x2 x3
def X1_byMust_b73 (rec : Int32 → Int32 → Option (wd_Mem)) (k : Option (wd_Mem)) (μ : wd_Mem) (x1 x3 s0 : Int32) : Option (wd_Mem) :=
  wd_chk (wd_in x1 5) ((if s0 = (μ 4 (Int32.toNatClampNeg x1)) then (X1_tell μ x1 ((x3 + (1 : Int32)) - s0) (0 : Int32)).bind (fun r9 => some r9) else rec s0 (x3 + (1 : Int32))))
def X1_byMust_b59 (rec : Int32 → Int32 → Option (wd_Mem)) (k : Option (wd_Mem)) (μ : wd_Mem) (x1 x2 x3 s0 : Int32) : Option (wd_Mem) :=
  (if s0 = 0 then X1_byMust_b73 rec k μ x1 x3 (x2 + (1 : Int32)) else X1_byMust_b73 rec k μ x1 x3 (0 : Int32))
def X1_byMust_c12 (rec : Int32 → Int32 → Option (wd_Mem)) (k : Option (wd_Mem)) (μ : wd_Mem) (x1 x2 x3 : Int32) : Option (wd_Mem) :=
  wd_chk (wd_in x1 5) ((if (μ 11 (Int32.toNatClampNeg x1)) ≤ x3 then k else (X3_surely μ x3 x1).bind (fun r4 => (if (r4 + (μ 5 (Int32.toNatClampNeg x1))) ≤ (μ 3 0) then X1_byMust_b59 rec k μ x1 x2 x3 (0 : Int32) else X1_byMust_b59 rec k μ x1 x2 x3 (1 : Int32)))))
def X1_byMust_l12 (k : Option (wd_Mem)) (μ : wd_Mem) (x1 : Int32) : Nat → Int32 → Int32 → Option (wd_Mem)
  | 0, _, _ => none
  | n + 1, x2, x3 => X1_byMust_c12 (X1_byMust_l12 k μ x1 n) k μ x1 x2 x3
def X1_byMust_b105 (μ : wd_Mem) (x1 : Int32) : Option (wd_Mem) :=
  wd_chk (wd_in x1 5) ((X1_tell μ x1 ((μ 13 (Int32.toNatClampNeg x1)) + (1 : Int32)) (0 : Int32)).bind (fun r11 => some r11))
def X1_byMust_b0 (μ : wd_Mem) (x1 : Int32) : Option (wd_Mem) :=
  wd_chk (wd_in x1 5) (X1_byMust_l12 (X1_byMust_b105 μ x1) μ x1 wd_big (0 : Int32) (μ 10 (Int32.toNatClampNeg x1)))
def X1_byMust (μ : wd_Mem) (x1 : Int32) : Option (wd_Mem) := X1_byMust_b0 μ x1
def X1_endsBehind_b0 (μ : wd_Mem) (x1 x2 : Int32) : Option (Int32) :=
  wd_chk (wd_in x2 32) (wd_chk (wd_in x1 5) (wd_chk (wd_in (x2 ||| ((1 : Int32) <<< (x1 &&& 31))) 32) ((if (μ 17 (Int32.toNatClampNeg (x2 ||| ((1 : Int32) <<< (x1 &&& 31))))) ≤ ((μ 3 0) * ((μ 15 (Int32.toNatClampNeg x2)) - (if (μ 10 (Int32.toNatClampNeg x1)) < (μ 14 (Int32.toNatClampNeg x2)) then (μ 10 (Int32.toNatClampNeg x1)) else (μ 14 (Int32.toNatClampNeg x2))))) then some (0 : Int32) else some (1 : Int32)))))
def X1_endsBehind (μ : wd_Mem) (x1 x2 : Int32) : Option (Int32) := X1_endsBehind_b0 μ x1 x2
def X1_tellRest_b0 (μ : wd_Mem) (x1 x2 x3 : Int32) : Option (wd_Mem) :=
  wd_chk (wd_in x1 5) (wd_chk (wd_in x2 32) ((if ((μ 17 (Int32.toNatClampNeg x2)) - (((μ 3 0) - (μ 5 (Int32.toNatClampNeg x1))) * ((μ 15 (Int32.toNatClampNeg x2)) - (μ 14 (Int32.toNatClampNeg x2))))) ≤ 0 then some μ else (if (μ 5 (Int32.toNatClampNeg x1)) ≤ 0 then some μ else wd_chk (wd_nz (μ 5 (Int32.toNatClampNeg x1))) ((X1_tell μ x1 ((μ 14 (Int32.toNatClampNeg x2)) + (((((μ 17 (Int32.toNatClampNeg x2)) - (((μ 3 0) - (μ 5 (Int32.toNatClampNeg x1))) * ((μ 15 (Int32.toNatClampNeg x2)) - (μ 14 (Int32.toNatClampNeg x2))))) + (μ 5 (Int32.toNatClampNeg x1))) - (1 : Int32)) / (μ 5 (Int32.toNatClampNeg x1)))) x3).bind (fun r6 => some r6))))))
def X1_tellRest (μ : wd_Mem) (x1 x2 x3 : Int32) : Option (wd_Mem) := X1_tellRest_b0 μ x1 x2 x3
def X1_byEdge_b54 (rec : Int32 → wd_Mem → Option (wd_Mem)) (k : wd_Mem → Option (wd_Mem)) (μ : wd_Mem) (x1 x2 : Int32) : Option (wd_Mem) :=
  rec (x2 + (1 : Int32)) μ
def X1_byEdge_c34 (rec : Int32 → wd_Mem → Option (wd_Mem)) (k : wd_Mem → Option (wd_Mem)) (μ : wd_Mem) (x1 x2 x3 : Int32) : Option (wd_Mem) :=
  (if x3 ≤ 0 then k μ else (X1_tellRest μ x1 x3 x2).bind (fun r6 => rec ((x3 - (1 : Int32)) &&& x2) r6))
def X1_byEdge_l34 (k : wd_Mem → Option (wd_Mem)) (x1 x2 : Int32) : Nat → Int32 → wd_Mem → Option (wd_Mem)
  | 0, _, _ => none
  | n + 1, x3, μ => X1_byEdge_c34 (X1_byEdge_l34 k x1 x2 n) k μ x1 x2 x3
def X1_byEdge_c2 (rec : Int32 → wd_Mem → Option (wd_Mem)) (k : wd_Mem → Option (wd_Mem)) (μ : wd_Mem) (x1 x2 : Int32) : Option (wd_Mem) :=
  (if ((1 : Int32) <<< ((μ 3 1) &&& 31)) ≤ x2 then k μ else (if ((x2 >>> (x1 &&& 31)) &&& (1 : Int32)) = 0 then (X1_endsBehind μ x1 x2).bind (fun r3 => (if r3 = 0 then X1_byEdge_b54 rec k μ x1 x2 else X1_byEdge_l34 (fun μ => X1_byEdge_b54 rec k μ x1 x2) x1 x2 wd_big x2 μ)) else X1_byEdge_b54 rec k μ x1 x2))
def X1_byEdge_l2 (k : wd_Mem → Option (wd_Mem)) (x1 : Int32) : Nat → Int32 → wd_Mem → Option (wd_Mem)
  | 0, _, _ => none
  | n + 1, x2, μ => X1_byEdge_c2 (X1_byEdge_l2 k x1 n) k μ x1 x2
def X1_byEdge_b60 (μ : wd_Mem) : Option (wd_Mem) :=
  some μ
def X1_byEdge_b0 (μ : wd_Mem) (x1 : Int32) : Option (wd_Mem) :=
  X1_byEdge_l2 (fun μ => X1_byEdge_b60 μ) x1 wd_big (1 : Int32) μ
def X1_byEdge (μ : wd_Mem) (x1 : Int32) : Option (wd_Mem) := X1_byEdge_b0 μ x1
def X1_canNotBeFirst_b44 (μ : wd_Mem) : Option (Int32) :=
  some (0 : Int32)
def X1_canNotBeFirst_b0 (μ : wd_Mem) (x1 x2 : Int32) : Option (Int32) :=
  wd_chk (wd_in x2 32) (wd_chk (wd_in x1 5) ((if (μ 10 (Int32.toNatClampNeg x1)) < (μ 14 (Int32.toNatClampNeg x2)) then X1_canNotBeFirst_b44 μ else (if (μ 10 (Int32.toNatClampNeg x1)) < (μ 16 (Int32.toNatClampNeg x2)) then (if ((μ 17 (Int32.toNatClampNeg x2)) + ((μ 5 (Int32.toNatClampNeg x1)) * ((if (μ 15 (Int32.toNatClampNeg x2)) < (μ 12 (Int32.toNatClampNeg x1)) then (μ 15 (Int32.toNatClampNeg x2)) else (μ 12 (Int32.toNatClampNeg x1))) - (μ 14 (Int32.toNatClampNeg x2))))) ≤ ((μ 3 0) * ((μ 15 (Int32.toNatClampNeg x2)) - (μ 14 (Int32.toNatClampNeg x2)))) then some (0 : Int32) else some (1 : Int32)) else X1_canNotBeFirst_b44 μ))))
def X1_canNotBeFirst (μ : wd_Mem) (x1 x2 : Int32) : Option (Int32) := X1_canNotBeFirst_b0 μ x1 x2
def X1_byFirst_b47 (rec : Int32 → wd_Mem → Option (wd_Mem)) (k : wd_Mem → Option (wd_Mem)) (μ : wd_Mem) (x1 x2 : Int32) : Option (wd_Mem) :=
  rec (x2 + (1 : Int32)) μ
def X1_byFirst_c2 (rec : Int32 → wd_Mem → Option (wd_Mem)) (k : wd_Mem → Option (wd_Mem)) (μ : wd_Mem) (x1 x2 : Int32) : Option (wd_Mem) :=
  (if ((1 : Int32) <<< ((μ 3 1) &&& 31)) ≤ x2 then k μ else (if ((x2 >>> (x1 &&& 31)) &&& (1 : Int32)) = 0 then (X1_canNotBeFirst μ x1 x2).bind (fun r3 => (if r3 = 0 then X1_byFirst_b47 rec k μ x1 x2 else wd_chk (wd_in x2 32) ((X1_tell μ x1 (μ 16 (Int32.toNatClampNeg x2)) x2).bind (fun r6 => X1_byFirst_b47 rec k r6 x1 x2)))) else X1_byFirst_b47 rec k μ x1 x2))
def X1_byFirst_l2 (k : wd_Mem → Option (wd_Mem)) (x1 : Int32) : Nat → Int32 → wd_Mem → Option (wd_Mem)
  | 0, _, _ => none
  | n + 1, x2, μ => X1_byFirst_c2 (X1_byFirst_l2 k x1 n) k μ x1 x2
def X1_byFirst_b53 (μ : wd_Mem) : Option (wd_Mem) :=
  some μ
def X1_byFirst_b0 (μ : wd_Mem) (x1 : Int32) : Option (wd_Mem) :=
  X1_byFirst_l2 (fun μ => X1_byFirst_b53 μ) x1 wd_big (1 : Int32) μ
def X1_byFirst (μ : wd_Mem) (x1 : Int32) : Option (wd_Mem) := X1_byFirst_b0 μ x1
def X3_least_b0 (μ : wd_Mem) (x1 x2 x3 : Int32) : Option (Int32) :=
  wd_chk (wd_in x1 5) (some ((μ 5 (Int32.toNatClampNeg x1)) * (if (0 : Int32) < (if (if (x3 - (μ 13 (Int32.toNatClampNeg x1))) < ((μ 12 (Int32.toNatClampNeg x1)) - x2) then (x3 - (μ 13 (Int32.toNatClampNeg x1))) else ((μ 12 (Int32.toNatClampNeg x1)) - x2)) < (if (x3 - x2) < (μ 4 (Int32.toNatClampNeg x1)) then (x3 - x2) else (μ 4 (Int32.toNatClampNeg x1))) then (if (x3 - (μ 13 (Int32.toNatClampNeg x1))) < ((μ 12 (Int32.toNatClampNeg x1)) - x2) then (x3 - (μ 13 (Int32.toNatClampNeg x1))) else ((μ 12 (Int32.toNatClampNeg x1)) - x2)) else (if (x3 - x2) < (μ 4 (Int32.toNatClampNeg x1)) then (x3 - x2) else (μ 4 (Int32.toNatClampNeg x1)))) then (if (if (x3 - (μ 13 (Int32.toNatClampNeg x1))) < ((μ 12 (Int32.toNatClampNeg x1)) - x2) then (x3 - (μ 13 (Int32.toNatClampNeg x1))) else ((μ 12 (Int32.toNatClampNeg x1)) - x2)) < (if (x3 - x2) < (μ 4 (Int32.toNatClampNeg x1)) then (x3 - x2) else (μ 4 (Int32.toNatClampNeg x1))) then (if (x3 - (μ 13 (Int32.toNatClampNeg x1))) < ((μ 12 (Int32.toNatClampNeg x1)) - x2) then (x3 - (μ 13 (Int32.toNatClampNeg x1))) else ((μ 12 (Int32.toNatClampNeg x1)) - x2)) else (if (x3 - x2) < (μ 4 (Int32.toNatClampNeg x1)) then (x3 - x2) else (μ 4 (Int32.toNatClampNeg x1)))) else (0 : Int32))))
def X3_least (μ : wd_Mem) (x1 x2 x3 : Int32) : Option (Int32) := X3_least_b0 μ x1 x2 x3
def X3_free_b48 (rec : Int32 → Int32 → Option (Int32)) (k : Int32 → Option (Int32)) (μ : wd_Mem) (x1 x2 x3 x5 s0 s1 : Int32) : Option (Int32) :=
  rec (s0 - s1) (x5 + (1 : Int32))
def X3_free_c16 (rec : Int32 → Int32 → Option (Int32)) (k : Int32 → Option (Int32)) (μ : wd_Mem) (x1 x2 x3 x4 x5 : Int32) : Option (Int32) :=
  (if (μ 3 1) ≤ x5 then k x4 else (if x5 = x1 then X3_free_b48 rec k μ x1 x2 x3 x5 x4 (0 : Int32) else (X3_least μ x5 x2 x3).bind (fun r3 => X3_free_b48 rec k μ x1 x2 x3 x5 x4 r3)))
def X3_free_l16 (k : Int32 → Option (Int32)) (μ : wd_Mem) (x1 x2 x3 : Int32) : Nat → Int32 → Int32 → Option (Int32)
  | 0, _, _ => none
  | n + 1, x4, x5 => X3_free_c16 (X3_free_l16 k μ x1 x2 x3 n) k μ x1 x2 x3 x4 x5
def X3_free_b57 (μ : wd_Mem) (x4 : Int32) : Option (Int32) :=
  some x4
def X3_free_b0 (μ : wd_Mem) (x1 x2 x3 : Int32) : Option (Int32) :=
  X3_free_l16 (fun x4 => X3_free_b57 μ x4) μ x1 x2 x3 wd_big ((μ 3 0) * (x3 - x2)) (0 : Int32)
def X3_free (μ : wd_Mem) (x1 x2 x3 : Int32) : Option (Int32) := X3_free_b0 μ x1 x2 x3
def X3_mostLeft_b0 (μ : wd_Mem) (x1 x2 x3 : Int32) : Option (Int32) :=
  wd_chk (wd_in x1 5) (some ((μ 5 (Int32.toNatClampNeg x1)) * (if (0 : Int32) < (if ((μ 12 (Int32.toNatClampNeg x1)) - x2) < (if (x3 - x2) < (μ 4 (Int32.toNatClampNeg x1)) then (x3 - x2) else (μ 4 (Int32.toNatClampNeg x1))) then ((μ 12 (Int32.toNatClampNeg x1)) - x2) else (if (x3 - x2) < (μ 4 (Int32.toNatClampNeg x1)) then (x3 - x2) else (μ 4 (Int32.toNatClampNeg x1)))) then (if ((μ 12 (Int32.toNatClampNeg x1)) - x2) < (if (x3 - x2) < (μ 4 (Int32.toNatClampNeg x1)) then (x3 - x2) else (μ 4 (Int32.toNatClampNeg x1))) then ((μ 12 (Int32.toNatClampNeg x1)) - x2) else (if (x3 - x2) < (μ 4 (Int32.toNatClampNeg x1)) then (x3 - x2) else (μ 4 (Int32.toNatClampNeg x1)))) else (0 : Int32))))
def X3_mostLeft (μ : wd_Mem) (x1 x2 x3 : Int32) : Option (Int32) := X3_mostLeft_b0 μ x1 x2 x3
def X1_bySpan_b87 (rec : Int32 → wd_Mem → Option (wd_Mem)) (k : wd_Mem → Option (wd_Mem)) (μ : wd_Mem) (x1 x2 x3 x4 : Int32) : Option (wd_Mem) :=
  rec (x4 + (1 : Int32)) μ
def X1_bySpan_c23 (rec : Int32 → wd_Mem → Option (wd_Mem)) (k : wd_Mem → Option (wd_Mem)) (μ : wd_Mem) (x1 x2 x3 x4 : Int32) : Option (wd_Mem) :=
  (if (16 : Int32) < x4 then k μ else (X3_free μ x1 x3 x4).bind (fun r4 => (if r4 < 0 then X1_bySpan_b87 rec k μ x1 x2 x3 x4 else (if x2 ≤ 0 then X1_bySpan_b87 rec k μ x1 x2 x3 x4 else (X3_mostLeft μ x1 x3 x4).bind (fun r7 => (if r7 ≤ r4 then X1_bySpan_b87 rec k μ x1 x2 x3 x4 else wd_chk (wd_nz x2) ((X1_tell μ x1 (x4 - (r4 / x2)) (((100 : Int32) * x3) + x4)).bind (fun r10 => X1_bySpan_b87 rec k r10 x1 x2 x3 x4))))))))
def X1_bySpan_l23 (k : wd_Mem → Option (wd_Mem)) (x1 x2 x3 : Int32) : Nat → Int32 → wd_Mem → Option (wd_Mem)
  | 0, _, _ => none
  | n + 1, x4, μ => X1_bySpan_c23 (X1_bySpan_l23 k x1 x2 x3 n) k μ x1 x2 x3 x4
def X1_bySpan_b93 (rec : Int32 → wd_Mem → Option (wd_Mem)) (k : wd_Mem → Option (wd_Mem)) (μ : wd_Mem) (x1 x2 x3 : Int32) : Option (wd_Mem) :=
  rec (x3 + (1 : Int32)) μ
def X1_bySpan_c12 (rec : Int32 → wd_Mem → Option (wd_Mem)) (k : wd_Mem → Option (wd_Mem)) (μ : wd_Mem) (x1 x2 x3 : Int32) : Option (wd_Mem) :=
  (if (16 : Int32) ≤ x3 then k μ else X1_bySpan_l23 (fun μ => X1_bySpan_b93 rec k μ x1 x2 x3) x1 x2 x3 wd_big (x3 + (1 : Int32)) μ)
def X1_bySpan_l12 (k : wd_Mem → Option (wd_Mem)) (x1 x2 : Int32) : Nat → Int32 → wd_Mem → Option (wd_Mem)
  | 0, _, _ => none
  | n + 1, x3, μ => X1_bySpan_c12 (X1_bySpan_l12 k x1 x2 n) k μ x1 x2 x3
def X1_bySpan_b99 (μ : wd_Mem) : Option (wd_Mem) :=
  some μ
def X1_bySpan_b0 (μ : wd_Mem) (x1 : Int32) : Option (wd_Mem) :=
  wd_chk (wd_in x1 5) (X1_bySpan_l12 (fun μ => X1_bySpan_b99 μ) x1 (μ 5 (Int32.toNatClampNeg x1)) wd_big (0 : Int32) μ)
def X1_bySpan (μ : wd_Mem) (x1 : Int32) : Option (wd_Mem) := X1_bySpan_b0 μ x1
def X1_tightenSide_b196 (rec : Int32 → Int32 → wd_Mem → Option (Int32 × wd_Mem)) (k : Int32 → wd_Mem → Option (Int32 × wd_Mem)) (h3 : Nat) (μ : wd_Mem) (x1 x2 x4 x5 : Int32) : Option (Int32 × wd_Mem) :=
  rec x4 (x5 + (1 : Int32)) μ
def X1_tightenSide_b182 (rec : Int32 → Int32 → wd_Mem → Option (Int32 × wd_Mem)) (k : Int32 → wd_Mem → Option (Int32 × wd_Mem)) (h3 : Nat) (μ : wd_Mem) (x1 x2 x5 s1 s2 s3 : Int32) : Option (Int32 × wd_Mem) :=
  wd_chk (wd_in x5 5) ((X6_move h3 μ s1 s2 s3 x1 (μ 20 (Int32.toNatClampNeg x5))).bind (fun r9 => X1_tightenSide_b196 rec k h3 r9 x1 x2 (1 : Int32) x5))
def X1_tightenSide_b120 (rec : Int32 → Int32 → wd_Mem → Option (Int32 × wd_Mem)) (k : Int32 → wd_Mem → Option (Int32 × wd_Mem)) (h3 : Nat) (μ : wd_Mem) (x1 x2 x4 x5 : Int32) : Option (Int32 × wd_Mem) :=
  wd_chk (wd_in x5 5) ((if (μ 19 (Int32.toNatClampNeg x5)) ≤ (μ 10 (Int32.toNatClampNeg x5)) then X1_tightenSide_b196 rec k h3 μ x1 x2 x4 x5 else (if x2 = 0 then X1_tightenSide_b182 rec k h3 μ x1 x2 x5 x5 x2 (if ((μ 13 (Int32.toNatClampNeg x5)) + (1 : Int32)) < (μ 19 (Int32.toNatClampNeg x5)) then ((μ 13 (Int32.toNatClampNeg x5)) + (1 : Int32)) else (μ 19 (Int32.toNatClampNeg x5))) else X1_tightenSide_b182 rec k h3 μ x1 x2 x5 x5 x2 ((16 : Int32) - (if ((μ 13 (Int32.toNatClampNeg x5)) + (1 : Int32)) < (μ 19 (Int32.toNatClampNeg x5)) then ((μ 13 (Int32.toNatClampNeg x5)) + (1 : Int32)) else (μ 19 (Int32.toNatClampNeg x5)))))))
def X1_tightenSide_c15 (rec : Int32 → Int32 → wd_Mem → Option (Int32 × wd_Mem)) (k : Int32 → wd_Mem → Option (Int32 × wd_Mem)) (h3 : Nat) (μ : wd_Mem) (x1 x2 x4 x5 : Int32) : Option (Int32 × wd_Mem) :=
  (if (μ 3 1) ≤ x5 then k x4 μ else wd_chk (wd_in x5 5) ((if x1 = nI 0 then (X1_byMust (mset (mset μ 19 (Int32.toNatClampNeg x5) (μ 10 (Int32.toNatClampNeg x5))) 20 (Int32.toNatClampNeg x5) (0 : Int32)) x5).bind (fun r4 => X1_tightenSide_b120 rec k h3 r4 x1 x2 x4 x5) else (if x1 = nI 1 then (X1_byEdge (mset (mset μ 19 (Int32.toNatClampNeg x5) (μ 10 (Int32.toNatClampNeg x5))) 20 (Int32.toNatClampNeg x5) (0 : Int32)) x5).bind (fun r10 => X1_tightenSide_b120 rec k h3 r10 x1 x2 x4 x5) else (if x1 = nI 2 then (X1_byFirst (mset (mset μ 19 (Int32.toNatClampNeg x5) (μ 10 (Int32.toNatClampNeg x5))) 20 (Int32.toNatClampNeg x5) (0 : Int32)) x5).bind (fun r11 => X1_tightenSide_b120 rec k h3 r11 x1 x2 x4 x5) else (if x1 = nI 3 then (X1_bySpan (mset (mset μ 19 (Int32.toNatClampNeg x5) (μ 10 (Int32.toNatClampNeg x5))) 20 (Int32.toNatClampNeg x5) (0 : Int32)) x5).bind (fun r12 => X1_tightenSide_b120 rec k h3 r12 x1 x2 x4 x5) else X1_tightenSide_b120 rec k h3 (mset (mset μ 19 (Int32.toNatClampNeg x5) (μ 10 (Int32.toNatClampNeg x5))) 20 (Int32.toNatClampNeg x5) (0 : Int32)) x1 x2 x4 x5))))))
def X1_tightenSide_l15 (k : Int32 → wd_Mem → Option (Int32 × wd_Mem)) (h3 : Nat) (x1 x2 : Int32) : Nat → Int32 → Int32 → wd_Mem → Option (Int32 × wd_Mem)
  | 0, _, _, _ => none
  | n + 1, x4, x5, μ => X1_tightenSide_c15 (X1_tightenSide_l15 k h3 x1 x2 n) k h3 μ x1 x2 x4 x5
def X1_tightenSide_b202 (h3 : Nat) (μ : wd_Mem) (x4 : Int32) : Option (Int32 × wd_Mem) :=
  wd_chk (wd_bit x4) (some (x4, μ))
def X1_tightenSide_b0 (h3 : Nat) (μ : wd_Mem) (x1 x2 : Int32) : Option (Int32 × wd_Mem) :=
  (X3_look h3 μ x2).bind (fun r1 => X1_tightenSide_l15 (fun x4 μ => X1_tightenSide_b202 h3 μ x4) h3 x1 x2 wd_big (0 : Int32) (0 : Int32) r1)
def X1_tightenSide (h3 : Nat) (μ : wd_Mem) (x1 x2 : Int32) : Option (Int32 × wd_Mem) := X1_tightenSide_b0 h3 μ x1 x2
def X1_tighten_b39 (h2 : Nat) (μ : wd_Mem) : Option (Int32 × wd_Mem) :=
  some ((1 : Int32), μ)
def X1_tighten_b0 (h2 : Nat) (μ : wd_Mem) (x1 : Int32) : Option (Int32 × wd_Mem) :=
  (X1_tightenSide h2 μ x1 (0 : Int32)).bind (fun r1 => (X6_isBroken h2 3 r1.2).bind (fun r2 => (if r2 = 0 then (X1_tightenSide h2 r1.2 x1 (1 : Int32)).bind (fun r4 => (if r1.1 = 0 then (if r4.1 = 0 then some ((0 : Int32), r4.2) else X1_tighten_b39 h2 r4.2) else X1_tighten_b39 h2 r4.2)) else wd_chk (wd_bit r1.1) (some (r1.1, r1.2)))))
def X1_tighten (h2 : Nat) (μ : wd_Mem) (x1 : Int32) : Option (Int32 × wd_Mem) := X1_tighten_b0 h2 μ x1
def X1_tightenByAll_b46 (rec : Int32 → Int32 → wd_Mem → Option (wd_Mem)) (k : wd_Mem → Option (wd_Mem)) (h1 : Nat) (μ : wd_Mem) (x3 s0 : Int32) : Option (wd_Mem) :=
  rec s0 (x3 + (1 : Int32)) μ
def X1_tightenByAll_c4 (rec : Int32 → Int32 → wd_Mem → Option (wd_Mem)) (k : wd_Mem → Option (wd_Mem)) (h1 : Nat) (μ : wd_Mem) (x2 x3 : Int32) : Option (wd_Mem) :=
  (if (10000 : Int32) ≤ x3 then k μ else (if x2 = (4 : Int32) then some μ else (X6_isBroken h1 3 μ).bind (fun r3 => (if r3 = 0 then wd_chk (wd_nz (4 : Int32)) ((X1_tighten h1 μ (x3 - x3 / (4 : Int32) * (4 : Int32))).bind (fun r6 => (if r6.1 = 0 then X1_tightenByAll_b46 rec k h1 r6.2 x3 (x2 + (1 : Int32)) else X1_tightenByAll_b46 rec k h1 r6.2 x3 (0 : Int32)))) else some μ))))
def X1_tightenByAll_l4 (k : wd_Mem → Option (wd_Mem)) (h1 : Nat) : Nat → Int32 → Int32 → wd_Mem → Option (wd_Mem)
  | 0, _, _, _ => none
  | n + 1, x2, x3, μ => X1_tightenByAll_c4 (X1_tightenByAll_l4 k h1 n) k h1 μ x2 x3
def X1_tightenByAll_b53 (h1 : Nat) (μ : wd_Mem) : Option (wd_Mem) :=
  some μ
def X1_tightenByAll_b0 (h1 : Nat) (μ : wd_Mem) : Option (wd_Mem) :=
  X1_tightenByAll_l4 (fun μ => X1_tightenByAll_b53 h1 μ) h1 wd_big (0 : Int32) (0 : Int32) μ
def X1_tightenByAll (h1 : Nat) (μ : wd_Mem) : Option (wd_Mem) := X1_tightenByAll_b0 h1 μ
def X0_latest_b0 (μ : wd_Mem) : Option (Nat) :=
  wd_chk (wd_in (μ 27 1) 10) ((wd_ring[Int32.toNatClampNeg (μ 27 1)]?).bind (fun a8 => some a8))
def X0_latest (μ : wd_Mem) : Option (Nat) := X0_latest_b0 μ
def X6_others_b59 (rec : Int32 → Int32 → Option (Int32)) (k : Int32 → Option (Int32)) (h0 : Nat) (h1 : Nat) (μ : wd_Mem) (x2 x4 s0 s1 : Int32) : Option (Int32) :=
  rec (s0 + s1) (x4 + (1 : Int32))
def X6_others_b34 (rec : Int32 → Int32 → Option (Int32)) (k : Int32 → Option (Int32)) (h0 : Nat) (h1 : Nat) (μ : wd_Mem) (x2 x4 s0 s1 : Int32) : Option (Int32) :=
  (X6_edge h0 μ x4 (1 : Int32)).bind (fun r5 => (X6_edge h1 μ x4 (1 : Int32)).bind (fun r6 => (if r5 = r6 then X6_others_b59 rec k h0 h1 μ x2 x4 (s0 + s1) (0 : Int32) else X6_others_b59 rec k h0 h1 μ x2 x4 (s0 + s1) (1 : Int32))))
def X6_others_c5 (rec : Int32 → Int32 → Option (Int32)) (k : Int32 → Option (Int32)) (h0 : Nat) (h1 : Nat) (μ : wd_Mem) (x2 x3 x4 : Int32) : Option (Int32) :=
  (if x2 ≤ x4 then k x3 else (X6_edge h0 μ x4 (0 : Int32)).bind (fun r2 => (X6_edge h1 μ x4 (0 : Int32)).bind (fun r3 => (if r2 = r3 then X6_others_b34 rec k h0 h1 μ x2 x4 x3 (0 : Int32) else X6_others_b34 rec k h0 h1 μ x2 x4 x3 (1 : Int32)))))
def X6_others_l5 (k : Int32 → Option (Int32)) (h0 : Nat) (h1 : Nat) (μ : wd_Mem) (x2 : Int32) : Nat → Int32 → Int32 → Option (Int32)
  | 0, _, _ => none
  | n + 1, x3, x4 => X6_others_c5 (X6_others_l5 k h0 h1 μ x2 n) k h0 h1 μ x2 x3 x4
def X6_others_b67 (h0 : Nat) (h1 : Nat) (μ : wd_Mem) (x3 : Int32) : Option (Int32) :=
  some x3
def X6_others_b0 (h0 : Nat) (h1 : Nat) (μ : wd_Mem) (x2 : Int32) : Option (Int32) :=
  X6_others_l5 (fun x3 => X6_others_b67 h0 h1 μ x3) h0 h1 μ x2 wd_big (0 : Int32) (0 : Int32)
def X6_others (h0 : Nat) (h1 : Nat) (μ : wd_Mem) (x2 : Int32) : Option (Int32) := X6_others_b0 h0 h1 μ x2
def X7_tightens_b9 (μ : wd_Mem) : Option (Int32 × wd_Mem) :=
  some ((-1 : Int32), μ)
def X7_tightens_b71 (μ : wd_Mem) : Option (Int32 × wd_Mem) :=
  (X0_latest μ).bind (fun r8 => (X6_others 48 r8 μ (μ 3 1)).bind (fun r9 => some (r9, μ)))
def X7_tightens_b0 (μ : wd_Mem) (x1 : Int32) : Option (Int32 × wd_Mem) :=
  (if x1 < 0 then X7_tightens_b9 μ else (if x1 ≤ (4 : Int32) then (X6_isBroken 48 3 μ).bind (fun r3 => (if r3 = 0 then (X0_add 48 μ).bind (fun r5 => (if x1 = (4 : Int32) then (X1_tightenByAll 48 r5).bind (fun r10 => X7_tightens_b71 r10) else (X1_tighten 48 r5 x1).bind (fun r7 => X7_tightens_b71 r7.2))) else some ((-2 : Int32), μ))) else X7_tightens_b9 μ))
def X7_tightens (μ : wd_Mem) (x1 : Int32) : Option (Int32 × wd_Mem) := X7_tightens_b0 μ x1
def X7_mayPut_b80 (μ : wd_Mem) : Option (Int32) :=
  some (0 : Int32)
def X7_mayPut_b52 (μ : wd_Mem) : Option (Int32) :=
  some (0 : Int32)
def X7_mayPut_b0 (μ : wd_Mem) (x1 x2 x3 : Int32) : Option (Int32) :=
  (X6_edge 48 μ x1 (0 : Int32)).bind (fun r1 => (X6_edge 48 μ x1 (1 : Int32)).bind (fun r2 => (if x2 = 0 then (if x3 ≤ r1 then X7_mayPut_b52 μ else wd_chk (wd_in x1 5) ((if r2 < (x3 + (μ 4 (Int32.toNatClampNeg x1))) then X7_mayPut_b52 μ else some (1 : Int32)))) else (if r2 ≤ x3 then X7_mayPut_b80 μ else wd_chk (wd_in x1 5) ((if (x3 - (μ 4 (Int32.toNatClampNeg x1))) < r1 then X7_mayPut_b80 μ else some (1 : Int32)))))))
def X7_mayPut (μ : wd_Mem) (x1 x2 x3 : Int32) : Option (Int32) := X7_mayPut_b0 μ x1 x2 x3
def X7_puts_b28 (μ : wd_Mem) : Option (Int32 × wd_Mem) :=
  some ((-1 : Int32), μ)
def X7_puts_b54 (μ : wd_Mem) : Option (Int32 × wd_Mem) :=
  some ((-2 : Int32), μ)
def X7_puts_b0 (μ : wd_Mem) (x1 x2 x3 : Int32) : Option (Int32 × wd_Mem) :=
  (if (X4_has 3 μ x1) = 0 then X7_puts_b28 μ else (if (X7_isZeroOrOne μ x2) = 0 then X7_puts_b28 μ else (if x3 < 0 then X7_puts_b28 μ else (if x3 ≤ (16 : Int32) then (X6_isBroken 48 3 μ).bind (fun r5 => (if r5 = 0 then (X7_mayPut μ x1 x2 x3).bind (fun r7 => (if r7 = 0 then X7_puts_b54 μ else (X0_add 48 μ).bind (fun r9 => (X6_edge 48 r9 x1 x2).bind (fun r10 => (X6_move 48 r9 x1 x2 x3 (-9 : Int32) (-9 : Int32)).bind (fun r11 => some (r10, r11)))))) else X7_puts_b54 μ)) else X7_puts_b28 μ))))
def X7_puts (μ : wd_Mem) (x1 x2 x3 : Int32) : Option (Int32 × wd_Mem) := X7_puts_b0 μ x1 x2 x3
def X0_giveBack_b0 (h1 : Nat) (μ : wd_Mem) : Option (wd_Mem) :=
  (if (μ 27 2) ≤ 0 then some μ else wd_chk (wd_in (μ 27 1) 10) ((wd_ring[Int32.toNatClampNeg (μ 27 1)]?).bind (fun a16 => (X6_take h1 a16 μ).bind (fun r3 => wd_chk (wd_nz (10 : Int32)) (some (mset (mset r3 27 1 ((((r3 27 1) + (10 : Int32)) - (1 : Int32)) - (((r3 27 1) + (10 : Int32)) - (1 : Int32)) / (10 : Int32) * (10 : Int32))) 27 2 ((r3 27 2) - (1 : Int32))))))))
def X0_giveBack (h1 : Nat) (μ : wd_Mem) : Option (wd_Mem) := X0_giveBack_b0 h1 μ
def X7_undo_b0 (μ : wd_Mem) : Option (Int32 × wd_Mem) :=
  (if (μ 27 2) = 0 then some ((-2 : Int32), μ) else (X0_giveBack 48 μ).bind (fun r2 => some ((r2 27 2), r2)))
def X7_undo (μ : wd_Mem) : Option (Int32 × wd_Mem) := X7_undo_b0 μ
def X4_hasSet_b18 (h0 : Nat) (μ : wd_Mem) : Int32 :=
  (0 : Int32)
def X4_hasSet_b0 (h0 : Nat) (μ : wd_Mem) (x1 : Int32) : Int32 :=
  (if x1 < 0 then X4_hasSet_b18 h0 μ else (if ((1 : Int32) <<< ((μ h0 1) &&& 31)) ≤ x1 then X4_hasSet_b18 h0 μ else (1 : Int32)))
def X4_hasSet (h0 : Nat) (μ : wd_Mem) (x1 : Int32) : Int32 := X4_hasSet_b0 h0 μ x1
def X3_wrapOf_c4 (rec : Int32 → Int32 → Option (Int32)) (k : Int32 → Option (Int32)) (μ : wd_Mem) (x1 x2 x3 : Int32) : Option (Int32) :=
  (if x3 ≤ 0 then k x2 else wd_chk (wd_in x3 32) (rec (if x2 < (((μ 3 0) * (μ 14 (Int32.toNatClampNeg x3))) + (μ 17 (Int32.toNatClampNeg x3))) then (((μ 3 0) * (μ 14 (Int32.toNatClampNeg x3))) + (μ 17 (Int32.toNatClampNeg x3))) else x2) ((x3 - (1 : Int32)) &&& x1)))
def X3_wrapOf_l4 (k : Int32 → Option (Int32)) (μ : wd_Mem) (x1 : Int32) : Nat → Int32 → Int32 → Option (Int32)
  | 0, _, _ => none
  | n + 1, x2, x3 => X3_wrapOf_c4 (X3_wrapOf_l4 k μ x1 n) k μ x1 x2 x3
def X3_wrapOf_b43 (μ : wd_Mem) (x2 : Int32) : Option (Int32) :=
  some x2
def X3_wrapOf_b0 (μ : wd_Mem) (x1 : Int32) : Option (Int32) :=
  X3_wrapOf_l4 (fun x2 => X3_wrapOf_b43 μ x2) μ x1 wd_big (0 : Int32) x1
def X3_wrapOf (μ : wd_Mem) (x1 : Int32) : Option (Int32) := X3_wrapOf_b0 μ x1
def X7_wrap_b15 (μ : wd_Mem) : Option (Int32 × wd_Mem) :=
  some ((-1 : Int32), μ)
def X7_wrap_b0 (μ : wd_Mem) (x1 : Int32) : Option (Int32 × wd_Mem) :=
  (if x1 = 0 then X7_wrap_b15 μ else (if (X4_hasSet 3 μ x1) = 0 then X7_wrap_b15 μ else (X3_look 48 μ (0 : Int32)).bind (fun r3 => (X3_wrapOf r3 x1).bind (fun r4 => some (r4, r3)))))
def X7_wrap (μ : wd_Mem) (x1 : Int32) : Option (Int32 × wd_Mem) := X7_wrap_b0 μ x1
def X3_greyest_b60 (rec : Int32 → Int32 → Int32 → Option (Int32)) (k : Int32 → Option (Int32)) (μ : wd_Mem) (x1 x2 x3 x4 x5 : Int32) : Option (Int32) :=
  rec x3 x4 (x5 + (1 : Int32))
def X3_greyest_c8 (rec : Int32 → Int32 → Int32 → Option (Int32)) (k : Int32 → Option (Int32)) (μ : wd_Mem) (x1 x2 x3 x4 x5 : Int32) : Option (Int32) :=
  (if (μ 3 1) ≤ x5 then k x3 else (if ((x2 >>> (x5 &&& 31)) &&& (1 : Int32)) = (1 : Int32) then (X3_wrapOf μ (x1 ||| ((1 : Int32) <<< (x5 &&& 31)))).bind (fun r3 => (if r3 ≤ x4 then X3_greyest_b60 rec k μ x1 x2 x3 x4 x5 else (X3_wrapOf μ (x1 ||| ((1 : Int32) <<< (x5 &&& 31)))).bind (fun r5 => X3_greyest_b60 rec k μ x1 x2 x5 r5 x5))) else X3_greyest_b60 rec k μ x1 x2 x3 x4 x5))
def X3_greyest_l8 (k : Int32 → Option (Int32)) (μ : wd_Mem) (x1 x2 : Int32) : Nat → Int32 → Int32 → Int32 → Option (Int32)
  | 0, _, _, _ => none
  | n + 1, x3, x4, x5 => X3_greyest_c8 (X3_greyest_l8 k μ x1 x2 n) k μ x1 x2 x3 x4 x5
def X3_greyest_b66 (μ : wd_Mem) (x3 : Int32) : Option (Int32) :=
  some x3
def X3_greyest_b0 (μ : wd_Mem) (x1 x2 : Int32) : Option (Int32) :=
  X3_greyest_l8 (fun x3 => X3_greyest_b66 μ x3) μ x1 x2 wd_big (0 : Int32) (-1 : Int32) (0 : Int32)
def X3_greyest (μ : wd_Mem) (x1 x2 : Int32) : Option (Int32) := X3_greyest_b0 μ x1 x2
def X7_grey_b26 (μ : wd_Mem) : Option (Int32 × wd_Mem) :=
  some ((-1 : Int32), μ)
def X7_grey_b41 (μ : wd_Mem) : Option (Int32 × wd_Mem) :=
  some ((-1 : Int32), μ)
def X7_grey_b0 (μ : wd_Mem) (x1 x2 x3 : Int32) : Option (Int32 × wd_Mem) :=
  (if (X4_hasSet 3 μ x1) = 0 then X7_grey_b26 μ else (if (X4_hasSet 3 μ x2) = 0 then X7_grey_b26 μ else (if x2 = 0 then X7_grey_b26 μ else (if (x1 &&& x2) = 0 then (if (X7_isZeroOrOne μ x3) = 0 then X7_grey_b41 μ else (X3_look 48 μ (0 : Int32)).bind (fun r6 => (X3_greyest r6 x1 x2).bind (fun r7 => (if x3 = 0 then (X3_wrapOf r6 (x1 ||| ((1 : Int32) <<< (r7 &&& 31)))).bind (fun r9 => some (r9, r6)) else some (r7, r6))))) else X7_grey_b41 μ))))
def X7_grey (μ : wd_Mem) (x1 x2 x3 : Int32) : Option (Int32 × wd_Mem) := X7_grey_b0 μ x1 x2 x3
def J6_bitCount_b0 (μ : wd_Mem) (x0 : Int32) : Int32 :=
  ((((((((x0 - (((x0).toUInt32 >>> (((1 : Int32)).toUInt32 &&& Int32.toUInt32 31)).toInt32 &&& (1431655765 : Int32))) &&& (858993459 : Int32)) + ((((x0 - (((x0).toUInt32 >>> (((1 : Int32)).toUInt32 &&& Int32.toUInt32 31)).toInt32 &&& (1431655765 : Int32)))).toUInt32 >>> (((2 : Int32)).toUInt32 &&& Int32.toUInt32 31)).toInt32 &&& (858993459 : Int32))) + (((((x0 - (((x0).toUInt32 >>> (((1 : Int32)).toUInt32 &&& Int32.toUInt32 31)).toInt32 &&& (1431655765 : Int32))) &&& (858993459 : Int32)) + ((((x0 - (((x0).toUInt32 >>> (((1 : Int32)).toUInt32 &&& Int32.toUInt32 31)).toInt32 &&& (1431655765 : Int32)))).toUInt32 >>> (((2 : Int32)).toUInt32 &&& Int32.toUInt32 31)).toInt32 &&& (858993459 : Int32)))).toUInt32 >>> (((4 : Int32)).toUInt32 &&& Int32.toUInt32 31)).toInt32) &&& (252645135 : Int32)) + (((((((x0 - (((x0).toUInt32 >>> (((1 : Int32)).toUInt32 &&& Int32.toUInt32 31)).toInt32 &&& (1431655765 : Int32))) &&& (858993459 : Int32)) + ((((x0 - (((x0).toUInt32 >>> (((1 : Int32)).toUInt32 &&& Int32.toUInt32 31)).toInt32 &&& (1431655765 : Int32)))).toUInt32 >>> (((2 : Int32)).toUInt32 &&& Int32.toUInt32 31)).toInt32 &&& (858993459 : Int32))) + (((((x0 - (((x0).toUInt32 >>> (((1 : Int32)).toUInt32 &&& Int32.toUInt32 31)).toInt32 &&& (1431655765 : Int32))) &&& (858993459 : Int32)) + ((((x0 - (((x0).toUInt32 >>> (((1 : Int32)).toUInt32 &&& Int32.toUInt32 31)).toInt32 &&& (1431655765 : Int32)))).toUInt32 >>> (((2 : Int32)).toUInt32 &&& Int32.toUInt32 31)).toInt32 &&& (858993459 : Int32)))).toUInt32 >>> (((4 : Int32)).toUInt32 &&& Int32.toUInt32 31)).toInt32) &&& (252645135 : Int32))).toUInt32 >>> (((8 : Int32)).toUInt32 &&& Int32.toUInt32 31)).toInt32) + ((((((((x0 - (((x0).toUInt32 >>> (((1 : Int32)).toUInt32 &&& Int32.toUInt32 31)).toInt32 &&& (1431655765 : Int32))) &&& (858993459 : Int32)) + ((((x0 - (((x0).toUInt32 >>> (((1 : Int32)).toUInt32 &&& Int32.toUInt32 31)).toInt32 &&& (1431655765 : Int32)))).toUInt32 >>> (((2 : Int32)).toUInt32 &&& Int32.toUInt32 31)).toInt32 &&& (858993459 : Int32))) + (((((x0 - (((x0).toUInt32 >>> (((1 : Int32)).toUInt32 &&& Int32.toUInt32 31)).toInt32 &&& (1431655765 : Int32))) &&& (858993459 : Int32)) + ((((x0 - (((x0).toUInt32 >>> (((1 : Int32)).toUInt32 &&& Int32.toUInt32 31)).toInt32 &&& (1431655765 : Int32)))).toUInt32 >>> (((2 : Int32)).toUInt32 &&& Int32.toUInt32 31)).toInt32 &&& (858993459 : Int32)))).toUInt32 >>> (((4 : Int32)).toUInt32 &&& Int32.toUInt32 31)).toInt32) &&& (252645135 : Int32)) + (((((((x0 - (((x0).toUInt32 >>> (((1 : Int32)).toUInt32 &&& Int32.toUInt32 31)).toInt32 &&& (1431655765 : Int32))) &&& (858993459 : Int32)) + ((((x0 - (((x0).toUInt32 >>> (((1 : Int32)).toUInt32 &&& Int32.toUInt32 31)).toInt32 &&& (1431655765 : Int32)))).toUInt32 >>> (((2 : Int32)).toUInt32 &&& Int32.toUInt32 31)).toInt32 &&& (858993459 : Int32))) + (((((x0 - (((x0).toUInt32 >>> (((1 : Int32)).toUInt32 &&& Int32.toUInt32 31)).toInt32 &&& (1431655765 : Int32))) &&& (858993459 : Int32)) + ((((x0 - (((x0).toUInt32 >>> (((1 : Int32)).toUInt32 &&& Int32.toUInt32 31)).toInt32 &&& (1431655765 : Int32)))).toUInt32 >>> (((2 : Int32)).toUInt32 &&& Int32.toUInt32 31)).toInt32 &&& (858993459 : Int32)))).toUInt32 >>> (((4 : Int32)).toUInt32 &&& Int32.toUInt32 31)).toInt32) &&& (252645135 : Int32))).toUInt32 >>> (((8 : Int32)).toUInt32 &&& Int32.toUInt32 31)).toInt32)).toUInt32 >>> (((16 : Int32)).toUInt32 &&& Int32.toUInt32 31)).toInt32) &&& (63 : Int32))
def J6_bitCount (μ : wd_Mem) (x0 : Int32) : Int32 := J6_bitCount_b0 μ x0
def X7_power_c4 (rec : Int32 → Int32 → Option (Int32)) (k : Int32 → Option (Int32)) (μ : wd_Mem) (x0 x1 x2 x3 : Int32) : Option (Int32) :=
  (if x1 ≤ x3 then k x2 else rec (x2 * x0) (x3 + (1 : Int32)))
def X7_power_l4 (k : Int32 → Option (Int32)) (μ : wd_Mem) (x0 x1 : Int32) : Nat → Int32 → Int32 → Option (Int32)
  | 0, _, _ => none
  | n + 1, x2, x3 => X7_power_c4 (X7_power_l4 k μ x0 x1 n) k μ x0 x1 x2 x3
def X7_power_b19 (μ : wd_Mem) (x2 : Int32) : Option (Int32) :=
  some x2
def X7_power_b0 (μ : wd_Mem) (x0 x1 : Int32) : Option (Int32) :=
  X7_power_l4 (fun x2 => X7_power_b19 μ x2) μ x0 x1 wd_big (1 : Int32) (0 : Int32)
def X7_power (μ : wd_Mem) (x0 x1 : Int32) : Option (Int32) := X7_power_b0 μ x0 x1
def X2_growNeeds_c2 (rec : Int32 → wd_Mem → Option (wd_Mem)) (k : wd_Mem → Option (wd_Mem)) (μ : wd_Mem) (x1 x2 : Int32) : Option (wd_Mem) :=
  (if (μ 3 1) ≤ x2 then k μ else wd_chk (wd_in x2 5) (rec (x2 + (1 : Int32)) (mset μ 24 (Int32.toNatClampNeg x2) (if ((μ 5 (Int32.toNatClampNeg x2)) + ((x1 >>> (x2 &&& 31)) &&& (1 : Int32))) < (μ 3 0) then ((μ 5 (Int32.toNatClampNeg x2)) + ((x1 >>> (x2 &&& 31)) &&& (1 : Int32))) else (μ 3 0)))))
def X2_growNeeds_l2 (k : wd_Mem → Option (wd_Mem)) (x1 : Int32) : Nat → Int32 → wd_Mem → Option (wd_Mem)
  | 0, _, _ => none
  | n + 1, x2, μ => X2_growNeeds_c2 (X2_growNeeds_l2 k x1 n) k μ x1 x2
def X2_growNeeds_b50 (μ : wd_Mem) : Option (wd_Mem) :=
  some μ
def X2_growNeeds_b0 (μ : wd_Mem) (x1 : Int32) : Option (wd_Mem) :=
  X2_growNeeds_l2 (fun μ => X2_growNeeds_b50 μ) x1 wd_big (0 : Int32) μ
def X2_growNeeds (μ : wd_Mem) (x1 : Int32) : Option (wd_Mem) := X2_growNeeds_b0 μ x1
def X2_luckyOf_b80 (rec : Int32 → Int32 → wd_Mem → Option (Int32 × wd_Mem)) (k : Int32 → wd_Mem → Option (Int32 × wd_Mem)) (h1 : Nat) (μ : wd_Mem) (x2 x3 x4 : Int32) : Option (Int32 × wd_Mem) :=
  rec x3 (x4 + (1 : Int32)) μ
def X2_luckyOf_c10 (rec : Int32 → Int32 → wd_Mem → Option (Int32 × wd_Mem)) (k : Int32 → wd_Mem → Option (Int32 × wd_Mem)) (h1 : Nat) (μ : wd_Mem) (x2 x3 x4 : Int32) : Option (Int32 × wd_Mem) :=
  (if ((1 : Int32) <<< ((μ 3 1) &&& 31)) ≤ x4 then k x3 μ else (X7_power μ x2 (J6_bitCount μ x4)).bind (fun r3 => (X7_power μ ((10 : Int32) - x2) ((μ 3 1) - (J6_bitCount μ x4))).bind (fun r4 => (X2_growNeeds μ x4).bind (fun r5 => (if (r3 * r4) ≤ 0 then X2_luckyOf_b80 rec k h1 r5 x2 x3 x4 else (X2_isAny r5).bind (fun r7 => (if r7.1 = 0 then X2_luckyOf_b80 rec k h1 r7.2 x2 x3 x4 else X2_luckyOf_b80 rec k h1 r7.2 x2 (x3 + (r3 * r4)) x4)))))))
def X2_luckyOf_l10 (k : Int32 → wd_Mem → Option (Int32 × wd_Mem)) (h1 : Nat) (x2 : Int32) : Nat → Int32 → Int32 → wd_Mem → Option (Int32 × wd_Mem)
  | 0, _, _, _ => none
  | n + 1, x3, x4, μ => X2_luckyOf_c10 (X2_luckyOf_l10 k h1 x2 n) k h1 μ x2 x3 x4
def X2_luckyOf_b86 (h1 : Nat) (μ : wd_Mem) (x3 : Int32) : Option (Int32 × wd_Mem) :=
  some (x3, μ)
def X2_luckyOf_b0 (h1 : Nat) (μ : wd_Mem) (x2 : Int32) : Option (Int32 × wd_Mem) :=
  (X2_open h1 μ).bind (fun r1 => X2_luckyOf_l10 (fun x3 μ => X2_luckyOf_b86 h1 μ x3) h1 x2 wd_big (0 : Int32) (0 : Int32) r1)
def X2_luckyOf (h1 : Nat) (μ : wd_Mem) (x2 : Int32) : Option (Int32 × wd_Mem) := X2_luckyOf_b0 h1 μ x2
def X7_commonDivisor_c19 (rec : Int32 → Int32 → Int32 → Option (Int32)) (k : Int32 → Option (Int32)) (μ : wd_Mem) (x2 x3 x4 : Int32) : Option (Int32) :=
  (if x4 ≤ 0 then k x2 else (if x3 ≤ 0 then k x2 else wd_chk (wd_nz x3) (rec x3 (x2 - x2 / x3 * x3) (x4 + (-1 : Int32)))))
def X7_commonDivisor_l19 (k : Int32 → Option (Int32)) (μ : wd_Mem) : Nat → Int32 → Int32 → Int32 → Option (Int32)
  | 0, _, _, _ => none
  | n + 1, x2, x3, x4 => X7_commonDivisor_c19 (X7_commonDivisor_l19 k μ n) k μ x2 x3 x4
def X7_commonDivisor_b44 (μ : wd_Mem) (x2 : Int32) : Option (Int32) :=
  some x2
def X7_commonDivisor_b0 (μ : wd_Mem) (x0 x1 : Int32) : Option (Int32) :=
  X7_commonDivisor_l19 (fun x2 => X7_commonDivisor_b44 μ x2) μ wd_big (if x0 < x1 then x1 else x0) (if x1 < x0 then x1 else x0) (if x1 < x0 then x1 else x0)
def X7_commonDivisor (μ : wd_Mem) (x0 x1 : Int32) : Option (Int32) := X7_commonDivisor_b0 μ x0 x1
def X7_odds_b17 (μ : wd_Mem) : Option (Int32 × wd_Mem) :=
  some ((-1 : Int32), μ)
def X7_odds_b0 (μ : wd_Mem) (x1 x2 : Int32) : Option (Int32 × wd_Mem) :=
  (if x1 < 0 then X7_odds_b17 μ else (if (10 : Int32) < x1 then X7_odds_b17 μ else (if (X7_isZeroOrOne μ x2) = 0 then X7_odds_b17 μ else (X2_luckyOf 48 μ x1).bind (fun r4 => (X7_power r4.2 (10 : Int32) (r4.2 3 1)).bind (fun r5 => (X7_commonDivisor r4.2 r4.1 r5).bind (fun r6 => (if 0 < r6 then (if x2 = 0 then wd_chk (wd_nz r6) (some ((r4.1 / r6), r4.2)) else wd_chk (wd_nz r6) (some ((r5 / r6), r4.2))) else some ((-1 : Int32), r4.2))))))))
def X7_odds (μ : wd_Mem) (x1 x2 : Int32) : Option (Int32 × wd_Mem) := X7_odds_b0 μ x1 x2
def X7_keep_b0 (μ : wd_Mem) (x1 : Int32) : Option (Int32 × wd_Mem) :=
  (if (X7_isZeroOrOne μ x1) = 0 then some ((-1 : Int32), μ) else wd_chk (wd_in x1 2) ((wd_imgs[Int32.toNatClampNeg x1]?).bind (fun a14 => (X6_take a14 48 μ).bind (fun r3 => some ((r3 3 1), (mset r3 30 (Int32.toNatClampNeg x1) (vp_nar .boolean (1 : Int32))))))))
def X7_keep (μ : wd_Mem) (x1 : Int32) : Option (Int32 × wd_Mem) := X7_keep_b0 μ x1
def X7_back_b0 (μ : wd_Mem) (x1 : Int32) : Option (Int32 × wd_Mem) :=
  (if (X7_isZeroOrOne μ x1) = 0 then some ((-1 : Int32), μ) else wd_chk (wd_in x1 2) ((if (μ 30 (Int32.toNatClampNeg x1)) = 0 then some ((-2 : Int32), μ) else (wd_imgs[Int32.toNatClampNeg x1]?).bind (fun a30 => (X6_take 48 a30 μ).bind (fun r4 => some ((r4 3 1), (mset r4 27 2 (0 : Int32))))))))
def X7_back (μ : wd_Mem) (x1 : Int32) : Option (Int32 × wd_Mem) := X7_back_b0 μ x1
def X2_putInOrder_b68 (rec : Int32 → Int32 → Option (wd_Mem)) (k : Int32 → Option (wd_Mem)) (μ : wd_Mem) (x1 x3 s0 s1 : Int32) : Option (wd_Mem) :=
  rec (s0 + s1) (x3 + (1 : Int32))
def X2_putInOrder_b63 (rec : Int32 → Int32 → Option (wd_Mem)) (k : Int32 → Option (wd_Mem)) (μ : wd_Mem) (x1 x3 s0 : Int32) : Option (wd_Mem) :=
  X2_putInOrder_b68 rec k μ x1 x3 s0 (1 : Int32)
def X2_putInOrder_b67 (rec : Int32 → Int32 → Option (wd_Mem)) (k : Int32 → Option (wd_Mem)) (μ : wd_Mem) (x1 x3 s0 : Int32) : Option (wd_Mem) :=
  X2_putInOrder_b68 rec k μ x1 x3 s0 (0 : Int32)
def X2_putInOrder_c17 (rec : Int32 → Int32 → Option (wd_Mem)) (k : Int32 → Option (wd_Mem)) (μ : wd_Mem) (x1 x2 x3 : Int32) : Option (wd_Mem) :=
  (if (μ 3 1) ≤ x3 then k x2 else (X4_energy 3 μ x3).bind (fun r3 => (X4_energy 3 μ x1).bind (fun r4 => (if 0 < (r3 - r4) then X2_putInOrder_b63 rec k μ x1 x3 x2 else (if (r3 - r4) = 0 then (if x1 ≤ x3 then X2_putInOrder_b67 rec k μ x1 x3 x2 else X2_putInOrder_b63 rec k μ x1 x3 x2) else X2_putInOrder_b67 rec k μ x1 x3 x2)))))
def X2_putInOrder_l17 (k : Int32 → Option (wd_Mem)) (μ : wd_Mem) (x1 : Int32) : Nat → Int32 → Int32 → Option (wd_Mem)
  | 0, _, _ => none
  | n + 1, x2, x3 => X2_putInOrder_c17 (X2_putInOrder_l17 k μ x1 n) k μ x1 x2 x3
def X2_putInOrder_b76 (rec : Int32 → wd_Mem → Option (wd_Mem)) (k : wd_Mem → Option (wd_Mem)) (μ : wd_Mem) (x1 x2 : Int32) : Option (wd_Mem) :=
  wd_chk (wd_in x2 5) (rec (x1 + (1 : Int32)) (mset μ 25 (Int32.toNatClampNeg x2) x1))
def X2_putInOrder_c2 (rec : Int32 → wd_Mem → Option (wd_Mem)) (k : wd_Mem → Option (wd_Mem)) (μ : wd_Mem) (x1 : Int32) : Option (wd_Mem) :=
  (if (μ 3 1) ≤ x1 then k μ else X2_putInOrder_l17 (fun x2 => X2_putInOrder_b76 rec k μ x1 x2) μ x1 wd_big (0 : Int32) (0 : Int32))
def X2_putInOrder_l2 (k : wd_Mem → Option (wd_Mem)) : Nat → Int32 → wd_Mem → Option (wd_Mem)
  | 0, _, _ => none
  | n + 1, x1, μ => X2_putInOrder_c2 (X2_putInOrder_l2 k n) k μ x1
def X2_putInOrder_b89 (μ : wd_Mem) : Option (wd_Mem) :=
  some μ
def X2_putInOrder_b0 (μ : wd_Mem) : Option (wd_Mem) :=
  X2_putInOrder_l2 (fun μ => X2_putInOrder_b89 μ) wd_big (0 : Int32) μ
def X2_putInOrder (μ : wd_Mem) : Option (wd_Mem) := X2_putInOrder_b0 μ
def X2_countWith_b0 (self : wd_Mem → Int32 → Option (wd_Mem)) (μ : wd_Mem) (x1 x2 x3 : Int32) : Option (wd_Mem) :=
  wd_chk (wd_in x1 5) ((X2_fill μ x1 x2 (μ 24 (Int32.toNatClampNeg x1))).bind (fun r2 => (self r2 (x3 + (1 : Int32))).bind (fun r3 => (X2_fill r3 x1 x2 (-(r3 24 (Int32.toNatClampNeg x1)))).bind (fun r4 => some r4))))
def X2_countWith (self : wd_Mem → Int32 → Option (wd_Mem)) (μ : wd_Mem) (x1 x2 x3 : Int32) : Option (wd_Mem) := X2_countWith_b0 self μ x1 x2 x3
def X2_countFrom_b120 (self : wd_Mem → Int32 → Option (wd_Mem)) (rec : Int32 → Int32 → wd_Mem → Option (wd_Mem)) (k : wd_Mem → Option (wd_Mem)) (μ : wd_Mem) (x1 x2 x3 x4 : Int32) : Option (wd_Mem) :=
  rec x3 (x4 + (1 : Int32)) μ
def X2_countFrom_b76 (self : wd_Mem → Int32 → Option (wd_Mem)) (rec : Int32 → Int32 → wd_Mem → Option (wd_Mem)) (k : wd_Mem → Option (wd_Mem)) (μ : wd_Mem) (x1 x2 x4 s0 : Int32) : Option (wd_Mem) :=
  wd_chk (wd_in x2 5) ((if s0 < (μ 4 (Int32.toNatClampNeg x2)) then X2_countFrom_b120 self rec k μ x1 x2 s0 x4 else (if (9999 : Int32) ≤ (μ 21 6) then X2_countFrom_b120 self rec k μ x1 x2 s0 x4 else (X2_countWith self μ x2 ((x4 + (1 : Int32)) - (μ 4 (Int32.toNatClampNeg x2))) x1).bind (fun r11 => X2_countFrom_b120 self rec k r11 x1 x2 s0 x4))))
def X2_countFrom_c43 (self : wd_Mem → Int32 → Option (wd_Mem)) (rec : Int32 → Int32 → wd_Mem → Option (wd_Mem)) (k : wd_Mem → Option (wd_Mem)) (μ : wd_Mem) (x1 x2 x3 x4 : Int32) : Option (wd_Mem) :=
  wd_chk (wd_in x2 5) ((if (if (μ 23 (Int32.toNatClampNeg x2)) < (16 : Int32) then (μ 23 (Int32.toNatClampNeg x2)) else (16 : Int32)) ≤ x4 then k μ else (X2_hasRoom μ x2 x4).bind (fun r6 => (if r6 = 0 then X2_countFrom_b76 self rec k μ x1 x2 x4 (0 : Int32) else X2_countFrom_b76 self rec k μ x1 x2 x4 (x3 + (1 : Int32))))))
def X2_countFrom_l43 (self : wd_Mem → Int32 → Option (wd_Mem)) (k : wd_Mem → Option (wd_Mem)) (x1 x2 : Int32) : Nat → Int32 → Int32 → wd_Mem → Option (wd_Mem)
  | 0, _, _, _ => none
  | n + 1, x3, x4, μ => X2_countFrom_c43 self (X2_countFrom_l43 self k x1 x2 n) k μ x1 x2 x3 x4
def X2_countFrom_b126 (self : wd_Mem → Int32 → Option (wd_Mem)) (μ : wd_Mem) : Option (wd_Mem) :=
  some μ
def X2_countFrom_b0 (self : wd_Mem → Int32 → Option (wd_Mem)) (μ : wd_Mem) (x1 : Int32) : Option (wd_Mem) :=
  (if x1 < (μ 3 1) then wd_chk (wd_in x1 5) (wd_chk (wd_in (μ 25 (Int32.toNatClampNeg x1)) 5) (X2_countFrom_l43 self (fun μ => X2_countFrom_b126 self μ) x1 (μ 25 (Int32.toNatClampNeg x1)) wd_big (0 : Int32) (if (0 : Int32) < (μ 22 (Int32.toNatClampNeg (μ 25 (Int32.toNatClampNeg x1)))) then (μ 22 (Int32.toNatClampNeg (μ 25 (Int32.toNatClampNeg x1)))) else (0 : Int32)) μ)) else some (mset μ 21 6 ((μ 21 6) + (1 : Int32))))
def X2_countFrom : Nat → wd_Mem → Int32 → Option (wd_Mem)
  | 0, _, _ => none
  | n + 1, μ, x1 => X2_countFrom_b0 (X2_countFrom n) μ x1
def X2_schedules_b26 (h1 : Nat) (μ : wd_Mem) : Option (Int32 × wd_Mem) :=
  some ((μ 21 6), μ)
def X2_schedules_b0 (h1 : Nat) (μ : wd_Mem) : Option (Int32 × wd_Mem) :=
  (X2_open h1 μ).bind (fun r1 => (X2_isAny (mset r1 21 6 (0 : Int32))).bind (fun r2 => (if r2.1 = 0 then X2_schedules_b26 h1 r2.2 else (X2_putInOrder r2.2).bind (fun r4 => (X2_countFrom 8 r4 (0 : Int32)).bind (fun r5 => X2_schedules_b26 h1 r5)))))
def X2_schedules (h1 : Nat) (μ : wd_Mem) : Option (Int32 × wd_Mem) := X2_schedules_b0 h1 μ
def X2_shortest_c15 (rec : Int32 → wd_Mem → Option (Int32 × wd_Mem)) (k : wd_Mem → Option (Int32 × wd_Mem)) (h1 : Nat) (μ : wd_Mem) (x2 x3 : Int32) : Option (Int32 × wd_Mem) :=
  (if (μ 3 1) ≤ x3 then k μ else wd_chk (wd_in x3 5) (rec (x3 + (1 : Int32)) (mset μ 23 (Int32.toNatClampNeg x3) (if x2 < (μ 23 (Int32.toNatClampNeg x3)) then x2 else (μ 23 (Int32.toNatClampNeg x3))))))
def X2_shortest_l15 (k : wd_Mem → Option (Int32 × wd_Mem)) (h1 : Nat) (x2 : Int32) : Nat → Int32 → wd_Mem → Option (Int32 × wd_Mem)
  | 0, _, _ => none
  | n + 1, x3, μ => X2_shortest_c15 (X2_shortest_l15 k h1 x2 n) k h1 μ x2 x3
def X2_shortest_b48 (rec : Int32 → wd_Mem → Option (Int32 × wd_Mem)) (k : wd_Mem → Option (Int32 × wd_Mem)) (h1 : Nat) (μ : wd_Mem) (x2 : Int32) : Option (Int32 × wd_Mem) :=
  (X2_isAny μ).bind (fun r5 => (if r5.1 = 0 then rec (x2 + (1 : Int32)) r5.2 else some (x2, r5.2)))
def X2_shortest_c2 (rec : Int32 → wd_Mem → Option (Int32 × wd_Mem)) (k : wd_Mem → Option (Int32 × wd_Mem)) (h1 : Nat) (μ : wd_Mem) (x2 : Int32) : Option (Int32 × wd_Mem) :=
  (if (16 : Int32) < x2 then k μ else (X2_open h1 μ).bind (fun r2 => X2_shortest_l15 (fun μ => X2_shortest_b48 rec k h1 μ x2) h1 x2 wd_big (0 : Int32) r2))
def X2_shortest_l2 (k : wd_Mem → Option (Int32 × wd_Mem)) (h1 : Nat) : Nat → Int32 → wd_Mem → Option (Int32 × wd_Mem)
  | 0, _, _ => none
  | n + 1, x2, μ => X2_shortest_c2 (X2_shortest_l2 k h1 n) k h1 μ x2
def X2_shortest_b63 (h1 : Nat) (μ : wd_Mem) : Option (Int32 × wd_Mem) :=
  some ((-9 : Int32), μ)
def X2_shortest_b0 (h1 : Nat) (μ : wd_Mem) : Option (Int32 × wd_Mem) :=
  X2_shortest_l2 (fun μ => X2_shortest_b63 h1 μ) h1 wd_big (0 : Int32) μ
def X2_shortest (h1 : Nat) (μ : wd_Mem) : Option (Int32 × wd_Mem) := X2_shortest_b0 h1 μ
def X3_heaviest_b53 (rec : Int32 → Int32 → Int32 → Option (Int32)) (k : Int32 → Int32 → Option (Int32)) (μ : wd_Mem) (x1 x2 x3 x4 : Int32) : Option (Int32) :=
  rec x1 x2 (x4 + (1 : Int32))
def X3_heaviest_c18 (rec : Int32 → Int32 → Int32 → Option (Int32)) (k : Int32 → Int32 → Option (Int32)) (μ : wd_Mem) (x1 x2 x3 x4 : Int32) : Option (Int32) :=
  (if (16 : Int32) < x4 then k x1 x2 else (X3_free μ (-9 : Int32) x3 x4).bind (fun r3 => (if x2 ≤ r3 then X3_heaviest_b53 rec k μ x1 x2 x3 x4 else X3_heaviest_b53 rec k μ (((100 : Int32) * x3) + x4) r3 x3 x4)))
def X3_heaviest_l18 (k : Int32 → Int32 → Option (Int32)) (μ : wd_Mem) (x3 : Int32) : Nat → Int32 → Int32 → Int32 → Option (Int32)
  | 0, _, _, _ => none
  | n + 1, x1, x2, x4 => X3_heaviest_c18 (X3_heaviest_l18 k μ x3 n) k μ x1 x2 x3 x4
def X3_heaviest_b59 (rec : Int32 → Int32 → Int32 → Option (Int32)) (k : Int32 → Option (Int32)) (μ : wd_Mem) (x1 x2 x3 : Int32) : Option (Int32) :=
  rec x1 x2 (x3 + (1 : Int32))
def X3_heaviest_c7 (rec : Int32 → Int32 → Int32 → Option (Int32)) (k : Int32 → Option (Int32)) (μ : wd_Mem) (x1 x2 x3 : Int32) : Option (Int32) :=
  (if (16 : Int32) ≤ x3 then k x1 else X3_heaviest_l18 (fun x1 x2 => X3_heaviest_b59 rec k μ x1 x2 x3) μ x3 wd_big x1 x2 (x3 + (1 : Int32)))
def X3_heaviest_l7 (k : Int32 → Option (Int32)) (μ : wd_Mem) : Nat → Int32 → Int32 → Int32 → Option (Int32)
  | 0, _, _, _ => none
  | n + 1, x1, x2, x3 => X3_heaviest_c7 (X3_heaviest_l7 k μ n) k μ x1 x2 x3
def X3_heaviest_b65 (μ : wd_Mem) (x1 : Int32) : Option (Int32) :=
  some x1
def X3_heaviest_b0 (μ : wd_Mem) : Option (Int32) :=
  X3_heaviest_l7 (fun x1 => X3_heaviest_b65 μ x1) μ wd_big (-9 : Int32) (0 : Int32) (0 : Int32)
def X3_heaviest (μ : wd_Mem) : Option (Int32) := X3_heaviest_b0 μ
def X4_energyOfAll_c4 (rec : Int32 → Int32 → Option (Int32)) (k : Int32 → Option (Int32)) (h0 : Nat) (μ : wd_Mem) (x1 x2 : Int32) : Option (Int32) :=
  (if (μ h0 1) ≤ x2 then k x1 else (X4_energy h0 μ x2).bind (fun r2 => rec (x1 + r2) (x2 + (1 : Int32))))
def X4_energyOfAll_l4 (k : Int32 → Option (Int32)) (h0 : Nat) (μ : wd_Mem) : Nat → Int32 → Int32 → Option (Int32)
  | 0, _, _ => none
  | n + 1, x1, x2 => X4_energyOfAll_c4 (X4_energyOfAll_l4 k h0 μ n) k h0 μ x1 x2
def X4_energyOfAll_b26 (h0 : Nat) (μ : wd_Mem) (x1 : Int32) : Option (Int32) :=
  some x1
def X4_energyOfAll_b0 (h0 : Nat) (μ : wd_Mem) : Option (Int32) :=
  X4_energyOfAll_l4 (fun x1 => X4_energyOfAll_b26 h0 μ x1) h0 μ wd_big (0 : Int32) (0 : Int32)
def X4_energyOfAll (h0 : Nat) (μ : wd_Mem) : Option (Int32) := X4_energyOfAll_b0 h0 μ
def X7_count_b0 (μ : wd_Mem) (x1 : Int32) : Option (Int32 × wd_Mem) :=
  (if x1 = nI 0 then some ((μ 3 1), μ) else (if x1 = nI 1 then some ((μ 3 0), μ) else (if x1 = nI 2 then (X6_isBroken 48 3 μ).bind (fun r1 => (if r1 = 0 then some ((0 : Int32), μ) else some ((1 : Int32), μ))) else (if x1 = nI 3 then (X2_schedules 48 μ).bind (fun r3 => some (r3.1, r3.2)) else (if x1 = nI 4 then (X2_shortest 48 μ).bind (fun r4 => some (r4.1, r4.2)) else (if x1 = nI 5 then (X3_look 48 μ (0 : Int32)).bind (fun r5 => (X3_heaviest r5).bind (fun r6 => some (r6, r5))) else (if x1 = nI 6 then (X4_energyOfAll 3 μ).bind (fun r7 => some (r7, μ)) else (if x1 = nI 7 then some ((μ 1 1), μ) else (if x1 = nI 8 then some ((μ 27 2), μ) else some ((-1 : Int32), μ))))))))))
def X7_count (μ : wd_Mem) (x1 : Int32) : Option (Int32 × wd_Mem) := X7_count_b0 μ x1
def X8_in_b14 (μ : wd_Mem) : Int32 :=
  (0 : Int32)
def X8_in_b0 (μ : wd_Mem) (x0 x1 x2 : Int32) : Int32 :=
  (if x0 < x1 then X8_in_b14 μ else (if x2 < x0 then X8_in_b14 μ else (1 : Int32)))
def X8_in (μ : wd_Mem) (x0 x1 x2 : Int32) : Int32 := X8_in_b0 μ x0 x1 x2
def X8_type_b0 (μ : wd_Mem) (x1 : Int32) : Option (Int32 × wd_Mem) :=
  (if (X8_in μ x1 (0 : Int32) (255 : Int32)) = 0 then some ((-1 : Int32), μ) else (if (μ 31 10) = (100 : Int32) then some ((-3 : Int32), μ) else wd_chk (wd_in (μ 31 10) 100) (some (((μ 31 10) + (1 : Int32)), (mset (mset μ 38 (Int32.toNatClampNeg (μ 31 10)) x1) 31 10 ((μ 31 10) + (1 : Int32)))))))
def X8_type (μ : wd_Mem) (x1 : Int32) : Option (Int32 × wd_Mem) := X8_type_b0 μ x1
def X8_clear_b0 (μ : wd_Mem) : Option (Int32 × wd_Mem) :=
  some ((μ 31 10), (mset μ 31 10 (0 : Int32)))
def X8_clear (μ : wd_Mem) : Option (Int32 × wd_Mem) := X8_clear_b0 μ
def X8_blanks_c0 (rec : wd_Mem → Option (wd_Mem)) (k : wd_Mem → Option (wd_Mem)) (μ : wd_Mem) : Option (wd_Mem) :=
  (if (μ 31 10) ≤ (μ 31 12) then k μ else wd_chk (wd_in (μ 31 12) 100) ((if (μ 38 (Int32.toNatClampNeg (μ 31 12))) = (32 : Int32) then rec (mset μ 31 12 ((μ 31 12) + (1 : Int32))) else k μ)))
def X8_blanks_l0 (k : wd_Mem → Option (wd_Mem)) : Nat → wd_Mem → Option (wd_Mem)
  | 0, _ => none
  | n + 1, μ => X8_blanks_c0 (X8_blanks_l0 k n) k μ
def X8_blanks_b38 (μ : wd_Mem) : Option (wd_Mem) :=
  some μ
def X8_blanks_b0 (μ : wd_Mem) : Option (wd_Mem) :=
  X8_blanks_l0 (fun μ => X8_blanks_b38 μ) wd_big μ
def X8_blanks (μ : wd_Mem) : Option (wd_Mem) := X8_blanks_b0 μ
def X8_isFigure_b34 (μ : wd_Mem) : Option (Int32) :=
  some (0 : Int32)
def X8_isFigure_b0 (μ : wd_Mem) : Option (Int32) :=
  (if (μ 31 10) ≤ (μ 31 12) then X8_isFigure_b34 μ else wd_chk (wd_in (μ 31 12) 100) ((if (X8_in μ (μ 38 (Int32.toNatClampNeg (μ 31 12))) (48 : Int32) (57 : Int32)) = 0 then X8_isFigure_b34 μ else some (1 : Int32))))
def X8_isFigure (μ : wd_Mem) : Option (Int32) := X8_isFigure_b0 μ
def X8_next_b187 (μ : wd_Mem) (s1 : Int32) : Option (wd_Mem) :=
  some (mset (mset μ 31 14 s1) 31 12 ((μ 31 12) + (1 : Int32)))
def X8_next_b181 (μ : wd_Mem) (x1 : Int32) : Option (wd_Mem) :=
  X8_next_b187 μ x1
def X8_next_b87 (rec : wd_Mem → Option (wd_Mem)) (k : wd_Mem → Option (wd_Mem)) (μ : wd_Mem) (s1 : Int32) : Option (wd_Mem) :=
  rec (mset (mset μ 31 15 s1) 31 12 ((μ 31 12) + (1 : Int32)))
def X8_next_c43 (rec : wd_Mem → Option (wd_Mem)) (k : wd_Mem → Option (wd_Mem)) (μ : wd_Mem) : Option (wd_Mem) :=
  (X8_isFigure μ).bind (fun r9 => (if r9 = 0 then k μ else (if (μ 31 15) ≤ (99 : Int32) then wd_chk (wd_in (μ 31 12) 100) (X8_next_b87 rec k μ ((((10 : Int32) * (μ 31 15)) + (μ 38 (Int32.toNatClampNeg (μ 31 12)))) - (48 : Int32))) else X8_next_b87 rec k μ (μ 31 15))))
def X8_next_l43 (k : wd_Mem → Option (wd_Mem)) : Nat → wd_Mem → Option (wd_Mem)
  | 0, _ => none
  | n + 1, μ => X8_next_c43 (X8_next_l43 k n) k μ
def X8_next_b146 (μ : wd_Mem) (s1 : Int32) : Option (wd_Mem) :=
  some (mset μ 31 14 s1)
def X8_next_b140 (μ : wd_Mem) : Option (wd_Mem) :=
  X8_next_b146 μ (-2 : Int32)
def X8_next_b145 (μ : wd_Mem) : Option (wd_Mem) :=
  X8_next_b146 μ (0 : Int32)
def X8_next_b103 (μ : wd_Mem) : Option (wd_Mem) :=
  (if (99 : Int32) < (μ 31 15) then X8_next_b140 μ else wd_chk (wd_in (μ 31 13) 100) ((if (μ 38 (Int32.toNatClampNeg (μ 31 13))) = (48 : Int32) then (if ((μ 31 12) - (μ 31 13)) ≤ (1 : Int32) then X8_next_b145 μ else X8_next_b140 μ) else X8_next_b145 μ)))
def X8_next_b0 (μ : wd_Mem) : Option (wd_Mem) :=
  (X8_blanks μ).bind (fun r1 => (if (r1 31 12) = (r1 31 10) then some (mset (mset r1 31 13 (r1 31 12)) 31 14 (-1 : Int32)) else (X8_isFigure (mset r1 31 13 (r1 31 12))).bind (fun r3 => (if r3 = 0 then wd_chk (wd_in (r1 31 12) 100) ((if (r1 38 (Int32.toNatClampNeg (r1 31 12))) = (99 : Int32) then X8_next_b181 (mset r1 31 13 (r1 31 12)) (r1 38 (Int32.toNatClampNeg (r1 31 12))) else (if (r1 38 (Int32.toNatClampNeg (r1 31 12))) = (116 : Int32) then X8_next_b181 (mset r1 31 13 (r1 31 12)) (r1 38 (Int32.toNatClampNeg (r1 31 12))) else (if (r1 38 (Int32.toNatClampNeg (r1 31 12))) = (59 : Int32) then X8_next_b181 (mset r1 31 13 (r1 31 12)) (r1 38 (Int32.toNatClampNeg (r1 31 12))) else X8_next_b187 (mset r1 31 13 (r1 31 12)) (-2 : Int32))))) else X8_next_l43 (fun μ => X8_next_b103 μ) wd_big (mset (mset r1 31 13 (r1 31 12)) 31 15 (0 : Int32))))))
def X8_next (μ : wd_Mem) : Option (wd_Mem) := X8_next_b0 μ
def X8_fails_b0 (μ : wd_Mem) : Option (Int32 × wd_Mem) :=
  some ((0 : Int32), (mset μ 31 16 (μ 31 13)))
def X8_fails (μ : wd_Mem) : Option (Int32 × wd_Mem) := X8_fails_b0 μ
def X8_number_b30 (μ : wd_Mem) : Option (Int32 × wd_Mem) :=
  some ((1 : Int32), μ)
def X8_number_b23 (μ : wd_Mem) : Option (Int32 × wd_Mem) :=
  (X8_fails μ).bind (fun r3 => (if r3.1 = 0 then some ((0 : Int32), r3.2) else X8_number_b30 r3.2))
def X8_number_b0 (μ : wd_Mem) (x1 x2 : Int32) : Option (Int32 × wd_Mem) :=
  (X8_next μ).bind (fun r1 => (if (r1 31 14) = 0 then (if (X8_in r1 (r1 31 15) x1 x2) = 0 then X8_number_b23 r1 else X8_number_b30 r1) else X8_number_b23 r1))
def X8_number (μ : wd_Mem) (x1 x2 : Int32) : Option (Int32 × wd_Mem) := X8_number_b0 μ x1 x2
def X8_ends_b20 (μ : wd_Mem) : Option (Int32 × wd_Mem) :=
  some ((1 : Int32), μ)
def X8_ends_b0 (μ : wd_Mem) : Option (Int32 × wd_Mem) :=
  (X8_next μ).bind (fun r1 => (if (r1 31 14) = (59 : Int32) then X8_ends_b20 r1 else (X8_fails r1).bind (fun r3 => (if r3.1 = 0 then some ((0 : Int32), r3.2) else X8_ends_b20 r3.2))))
def X8_ends (μ : wd_Mem) : Option (Int32 × wd_Mem) := X8_ends_b0 μ
def X8_readsTask_b143 (μ : wd_Mem) (x1 s1 s2 : Int32) : Option (Int32 × wd_Mem) :=
  (X8_number μ s1 s2).bind (fun r13 => (if r13.1 = 0 then some ((0 : Int32), r13.2) else wd_chk (wd_in (x1 + (3 : Int32)) 20) ((X8_ends (mset (mset r13.2 39 (Int32.toNatClampNeg (x1 + (3 : Int32))) (r13.2 31 15)) 31 17 ((r13.2 31 17) + (1 : Int32)))).bind (fun r16 => wd_chk (wd_bit r16.1) (some (r16.1, r16.2))))))
def X8_readsTask_b103 (μ : wd_Mem) (x1 s1 s2 : Int32) : Option (Int32 × wd_Mem) :=
  (X8_number μ s1 s2).bind (fun r9 => (if r9.1 = 0 then some ((0 : Int32), r9.2) else wd_chk (wd_in (x1 + (2 : Int32)) 20) ((if (9 : Int32) ≤ (r9.2 31 18) then X8_readsTask_b143 (mset r9.2 39 (Int32.toNatClampNeg (x1 + (2 : Int32))) (r9.2 31 15)) x1 (1 : Int32) (9 : Int32) else X8_readsTask_b143 (mset r9.2 39 (Int32.toNatClampNeg (x1 + (2 : Int32))) (r9.2 31 15)) x1 (1 : Int32) (r9.2 31 18)))))
def X8_readsTask_b0 (μ : wd_Mem) : Option (Int32 × wd_Mem) :=
  (if (μ 31 17) = (5 : Int32) then (X8_fails μ).bind (fun r18 => wd_chk (wd_bit r18.1) (some (r18.1, r18.2))) else (X8_number μ (0 : Int32) (15 : Int32)).bind (fun r2 => (if r2.1 = 0 then some ((0 : Int32), r2.2) else wd_chk (wd_in ((4 : Int32) * (μ 31 17)) 20) ((X8_number (mset r2.2 39 (Int32.toNatClampNeg ((4 : Int32) * (μ 31 17))) (r2.2 31 15)) (((mset r2.2 39 (Int32.toNatClampNeg ((4 : Int32) * (μ 31 17))) (r2.2 31 15)) 39 (Int32.toNatClampNeg ((4 : Int32) * (μ 31 17)))) + (1 : Int32)) (16 : Int32)).bind (fun r5 => (if r5.1 = 0 then some ((0 : Int32), r5.2) else wd_chk (wd_in (((4 : Int32) * (μ 31 17)) + (1 : Int32)) 20) ((if (9 : Int32) ≤ (((mset r5.2 39 (Int32.toNatClampNeg (((4 : Int32) * (μ 31 17)) + (1 : Int32))) (r5.2 31 15)) 39 (Int32.toNatClampNeg (((4 : Int32) * (μ 31 17)) + (1 : Int32)))) - ((mset r5.2 39 (Int32.toNatClampNeg (((4 : Int32) * (μ 31 17)) + (1 : Int32))) (r5.2 31 15)) 39 (Int32.toNatClampNeg ((4 : Int32) * (μ 31 17))))) then X8_readsTask_b103 (mset r5.2 39 (Int32.toNatClampNeg (((4 : Int32) * (μ 31 17)) + (1 : Int32))) (r5.2 31 15)) ((4 : Int32) * (μ 31 17)) (1 : Int32) (9 : Int32) else X8_readsTask_b103 (mset r5.2 39 (Int32.toNatClampNeg (((4 : Int32) * (μ 31 17)) + (1 : Int32))) (r5.2 31 15)) ((4 : Int32) * (μ 31 17)) (1 : Int32) (((mset r5.2 39 (Int32.toNatClampNeg (((4 : Int32) * (μ 31 17)) + (1 : Int32))) (r5.2 31 15)) 39 (Int32.toNatClampNeg (((4 : Int32) * (μ 31 17)) + (1 : Int32)))) - ((mset r5.2 39 (Int32.toNatClampNeg (((4 : Int32) * (μ 31 17)) + (1 : Int32))) (r5.2 31 15)) 39 (Int32.toNatClampNeg ((4 : Int32) * (μ 31 17)))))))))))))
def X8_readsTask (μ : wd_Mem) : Option (Int32 × wd_Mem) := X8_readsTask_b0 μ
def X8_readsItem_b31 (μ : wd_Mem) : Option (Int32 × wd_Mem) :=
  (X8_fails μ).bind (fun r4 => wd_chk (wd_bit r4.1) (some (r4.1, r4.2)))
def X8_readsItem_b0 (μ : wd_Mem) (x1 : Int32) : Option (Int32 × wd_Mem) :=
  (X8_next μ).bind (fun r1 => (if (r1 31 14) = (116 : Int32) then (X8_readsTask r1).bind (fun r11 => wd_chk (wd_bit r11.1) (some (r11.1, r11.2))) else (if (r1 31 14) = (99 : Int32) then (if x1 = 0 then X8_readsItem_b31 r1 else (X8_number r1 (1 : Int32) (20 : Int32)).bind (fun r7 => (if r7.1 = 0 then some ((0 : Int32), r7.2) else (X8_ends (mset r7.2 31 18 (r7.2 31 15))).bind (fun r9 => wd_chk (wd_bit r9.1) (some (r9.1, r9.2)))))) else X8_readsItem_b31 r1)))
def X8_readsItem (μ : wd_Mem) (x1 : Int32) : Option (Int32 × wd_Mem) := X8_readsItem_b0 μ x1
def X8_desk_b42 (rec : Int32 → wd_Mem → Option (Int32 × wd_Mem)) (k : Int32 → wd_Mem → Option (Int32 × wd_Mem)) (μ : wd_Mem) (x1 s1 : Int32) : Option (Int32 × wd_Mem) :=
  (X8_readsItem μ s1).bind (fun r4 => (if r4.1 = 0 then some (((-10 : Int32) - (r4.2 31 16)), r4.2) else (X8_blanks r4.2).bind (fun r6 => rec (x1 + (1 : Int32)) r6)))
def X8_desk_c21 (rec : Int32 → wd_Mem → Option (Int32 × wd_Mem)) (k : Int32 → wd_Mem → Option (Int32 × wd_Mem)) (μ : wd_Mem) (x1 : Int32) : Option (Int32 × wd_Mem) :=
  (if (μ 31 10) ≤ (μ 31 12) then k x1 μ else (if x1 = 0 then X8_desk_b42 rec k μ x1 (1 : Int32) else X8_desk_b42 rec k μ x1 (0 : Int32)))
def X8_desk_l21 (k : Int32 → wd_Mem → Option (Int32 × wd_Mem)) : Nat → Int32 → wd_Mem → Option (Int32 × wd_Mem)
  | 0, _, _ => none
  | n + 1, x1, μ => X8_desk_c21 (X8_desk_l21 k n) k μ x1
def X8_desk_b207 (rec : Int32 → wd_Mem → Option (Int32 × wd_Mem)) (k : wd_Mem → Option (Int32 × wd_Mem)) (μ : wd_Mem) (x1 x2 s1 s2 : Int32) : Option (Int32 × wd_Mem) :=
  wd_chk (wd_in s1 5) (rec (x2 + (1 : Int32)) (mset μ 33 (Int32.toNatClampNeg s1) s2))
def X8_desk_b179 (rec : Int32 → wd_Mem → Option (Int32 × wd_Mem)) (k : wd_Mem → Option (Int32 × wd_Mem)) (μ : wd_Mem) (x1 x2 s1 s2 : Int32) : Option (Int32 × wd_Mem) :=
  wd_chk (wd_in s1 5) ((if (μ 31 0) ≤ x2 then X8_desk_b207 rec k (mset μ 32 (Int32.toNatClampNeg s1) s2) x1 x2 x2 (0 : Int32) else wd_chk (wd_in (((4 : Int32) * x2) + (3 : Int32)) 20) (X8_desk_b207 rec k (mset μ 32 (Int32.toNatClampNeg s1) s2) x1 x2 x2 (μ 39 (Int32.toNatClampNeg (((4 : Int32) * x2) + (3 : Int32)))))))
def X8_desk_b151 (rec : Int32 → wd_Mem → Option (Int32 × wd_Mem)) (k : wd_Mem → Option (Int32 × wd_Mem)) (μ : wd_Mem) (x1 x2 s1 s2 : Int32) : Option (Int32 × wd_Mem) :=
  wd_chk (wd_in s1 30) ((if (μ 31 0) ≤ x2 then X8_desk_b179 rec k (mset μ 34 (Int32.toNatClampNeg s1) s2) x1 x2 x2 (0 : Int32) else wd_chk (wd_in (((4 : Int32) * x2) + (2 : Int32)) 20) (X8_desk_b179 rec k (mset μ 34 (Int32.toNatClampNeg s1) s2) x1 x2 x2 (μ 39 (Int32.toNatClampNeg (((4 : Int32) * x2) + (2 : Int32)))))))
def X8_desk_b121 (rec : Int32 → wd_Mem → Option (Int32 × wd_Mem)) (k : wd_Mem → Option (Int32 × wd_Mem)) (μ : wd_Mem) (x1 x2 s1 s2 : Int32) : Option (Int32 × wd_Mem) :=
  wd_chk (wd_in s1 30) ((if (μ 31 0) ≤ x2 then X8_desk_b151 rec k (mset μ 34 (Int32.toNatClampNeg s1) s2) x1 x2 ((5 : Int32) + x2) (0 : Int32) else wd_chk (wd_in (((4 : Int32) * x2) + (1 : Int32)) 20) (X8_desk_b151 rec k (mset μ 34 (Int32.toNatClampNeg s1) s2) x1 x2 ((5 : Int32) + x2) (μ 39 (Int32.toNatClampNeg (((4 : Int32) * x2) + (1 : Int32)))))))
def X8_desk_c89 (rec : Int32 → wd_Mem → Option (Int32 × wd_Mem)) (k : wd_Mem → Option (Int32 × wd_Mem)) (μ : wd_Mem) (x1 x2 : Int32) : Option (Int32 × wd_Mem) :=
  (if (5 : Int32) ≤ x2 then k μ else (if (μ 31 0) ≤ x2 then X8_desk_b121 rec k μ x1 x2 ((0 : Int32) + x2) (0 : Int32) else wd_chk (wd_in ((4 : Int32) * x2) 20) (X8_desk_b121 rec k μ x1 x2 ((0 : Int32) + x2) (μ 39 (Int32.toNatClampNeg ((4 : Int32) * x2))))))
def X8_desk_l89 (k : wd_Mem → Option (Int32 × wd_Mem)) (x1 : Int32) : Nat → Int32 → wd_Mem → Option (Int32 × wd_Mem)
  | 0, _, _ => none
  | n + 1, x2, μ => X8_desk_c89 (X8_desk_l89 k x1 n) k μ x1 x2
def X8_desk_c217 (rec : Int32 → wd_Mem → Option (Int32 × wd_Mem)) (k : wd_Mem → Option (Int32 × wd_Mem)) (μ : wd_Mem) (x1 x2 : Int32) : Option (Int32 × wd_Mem) :=
  (if (20 : Int32) ≤ x2 then k μ else wd_chk (wd_in x2 30) (wd_chk (wd_in (x2 + (10 : Int32)) 30) (rec (x2 + (1 : Int32)) (mset (mset μ 34 (Int32.toNatClampNeg x2) (-9 : Int32)) 34 (Int32.toNatClampNeg (x2 + (10 : Int32))) (-9 : Int32)))))
def X8_desk_l217 (k : wd_Mem → Option (Int32 × wd_Mem)) (x1 : Int32) : Nat → Int32 → wd_Mem → Option (Int32 × wd_Mem)
  | 0, _, _ => none
  | n + 1, x2, μ => X8_desk_c217 (X8_desk_l217 k x1 n) k μ x1 x2
def X8_desk_b248 (μ : wd_Mem) (x1 : Int32) : Option (Int32 × wd_Mem) :=
  wd_chk (wd_in (0 : Int32) 2) (wd_chk (wd_in (1 : Int32) 2) (some (x1, (mset (mset (mset μ 31 5 (0 : Int32)) 36 (Int32.toNatClampNeg (0 : Int32)) (vp_nar .boolean (0 : Int32))) 36 (Int32.toNatClampNeg (1 : Int32)) (vp_nar .boolean (0 : Int32))))))
def X8_desk_b214 (μ : wd_Mem) (x1 : Int32) : Option (Int32 × wd_Mem) :=
  X8_desk_l217 (fun μ => X8_desk_b248 μ x1) x1 wd_big (10 : Int32) μ
def X8_desk_b66 (μ : wd_Mem) (x1 : Int32) : Option (Int32 × wd_Mem) :=
  X8_desk_l89 (fun μ => X8_desk_b214 μ x1) x1 wd_big (0 : Int32) (mset (mset (mset μ 31 10 (0 : Int32)) 31 0 (μ 31 17)) 31 1 (μ 31 18))
def X8_desk_b0 (μ : wd_Mem) : Option (Int32 × wd_Mem) :=
  (X8_blanks (mset (mset (mset μ 31 12 (0 : Int32)) 31 17 (0 : Int32)) 31 18 (3 : Int32))).bind (fun r1 => X8_desk_l21 (fun x1 μ => X8_desk_b66 μ x1) wd_big (0 : Int32) r1)
def X8_desk (μ : wd_Mem) : Option (Int32 × wd_Mem) := X8_desk_b0 μ
def X8_isBroken_b47 (rec : Int32 → Int32 → Option (Int32)) (k : Int32 → Option (Int32)) (μ : wd_Mem) (x2 s0 : Int32) : Option (Int32) :=
  rec s0 (x2 + (1 : Int32))
def X8_isBroken_b42 (rec : Int32 → Int32 → Option (Int32)) (k : Int32 → Option (Int32)) (μ : wd_Mem) (x2 : Int32) : Option (Int32) :=
  X8_isBroken_b47 rec k μ x2 (1 : Int32)
def X8_isBroken_c4 (rec : Int32 → Int32 → Option (Int32)) (k : Int32 → Option (Int32)) (μ : wd_Mem) (x1 x2 : Int32) : Option (Int32) :=
  (if (μ 31 0) ≤ x2 then k x1 else (if x1 = 0 then wd_chk (wd_in ((0 : Int32) + x2) 30) (wd_chk (wd_in x2 5) (wd_chk (wd_in ((5 : Int32) + x2) 30) ((if ((μ 34 (Int32.toNatClampNeg ((0 : Int32) + x2))) + (μ 32 (Int32.toNatClampNeg x2))) ≤ (μ 34 (Int32.toNatClampNeg ((5 : Int32) + x2))) then X8_isBroken_b47 rec k μ x2 (0 : Int32) else X8_isBroken_b42 rec k μ x2)))) else X8_isBroken_b42 rec k μ x2))
def X8_isBroken_l4 (k : Int32 → Option (Int32)) (μ : wd_Mem) : Nat → Int32 → Int32 → Option (Int32)
  | 0, _, _ => none
  | n + 1, x1, x2 => X8_isBroken_c4 (X8_isBroken_l4 k μ n) k μ x1 x2
def X8_isBroken_b54 (μ : wd_Mem) (x1 : Int32) : Option (Int32) :=
  wd_chk (wd_bit x1) (some x1)
def X8_isBroken_b0 (μ : wd_Mem) : Option (Int32) :=
  X8_isBroken_l4 (fun x1 => X8_isBroken_b54 μ x1) μ wd_big (0 : Int32) (0 : Int32)
def X8_isBroken (μ : wd_Mem) : Option (Int32) := X8_isBroken_b0 μ
def X8_remember_c2 (rec : Int32 → wd_Mem → Option (wd_Mem)) (k : wd_Mem → Option (wd_Mem)) (μ : wd_Mem) (x1 : Int32) : Option (wd_Mem) :=
  (if (30 : Int32) ≤ x1 then k μ else wd_chk (wd_in x1 30) (wd_chk (wd_in (((30 : Int32) * (μ 31 6)) + x1) 300) (rec (x1 + (1 : Int32)) (mset μ 35 (Int32.toNatClampNeg (((30 : Int32) * (μ 31 6)) + x1)) (μ 34 (Int32.toNatClampNeg x1))))))
def X8_remember_l2 (k : wd_Mem → Option (wd_Mem)) : Nat → Int32 → wd_Mem → Option (wd_Mem)
  | 0, _, _ => none
  | n + 1, x1, μ => X8_remember_c2 (X8_remember_l2 k n) k μ x1
def X8_remember_b66 (μ : wd_Mem) (s1 s2 : Int32) : Option (wd_Mem) :=
  some (mset μ 31 5 (s1 + s2))
def X8_remember_b34 (μ : wd_Mem) : Option (wd_Mem) :=
  wd_chk (wd_nz (10 : Int32)) ((if (10 : Int32) ≤ (μ 31 5) then X8_remember_b66 (mset μ 31 6 (((μ 31 6) + (1 : Int32)) - ((μ 31 6) + (1 : Int32)) / (10 : Int32) * (10 : Int32))) (μ 31 5) (0 : Int32) else X8_remember_b66 (mset μ 31 6 (((μ 31 6) + (1 : Int32)) - ((μ 31 6) + (1 : Int32)) / (10 : Int32) * (10 : Int32))) (μ 31 5) (1 : Int32)))
def X8_remember_b0 (μ : wd_Mem) : Option (wd_Mem) :=
  X8_remember_l2 (fun μ => X8_remember_b34 μ) wd_big (0 : Int32) μ
def X8_remember (μ : wd_Mem) : Option (wd_Mem) := X8_remember_b0 μ
def X8_start_b0 (μ : wd_Mem) (x1 : Int32) : Option (Int32) :=
  wd_chk (wd_in x1 5) (some ((μ 41 (Int32.toNatClampNeg x1)) - (μ 32 (Int32.toNatClampNeg x1))))
def X8_start (μ : wd_Mem) (x1 : Int32) : Option (Int32) := X8_start_b0 μ x1
def X8_done_b0 (μ : wd_Mem) (x1 : Int32) : Option (Int32) :=
  wd_chk (wd_in x1 5) (some ((μ 40 (Int32.toNatClampNeg x1)) + (μ 32 (Int32.toNatClampNeg x1))))
def X8_done (μ : wd_Mem) (x1 : Int32) : Option (Int32) := X8_done_b0 μ x1
def X8_isShut_b57 (rec : Int32 → Int32 → Option (Int32)) (k : Int32 → Option (Int32)) (μ : wd_Mem) (x1 x2 x4 s0 s1 : Int32) : Option (Int32) :=
  rec (s0 + s1) (x4 + (1 : Int32))
def X8_isShut_b56 (rec : Int32 → Int32 → Option (Int32)) (k : Int32 → Option (Int32)) (μ : wd_Mem) (x1 x2 x4 s0 : Int32) : Option (Int32) :=
  X8_isShut_b57 rec k μ x1 x2 x4 s0 (0 : Int32)
def X8_isShut_c10 (rec : Int32 → Int32 → Option (Int32)) (k : Int32 → Option (Int32)) (μ : wd_Mem) (x1 x2 x3 x4 : Int32) : Option (Int32) :=
  (if (μ 31 0) ≤ x4 then k x3 else (if x4 = x1 then X8_isShut_b56 rec k μ x1 x2 x4 x3 else (X8_start μ x4).bind (fun r4 => (if x2 < r4 then X8_isShut_b56 rec k μ x1 x2 x4 x3 else (X8_done μ x4).bind (fun r6 => (if r6 ≤ x2 then X8_isShut_b56 rec k μ x1 x2 x4 x3 else wd_chk (wd_in x4 5) (X8_isShut_b57 rec k μ x1 x2 x4 x3 (μ 33 (Int32.toNatClampNeg x4)))))))))
def X8_isShut_l10 (k : Int32 → Option (Int32)) (μ : wd_Mem) (x1 x2 : Int32) : Nat → Int32 → Int32 → Option (Int32)
  | 0, _, _ => none
  | n + 1, x3, x4 => X8_isShut_c10 (X8_isShut_l10 k μ x1 x2 n) k μ x1 x2 x3 x4
def X8_isShut_b65 (μ : wd_Mem) (x3 : Int32) : Option (Int32) :=
  (if x3 ≤ (μ 31 1) then some (0 : Int32) else some (1 : Int32))
def X8_isShut_b0 (μ : wd_Mem) (x1 x2 : Int32) : Option (Int32) :=
  wd_chk (wd_in x1 5) (X8_isShut_l10 (fun x3 => X8_isShut_b65 μ x3) μ x1 x2 wd_big (μ 33 (Int32.toNatClampNeg x1)) (0 : Int32))
def X8_isShut (μ : wd_Mem) (x1 x2 : Int32) : Option (Int32) := X8_isShut_b0 μ x1 x2
def X8_tells_b0 (μ : wd_Mem) (x1 x2 x3 : Int32) : Option (wd_Mem) :=
  wd_chk (wd_in x1 5) ((if x2 ≤ (μ 42 (Int32.toNatClampNeg x1)) then some μ else some (mset (mset μ 42 (Int32.toNatClampNeg x1) x2) 43 (Int32.toNatClampNeg x1) x3)))
def X8_tells (μ : wd_Mem) (x1 x2 x3 : Int32) : Option (wd_Mem) := X8_tells_b0 μ x1 x2 x3
def X8_musts_b61 (rec : Int32 → Int32 → Option (wd_Mem)) (k : Int32 → Option (wd_Mem)) (μ : wd_Mem) (x1 x2 x4 s0 : Int32) : Option (wd_Mem) :=
  rec s0 (x4 + (1 : Int32))
def X8_musts_b60 (rec : Int32 → Int32 → Option (wd_Mem)) (k : Int32 → Option (wd_Mem)) (μ : wd_Mem) (x1 x2 x4 : Int32) : Option (wd_Mem) :=
  X8_musts_b61 rec k μ x1 x2 x4 (0 : Int32)
def X8_musts_c29 (rec : Int32 → Int32 → Option (wd_Mem)) (k : Int32 → Option (wd_Mem)) (μ : wd_Mem) (x1 x2 x3 x4 : Int32) : Option (wd_Mem) :=
  wd_chk (wd_in x1 5) ((if (x2 + (μ 32 (Int32.toNatClampNeg x1))) ≤ x4 then k x3 else (if x3 = 0 then X8_musts_b60 rec k μ x1 x2 x4 else (X8_isShut μ x1 x4).bind (fun r7 => (if r7 = 0 then X8_musts_b61 rec k μ x1 x2 x4 (1 : Int32) else X8_musts_b60 rec k μ x1 x2 x4)))))
def X8_musts_l29 (k : Int32 → Option (wd_Mem)) (μ : wd_Mem) (x1 x2 : Int32) : Nat → Int32 → Int32 → Option (wd_Mem)
  | 0, _, _ => none
  | n + 1, x3, x4 => X8_musts_c29 (X8_musts_l29 k μ x1 x2 n) k μ x1 x2 x3 x4
def X8_musts_b68 (rec : Int32 → Option (wd_Mem)) (k : Option (wd_Mem)) (μ : wd_Mem) (x1 x2 x3 : Int32) : Option (wd_Mem) :=
  (if x3 = 0 then rec (x2 + (1 : Int32)) else (X8_tells μ x1 x2 (0 : Int32)).bind (fun r10 => some r10))
def X8_musts_c7 (rec : Int32 → Option (wd_Mem)) (k : Option (wd_Mem)) (μ : wd_Mem) (x1 x2 : Int32) : Option (wd_Mem) :=
  wd_chk (wd_in x1 5) ((if (μ 41 (Int32.toNatClampNeg x1)) < (x2 + (μ 32 (Int32.toNatClampNeg x1))) then k else X8_musts_l29 (fun x3 => X8_musts_b68 rec k μ x1 x2 x3) μ x1 x2 wd_big (1 : Int32) x2))
def X8_musts_l7 (k : Option (wd_Mem)) (μ : wd_Mem) (x1 : Int32) : Nat → Int32 → Option (wd_Mem)
  | 0, _ => none
  | n + 1, x2 => X8_musts_c7 (X8_musts_l7 k μ x1 n) k μ x1 x2
def X8_musts_b86 (μ : wd_Mem) (x1 : Int32) : Option (wd_Mem) :=
  (X8_tells μ x1 (99 : Int32) (0 : Int32)).bind (fun r11 => some r11)
def X8_musts_b0 (μ : wd_Mem) (x1 : Int32) : Option (wd_Mem) :=
  wd_chk (wd_in x1 5) (X8_musts_l7 (X8_musts_b86 μ x1) μ x1 wd_big (μ 40 (Int32.toNatClampNeg x1)))
def X8_musts (μ : wd_Mem) (x1 : Int32) : Option (wd_Mem) := X8_musts_b0 μ x1
def X8_all_b0 (μ : wd_Mem) : Int32 :=
  (((1 : Int32) <<< ((μ 31 0) &&& 31)) - (1 : Int32))
def X8_all (μ : wd_Mem) : Int32 := X8_all_b0 μ
def X8_has_b0 (μ : wd_Mem) (x0 x1 : Int32) : Int32 :=
  (if ((x0 >>> (x1 &&& 31)) &&& (1 : Int32)) = (1 : Int32) then (1 : Int32) else (0 : Int32))
def X8_has (μ : wd_Mem) (x0 x1 : Int32) : Int32 := X8_has_b0 μ x0 x1
def X8_setEarly_b41 (rec : Int32 → Int32 → Option (Int32)) (k : Int32 → Option (Int32)) (μ : wd_Mem) (x1 x3 s0 : Int32) : Option (Int32) :=
  rec s0 (x3 + (1 : Int32))
def X8_setEarly_b40 (rec : Int32 → Int32 → Option (Int32)) (k : Int32 → Option (Int32)) (μ : wd_Mem) (x1 x2 x3 : Int32) : Option (Int32) :=
  X8_setEarly_b41 rec k μ x1 x3 x2
def X8_setEarly_c5 (rec : Int32 → Int32 → Option (Int32)) (k : Int32 → Option (Int32)) (μ : wd_Mem) (x1 x2 x3 : Int32) : Option (Int32) :=
  (if (μ 31 0) ≤ x3 then k x2 else (if (X8_has μ x1 x3) = 0 then X8_setEarly_b40 rec k μ x1 x2 x3 else wd_chk (wd_in x3 5) ((if x2 ≤ (μ 40 (Int32.toNatClampNeg x3)) then X8_setEarly_b40 rec k μ x1 x2 x3 else X8_setEarly_b41 rec k μ x1 x3 (μ 40 (Int32.toNatClampNeg x3))))))
def X8_setEarly_l5 (k : Int32 → Option (Int32)) (μ : wd_Mem) (x1 : Int32) : Nat → Int32 → Int32 → Option (Int32)
  | 0, _, _ => none
  | n + 1, x2, x3 => X8_setEarly_c5 (X8_setEarly_l5 k μ x1 n) k μ x1 x2 x3
def X8_setEarly_b48 (μ : wd_Mem) (x2 : Int32) : Option (Int32) :=
  some x2
def X8_setEarly_b0 (μ : wd_Mem) (x1 : Int32) : Option (Int32) :=
  X8_setEarly_l5 (fun x2 => X8_setEarly_b48 μ x2) μ x1 wd_big (99 : Int32) (0 : Int32)
def X8_setEarly (μ : wd_Mem) (x1 : Int32) : Option (Int32) := X8_setEarly_b0 μ x1
def X8_energy_b38 (rec : Int32 → Int32 → Option (Int32)) (k : Int32 → Option (Int32)) (μ : wd_Mem) (x1 x3 s0 s1 : Int32) : Option (Int32) :=
  rec (s0 + s1) (x3 + (1 : Int32))
def X8_energy_c4 (rec : Int32 → Int32 → Option (Int32)) (k : Int32 → Option (Int32)) (μ : wd_Mem) (x1 x2 x3 : Int32) : Option (Int32) :=
  (if (μ 31 0) ≤ x3 then k x2 else (if (X8_has μ x1 x3) = 0 then X8_energy_b38 rec k μ x1 x3 x2 (0 : Int32) else wd_chk (wd_in x3 5) (X8_energy_b38 rec k μ x1 x3 x2 ((μ 32 (Int32.toNatClampNeg x3)) * (μ 33 (Int32.toNatClampNeg x3))))))
def X8_energy_l4 (k : Int32 → Option (Int32)) (μ : wd_Mem) (x1 : Int32) : Nat → Int32 → Int32 → Option (Int32)
  | 0, _, _ => none
  | n + 1, x2, x3 => X8_energy_c4 (X8_energy_l4 k μ x1 n) k μ x1 x2 x3
def X8_energy_b46 (μ : wd_Mem) (x2 : Int32) : Option (Int32) :=
  some x2
def X8_energy_b0 (μ : wd_Mem) (x1 : Int32) : Option (Int32) :=
  X8_energy_l4 (fun x2 => X8_energy_b46 μ x2) μ x1 wd_big (0 : Int32) (0 : Int32)
def X8_energy (μ : wd_Mem) (x1 : Int32) : Option (Int32) := X8_energy_b0 μ x1
def X8_setLate_b40 (rec : Int32 → Int32 → Option (Int32)) (k : Int32 → Option (Int32)) (μ : wd_Mem) (x1 x3 s0 : Int32) : Option (Int32) :=
  rec s0 (x3 + (1 : Int32))
def X8_setLate_b39 (rec : Int32 → Int32 → Option (Int32)) (k : Int32 → Option (Int32)) (μ : wd_Mem) (x1 x2 x3 : Int32) : Option (Int32) :=
  X8_setLate_b40 rec k μ x1 x3 x2
def X8_setLate_c4 (rec : Int32 → Int32 → Option (Int32)) (k : Int32 → Option (Int32)) (μ : wd_Mem) (x1 x2 x3 : Int32) : Option (Int32) :=
  (if (μ 31 0) ≤ x3 then k x2 else (if (X8_has μ x1 x3) = 0 then X8_setLate_b39 rec k μ x1 x2 x3 else wd_chk (wd_in x3 5) ((if (μ 41 (Int32.toNatClampNeg x3)) ≤ x2 then X8_setLate_b39 rec k μ x1 x2 x3 else X8_setLate_b40 rec k μ x1 x3 (μ 41 (Int32.toNatClampNeg x3))))))
def X8_setLate_l4 (k : Int32 → Option (Int32)) (μ : wd_Mem) (x1 : Int32) : Nat → Int32 → Int32 → Option (Int32)
  | 0, _, _ => none
  | n + 1, x2, x3 => X8_setLate_c4 (X8_setLate_l4 k μ x1 n) k μ x1 x2 x3
def X8_setLate_b47 (μ : wd_Mem) (x2 : Int32) : Option (Int32) :=
  some x2
def X8_setLate_b0 (μ : wd_Mem) (x1 : Int32) : Option (Int32) :=
  X8_setLate_l4 (fun x2 => X8_setLate_b47 μ x2) μ x1 wd_big (0 : Int32) (0 : Int32)
def X8_setLate (μ : wd_Mem) (x1 : Int32) : Option (Int32) := X8_setLate_b0 μ x1
def X8_edges_b143 (rec : Int32 → wd_Mem → Option (wd_Mem)) (k : wd_Mem → Option (wd_Mem)) (μ : wd_Mem) (x1 x2 x3 : Int32) : Option (wd_Mem) :=
  rec (x3 + (1 : Int32)) μ
def X8_edges_b132 (rec : Int32 → wd_Mem → Option (wd_Mem)) (k : wd_Mem → Option (wd_Mem)) (μ : wd_Mem) (x1 x2 x3 x5 : Int32) : Option (wd_Mem) :=
  rec ((x5 - (1 : Int32)) &&& x3) μ
def X8_edges_c57 (rec : Int32 → wd_Mem → Option (wd_Mem)) (k : wd_Mem → Option (wd_Mem)) (μ : wd_Mem) (x1 x2 x3 x5 : Int32) : Option (wd_Mem) :=
  (if x5 ≤ 0 then k μ else (X8_energy μ x5).bind (fun r8 => wd_chk (wd_in x1 5) ((X8_setLate μ x5).bind (fun r10 => (X8_setEarly μ x5).bind (fun r11 => (if (r8 - (((μ 31 1) - (μ 33 (Int32.toNatClampNeg x1))) * (r10 - r11))) ≤ 0 then X8_edges_b132 rec k μ x1 x2 x3 x5 else (X8_setEarly μ x5).bind (fun r13 => wd_chk (wd_nz (μ 33 (Int32.toNatClampNeg x1))) ((X8_tells μ x1 (r13 + ((((r8 - (((μ 31 1) - (μ 33 (Int32.toNatClampNeg x1))) * (r10 - r11))) + (μ 33 (Int32.toNatClampNeg x1))) - (1 : Int32)) / (μ 33 (Int32.toNatClampNeg x1)))) x3).bind (fun r15 => X8_edges_b132 rec k r15 x1 x2 x3 x5)))))))))
def X8_edges_l57 (k : wd_Mem → Option (wd_Mem)) (x1 x2 x3 : Int32) : Nat → Int32 → wd_Mem → Option (wd_Mem)
  | 0, _, _ => none
  | n + 1, x5, μ => X8_edges_c57 (X8_edges_l57 k x1 x2 x3 n) k μ x1 x2 x3 x5
def X8_edges_c6 (rec : Int32 → wd_Mem → Option (wd_Mem)) (k : wd_Mem → Option (wd_Mem)) (μ : wd_Mem) (x1 x2 x3 : Int32) : Option (wd_Mem) :=
  (if (X8_all μ) < x3 then k μ else (X8_setEarly μ (x3 ||| x2)).bind (fun r2 => (if (X8_has μ x3 x1) = 0 then (X8_energy μ (x3 ||| x2)).bind (fun r4 => (X8_setLate μ x3).bind (fun r5 => (if r4 ≤ ((μ 31 1) * (r5 - r2)) then X8_edges_b143 rec k μ x1 x2 x3 else X8_edges_l57 (fun μ => X8_edges_b143 rec k μ x1 x2 x3) x1 x2 x3 wd_big x3 μ))) else X8_edges_b143 rec k μ x1 x2 x3)))
def X8_edges_l6 (k : wd_Mem → Option (wd_Mem)) (x1 x2 : Int32) : Nat → Int32 → wd_Mem → Option (wd_Mem)
  | 0, _, _ => none
  | n + 1, x3, μ => X8_edges_c6 (X8_edges_l6 k x1 x2 n) k μ x1 x2 x3
def X8_edges_b149 (μ : wd_Mem) : Option (wd_Mem) :=
  some μ
def X8_edges_b0 (μ : wd_Mem) (x1 : Int32) : Option (wd_Mem) :=
  X8_edges_l6 (fun μ => X8_edges_b149 μ) x1 ((1 : Int32) <<< (x1 &&& 31)) wd_big (1 : Int32) μ
def X8_edges (μ : wd_Mem) (x1 : Int32) : Option (wd_Mem) := X8_edges_b0 μ x1
def X8_setDone_b39 (rec : Int32 → Int32 → Option (Int32)) (k : Int32 → Option (Int32)) (μ : wd_Mem) (x1 x3 s0 : Int32) : Option (Int32) :=
  rec s0 (x3 + (1 : Int32))
def X8_setDone_b38 (rec : Int32 → Int32 → Option (Int32)) (k : Int32 → Option (Int32)) (μ : wd_Mem) (x1 x2 x3 : Int32) : Option (Int32) :=
  X8_setDone_b39 rec k μ x1 x3 x2
def X8_setDone_c5 (rec : Int32 → Int32 → Option (Int32)) (k : Int32 → Option (Int32)) (μ : wd_Mem) (x1 x2 x3 : Int32) : Option (Int32) :=
  (if (μ 31 0) ≤ x3 then k x2 else (if (X8_has μ x1 x3) = 0 then X8_setDone_b38 rec k μ x1 x2 x3 else (X8_done μ x3).bind (fun r3 => (if x2 ≤ r3 then X8_setDone_b38 rec k μ x1 x2 x3 else (X8_done μ x3).bind (fun r5 => X8_setDone_b39 rec k μ x1 x3 r5)))))
def X8_setDone_l5 (k : Int32 → Option (Int32)) (μ : wd_Mem) (x1 : Int32) : Nat → Int32 → Int32 → Option (Int32)
  | 0, _, _ => none
  | n + 1, x2, x3 => X8_setDone_c5 (X8_setDone_l5 k μ x1 n) k μ x1 x2 x3
def X8_setDone_b46 (μ : wd_Mem) (x2 : Int32) : Option (Int32) :=
  some x2
def X8_setDone_b0 (μ : wd_Mem) (x1 : Int32) : Option (Int32) :=
  X8_setDone_l5 (fun x2 => X8_setDone_b46 μ x2) μ x1 wd_big (99 : Int32) (0 : Int32)
def X8_setDone (μ : wd_Mem) (x1 : Int32) : Option (Int32) := X8_setDone_b0 μ x1
def X8_firsts_b123 (rec : Int32 → wd_Mem → Option (wd_Mem)) (k : wd_Mem → Option (wd_Mem)) (μ : wd_Mem) (x1 x2 : Int32) : Option (wd_Mem) :=
  rec (x2 + (1 : Int32)) μ
def X8_firsts_b72 (rec : Int32 → wd_Mem → Option (wd_Mem)) (k : wd_Mem → Option (wd_Mem)) (μ : wd_Mem) (x1 x2 s0 : Int32) : Option (wd_Mem) :=
  (X8_energy μ x2).bind (fun r12 => wd_chk (wd_in x1 5) ((X8_setEarly μ x2).bind (fun r14 => (X8_setLate μ x2).bind (fun r15 => (X8_setEarly μ x2).bind (fun r16 => (if (r12 + ((μ 33 (Int32.toNatClampNeg x1)) * (s0 - r14))) ≤ ((μ 31 1) * (r15 - r16)) then X8_firsts_b123 rec k μ x1 x2 else (X8_setDone μ x2).bind (fun r18 => (X8_tells μ x1 r18 x2).bind (fun r19 => X8_firsts_b123 rec k r19 x1 x2))))))))
def X8_firsts_c2 (rec : Int32 → wd_Mem → Option (wd_Mem)) (k : wd_Mem → Option (wd_Mem)) (μ : wd_Mem) (x1 x2 : Int32) : Option (wd_Mem) :=
  (if (X8_all μ) < x2 then k μ else (if (X8_has μ x2 x1) = 0 then (X8_setEarly μ x2).bind (fun r3 => wd_chk (wd_in x1 5) ((if (μ 40 (Int32.toNatClampNeg x1)) < r3 then X8_firsts_b123 rec k μ x1 x2 else (X8_setDone μ x2).bind (fun r6 => (if r6 ≤ (μ 40 (Int32.toNatClampNeg x1)) then X8_firsts_b123 rec k μ x1 x2 else (X8_done μ x1).bind (fun r8 => (X8_setLate μ x2).bind (fun r9 => (if r9 ≤ r8 then (X8_setLate μ x2).bind (fun r11 => X8_firsts_b72 rec k μ x1 x2 r11) else (X8_done μ x1).bind (fun r20 => X8_firsts_b72 rec k μ x1 x2 r20))))))))) else X8_firsts_b123 rec k μ x1 x2))
def X8_firsts_l2 (k : wd_Mem → Option (wd_Mem)) (x1 : Int32) : Nat → Int32 → wd_Mem → Option (wd_Mem)
  | 0, _, _ => none
  | n + 1, x2, μ => X8_firsts_c2 (X8_firsts_l2 k x1 n) k μ x1 x2
def X8_firsts_b129 (μ : wd_Mem) : Option (wd_Mem) :=
  some μ
def X8_firsts_b0 (μ : wd_Mem) (x1 : Int32) : Option (wd_Mem) :=
  X8_firsts_l2 (fun μ => X8_firsts_b129 μ) x1 wd_big (1 : Int32) μ
def X8_firsts (μ : wd_Mem) (x1 : Int32) : Option (wd_Mem) := X8_firsts_b0 μ x1
def X8_lesser_b0 (μ : wd_Mem) (x0 x1 : Int32) : Int32 :=
  (if x1 ≤ x0 then x1 else x0)
def X8_lesser (μ : wd_Mem) (x0 x1 : Int32) : Int32 := X8_lesser_b0 μ x0 x1
def X8_leastOf_b0 (μ : wd_Mem) (x1 x2 x3 : Int32) : Option (Int32) :=
  wd_chk (wd_in x1 5) ((X8_done μ x1).bind (fun r2 => (X8_start μ x1).bind (fun r3 => (if 0 ≤ (X8_lesser μ (X8_lesser μ (μ 32 (Int32.toNatClampNeg x1)) (x3 - x2)) (X8_lesser μ (r2 - x2) (x3 - r3))) then some ((X8_lesser μ (X8_lesser μ (μ 32 (Int32.toNatClampNeg x1)) (x3 - x2)) (X8_lesser μ (r2 - x2) (x3 - r3))) * (μ 33 (Int32.toNatClampNeg x1))) else some (0 : Int32)))))
def X8_leastOf (μ : wd_Mem) (x1 x2 x3 : Int32) : Option (Int32) := X8_leastOf_b0 μ x1 x2 x3
def X8_spans_b60 (rec : Int32 → Int32 → Option (wd_Mem)) (k : Int32 → Option (wd_Mem)) (μ : wd_Mem) (x1 x2 x3 x5 s0 s1 : Int32) : Option (wd_Mem) :=
  rec (s0 - s1) (x5 + (1 : Int32))
def X8_spans_c31 (rec : Int32 → Int32 → Option (wd_Mem)) (k : Int32 → Option (wd_Mem)) (μ : wd_Mem) (x1 x2 x3 x4 x5 : Int32) : Option (wd_Mem) :=
  (if (μ 31 0) ≤ x5 then k x4 else (if x5 = x1 then X8_spans_b60 rec k μ x1 x2 x3 x5 x4 (0 : Int32) else (X8_leastOf μ x5 x2 x3).bind (fun r5 => X8_spans_b60 rec k μ x1 x2 x3 x5 x4 r5)))
def X8_spans_l31 (k : Int32 → Option (wd_Mem)) (μ : wd_Mem) (x1 x2 x3 : Int32) : Nat → Int32 → Int32 → Option (wd_Mem)
  | 0, _, _ => none
  | n + 1, x4, x5 => X8_spans_c31 (X8_spans_l31 k μ x1 x2 x3 n) k μ x1 x2 x3 x4 x5
def X8_spans_b147 (rec : Int32 → wd_Mem → Option (wd_Mem)) (k : wd_Mem → Option (wd_Mem)) (μ : wd_Mem) (x1 x2 x3 : Int32) : Option (wd_Mem) :=
  rec (x3 + (1 : Int32)) μ
def X8_spans_b111 (rec : Int32 → wd_Mem → Option (wd_Mem)) (k : wd_Mem → Option (wd_Mem)) (μ : wd_Mem) (x1 x2 x3 x4 s0 : Int32) : Option (wd_Mem) :=
  (if x4 < 0 then X8_spans_b147 rec k μ x1 x2 x3 else (if s0 ≤ x4 then X8_spans_b147 rec k μ x1 x2 x3 else wd_chk (wd_in x1 5) (wd_chk (wd_nz (μ 33 (Int32.toNatClampNeg x1))) ((X8_tells μ x1 (x3 - (x4 / (μ 33 (Int32.toNatClampNeg x1)))) (((100 : Int32) * x2) + x3)).bind (fun r12 => X8_spans_b147 rec k r12 x1 x2 x3)))))
def X8_spans_b69 (rec : Int32 → wd_Mem → Option (wd_Mem)) (k : wd_Mem → Option (wd_Mem)) (μ : wd_Mem) (x1 x2 x3 x4 : Int32) : Option (wd_Mem) :=
  (X8_done μ x1).bind (fun r6 => (if r6 ≤ x2 then X8_spans_b111 rec k μ x1 x2 x3 x4 (0 : Int32) else wd_chk (wd_in x1 5) ((X8_done μ x1).bind (fun r14 => X8_spans_b111 rec k μ x1 x2 x3 x4 ((μ 33 (Int32.toNatClampNeg x1)) * (X8_lesser μ (X8_lesser μ (μ 32 (Int32.toNatClampNeg x1)) (x3 - x2)) (r14 - x2)))))))
def X8_spans_c12 (rec : Int32 → wd_Mem → Option (wd_Mem)) (k : wd_Mem → Option (wd_Mem)) (μ : wd_Mem) (x1 x2 x3 : Int32) : Option (wd_Mem) :=
  (if (16 : Int32) < x3 then k μ else X8_spans_l31 (fun x4 => X8_spans_b69 rec k μ x1 x2 x3 x4) μ x1 x2 x3 wd_big ((μ 31 1) * (x3 - x2)) (0 : Int32))
def X8_spans_l12 (k : wd_Mem → Option (wd_Mem)) (x1 x2 : Int32) : Nat → Int32 → wd_Mem → Option (wd_Mem)
  | 0, _, _ => none
  | n + 1, x3, μ => X8_spans_c12 (X8_spans_l12 k x1 x2 n) k μ x1 x2 x3
def X8_spans_b153 (rec : Int32 → wd_Mem → Option (wd_Mem)) (k : wd_Mem → Option (wd_Mem)) (μ : wd_Mem) (x1 x2 : Int32) : Option (wd_Mem) :=
  rec (x2 + (1 : Int32)) μ
def X8_spans_c2 (rec : Int32 → wd_Mem → Option (wd_Mem)) (k : wd_Mem → Option (wd_Mem)) (μ : wd_Mem) (x1 x2 : Int32) : Option (wd_Mem) :=
  (if (16 : Int32) ≤ x2 then k μ else X8_spans_l12 (fun μ => X8_spans_b153 rec k μ x1 x2) x1 x2 wd_big (x2 + (1 : Int32)) μ)
def X8_spans_l2 (k : wd_Mem → Option (wd_Mem)) (x1 : Int32) : Nat → Int32 → wd_Mem → Option (wd_Mem)
  | 0, _, _ => none
  | n + 1, x2, μ => X8_spans_c2 (X8_spans_l2 k x1 n) k μ x1 x2
def X8_spans_b159 (μ : wd_Mem) : Option (wd_Mem) :=
  some μ
def X8_spans_b0 (μ : wd_Mem) (x1 : Int32) : Option (wd_Mem) :=
  X8_spans_l2 (fun μ => X8_spans_b159 μ) x1 wd_big (0 : Int32) μ
def X8_spans (μ : wd_Mem) (x1 : Int32) : Option (wd_Mem) := X8_spans_b0 μ x1
def X8_passes_b73 (rec : Int32 → wd_Mem → Option (wd_Mem)) (k : wd_Mem → Option (wd_Mem)) (μ : wd_Mem) (x1 x2 x3 s1 s2 : Int32) : Option (wd_Mem) :=
  wd_chk (wd_in s1 5) (rec (x3 + (1 : Int32)) (mset μ 41 (Int32.toNatClampNeg s1) s2))
def X8_passes_b41 (rec : Int32 → wd_Mem → Option (wd_Mem)) (k : wd_Mem → Option (wd_Mem)) (μ : wd_Mem) (x1 x2 x3 s1 s2 : Int32) : Option (wd_Mem) :=
  wd_chk (wd_in s1 5) ((if x2 = 0 then wd_chk (wd_in ((5 : Int32) + x3) 30) (X8_passes_b73 rec k (mset μ 40 (Int32.toNatClampNeg s1) s2) x1 x2 x3 x3 (μ 34 (Int32.toNatClampNeg ((5 : Int32) + x3)))) else wd_chk (wd_in ((0 : Int32) + x3) 30) (X8_passes_b73 rec k (mset μ 40 (Int32.toNatClampNeg s1) s2) x1 x2 x3 x3 ((16 : Int32) - (μ 34 (Int32.toNatClampNeg ((0 : Int32) + x3)))))))
def X8_passes_c2 (rec : Int32 → wd_Mem → Option (wd_Mem)) (k : wd_Mem → Option (wd_Mem)) (μ : wd_Mem) (x1 x2 x3 : Int32) : Option (wd_Mem) :=
  (if (μ 31 0) ≤ x3 then k μ else (if x2 = 0 then wd_chk (wd_in ((0 : Int32) + x3) 30) (X8_passes_b41 rec k μ x1 x2 x3 x3 (μ 34 (Int32.toNatClampNeg ((0 : Int32) + x3)))) else wd_chk (wd_in ((5 : Int32) + x3) 30) (X8_passes_b41 rec k μ x1 x2 x3 x3 ((16 : Int32) - (μ 34 (Int32.toNatClampNeg ((5 : Int32) + x3)))))))
def X8_passes_l2 (k : wd_Mem → Option (wd_Mem)) (x1 x2 : Int32) : Nat → Int32 → wd_Mem → Option (wd_Mem)
  | 0, _, _ => none
  | n + 1, x3, μ => X8_passes_c2 (X8_passes_l2 k x1 x2 n) k μ x1 x2 x3
def X8_passes_b157 (rec : Int32 → wd_Mem → Option (wd_Mem)) (k : wd_Mem → Option (wd_Mem)) (μ : wd_Mem) (x1 x2 x3 : Int32) : Option (wd_Mem) :=
  rec (x3 + (1 : Int32)) μ
def X8_passes_c82 (rec : Int32 → wd_Mem → Option (wd_Mem)) (k : wd_Mem → Option (wd_Mem)) (μ : wd_Mem) (x1 x2 x3 : Int32) : Option (wd_Mem) :=
  (if (μ 31 0) ≤ x3 then k μ else wd_chk (wd_in x3 5) ((if x1 = nI 0 then (X8_musts (mset μ 42 (Int32.toNatClampNeg x3) (μ 40 (Int32.toNatClampNeg x3))) x3).bind (fun r12 => X8_passes_b157 rec k r12 x1 x2 x3) else (if x1 = nI 1 then (X8_edges (mset μ 42 (Int32.toNatClampNeg x3) (μ 40 (Int32.toNatClampNeg x3))) x3).bind (fun r13 => X8_passes_b157 rec k r13 x1 x2 x3) else (if x1 = nI 2 then (X8_firsts (mset μ 42 (Int32.toNatClampNeg x3) (μ 40 (Int32.toNatClampNeg x3))) x3).bind (fun r14 => X8_passes_b157 rec k r14 x1 x2 x3) else (X8_spans (mset μ 42 (Int32.toNatClampNeg x3) (μ 40 (Int32.toNatClampNeg x3))) x3).bind (fun r15 => X8_passes_b157 rec k r15 x1 x2 x3))))))
def X8_passes_l82 (k : wd_Mem → Option (wd_Mem)) (x1 x2 : Int32) : Nat → Int32 → wd_Mem → Option (wd_Mem)
  | 0, _, _ => none
  | n + 1, x3, μ => X8_passes_c82 (X8_passes_l82 k x1 x2 n) k μ x1 x2 x3
def X8_passes_b285 (rec : Int32 → wd_Mem → Option (wd_Mem)) (k : wd_Mem → Option (wd_Mem)) (μ : wd_Mem) (x1 x2 x3 : Int32) : Option (wd_Mem) :=
  rec (x3 + (1 : Int32)) μ
def X8_passes_b251 (rec : Int32 → wd_Mem → Option (wd_Mem)) (k : wd_Mem → Option (wd_Mem)) (μ : wd_Mem) (x1 x2 x3 s1 s2 : Int32) : Option (wd_Mem) :=
  wd_chk (wd_in s1 30) (wd_chk (wd_in (((10 : Int32) + ((5 : Int32) * x2)) + x3) 30) (wd_chk (wd_in x3 5) (wd_chk (wd_in (((20 : Int32) + ((5 : Int32) * x2)) + x3) 30) (X8_passes_b285 rec k (mset (mset (mset μ 34 (Int32.toNatClampNeg s1) s2) 34 (Int32.toNatClampNeg (((10 : Int32) + ((5 : Int32) * x2)) + x3)) x1) 34 (Int32.toNatClampNeg (((20 : Int32) + ((5 : Int32) * x2)) + x3)) (μ 43 (Int32.toNatClampNeg x3))) x1 x2 x3))))
def X8_passes_b237 (rec : Int32 → wd_Mem → Option (wd_Mem)) (k : wd_Mem → Option (wd_Mem)) (μ : wd_Mem) (x1 x2 x3 x4 s1 : Int32) : Option (wd_Mem) :=
  (if x2 = 0 then X8_passes_b251 rec k μ x1 x2 x3 s1 x4 else X8_passes_b251 rec k μ x1 x2 x3 s1 ((16 : Int32) - x4))
def X8_passes_b218 (rec : Int32 → wd_Mem → Option (wd_Mem)) (k : wd_Mem → Option (wd_Mem)) (μ : wd_Mem) (x1 x2 x3 s0 : Int32) : Option (wd_Mem) :=
  (if x2 = 0 then X8_passes_b237 rec k μ x1 x2 x3 s0 ((0 : Int32) + x3) else X8_passes_b237 rec k μ x1 x2 x3 s0 ((5 : Int32) + x3))
def X8_passes_c165 (rec : Int32 → wd_Mem → Option (wd_Mem)) (k : wd_Mem → Option (wd_Mem)) (μ : wd_Mem) (x1 x2 x3 : Int32) : Option (wd_Mem) :=
  (if (μ 31 0) ≤ x3 then k μ else wd_chk (wd_in x3 5) ((if (μ 42 (Int32.toNatClampNeg x3)) ≤ (μ 40 (Int32.toNatClampNeg x3)) then X8_passes_b285 rec k μ x1 x2 x3 else (X8_start μ x3).bind (fun r19 => (if (μ 42 (Int32.toNatClampNeg x3)) ≤ r19 then X8_passes_b218 rec k μ x1 x2 x3 (μ 42 (Int32.toNatClampNeg x3)) else (X8_start μ x3).bind (fun r27 => X8_passes_b218 rec k μ x1 x2 x3 (r27 + (1 : Int32))))))))
def X8_passes_l165 (k : wd_Mem → Option (wd_Mem)) (x1 x2 : Int32) : Nat → Int32 → wd_Mem → Option (wd_Mem)
  | 0, _, _ => none
  | n + 1, x3, μ => X8_passes_c165 (X8_passes_l165 k x1 x2 n) k μ x1 x2 x3
def X8_passes_b291 (μ : wd_Mem) : Option (wd_Mem) :=
  some μ
def X8_passes_b163 (μ : wd_Mem) (x1 x2 : Int32) : Option (wd_Mem) :=
  X8_passes_l165 (fun μ => X8_passes_b291 μ) x1 x2 wd_big (0 : Int32) μ
def X8_passes_b80 (μ : wd_Mem) (x1 x2 : Int32) : Option (wd_Mem) :=
  X8_passes_l82 (fun μ => X8_passes_b163 μ x1 x2) x1 x2 wd_big (0 : Int32) μ
def X8_passes_b0 (μ : wd_Mem) (x1 x2 : Int32) : Option (wd_Mem) :=
  X8_passes_l2 (fun μ => X8_passes_b80 μ x1 x2) x1 x2 wd_big (0 : Int32) μ
def X8_passes (μ : wd_Mem) (x1 x2 : Int32) : Option (wd_Mem) := X8_passes_b0 μ x1 x2
def X8_rules_b0 (μ : wd_Mem) (x1 : Int32) : Option (wd_Mem) :=
  (X8_passes μ x1 (0 : Int32)).bind (fun r1 => (X8_isBroken r1).bind (fun r2 => (if r2 = 0 then (X8_passes r1 x1 (1 : Int32)).bind (fun r4 => some r4) else some r1)))
def X8_rules (μ : wd_Mem) (x1 : Int32) : Option (wd_Mem) := X8_rules_b0 μ x1
def X8_unlike_b31 (rec : Int32 → Int32 → Option (Int32)) (k : Int32 → Option (Int32)) (μ : wd_Mem) (x2 s0 s1 : Int32) : Option (Int32) :=
  rec (s0 + s1) (x2 + (1 : Int32))
def X8_unlike_c4 (rec : Int32 → Int32 → Option (Int32)) (k : Int32 → Option (Int32)) (μ : wd_Mem) (x1 x2 : Int32) : Option (Int32) :=
  (if (10 : Int32) ≤ x2 then k x1 else wd_chk (wd_in x2 30) ((if (μ 34 (Int32.toNatClampNeg x2)) = (μ 44 (Int32.toNatClampNeg x2)) then X8_unlike_b31 rec k μ x2 x1 (0 : Int32) else X8_unlike_b31 rec k μ x2 x1 (1 : Int32))))
def X8_unlike_l4 (k : Int32 → Option (Int32)) (μ : wd_Mem) : Nat → Int32 → Int32 → Option (Int32)
  | 0, _, _ => none
  | n + 1, x1, x2 => X8_unlike_c4 (X8_unlike_l4 k μ n) k μ x1 x2
def X8_unlike_b39 (μ : wd_Mem) (x1 : Int32) : Option (Int32) :=
  some x1
def X8_unlike_b0 (μ : wd_Mem) : Option (Int32) :=
  X8_unlike_l4 (fun x1 => X8_unlike_b39 μ x1) μ wd_big (0 : Int32) (0 : Int32)
def X8_unlike (μ : wd_Mem) : Option (Int32) := X8_unlike_b0 μ
def X8_windows_c4 (rec : Int32 → Int32 → Option (Int32)) (k : Int32 → Option (Int32)) (μ : wd_Mem) (x1 x2 : Int32) : Option (Int32) :=
  (if (μ 31 0) ≤ x2 then k x1 else wd_chk (wd_in ((5 : Int32) + x2) 30) (wd_chk (wd_in ((0 : Int32) + x2) 30) (rec (x1 + ((μ 34 (Int32.toNatClampNeg ((5 : Int32) + x2))) - (μ 34 (Int32.toNatClampNeg ((0 : Int32) + x2))))) (x2 + (1 : Int32)))))
def X8_windows_l4 (k : Int32 → Option (Int32)) (μ : wd_Mem) : Nat → Int32 → Int32 → Option (Int32)
  | 0, _, _ => none
  | n + 1, x1, x2 => X8_windows_c4 (X8_windows_l4 k μ n) k μ x1 x2
def X8_windows_b38 (μ : wd_Mem) (x1 : Int32) : Option (Int32) :=
  some x1
def X8_windows_b0 (μ : wd_Mem) : Option (Int32) :=
  X8_windows_l4 (fun x1 => X8_windows_b38 μ x1) μ wd_big (0 : Int32) (0 : Int32)
def X8_windows (μ : wd_Mem) : Option (Int32) := X8_windows_b0 μ
def X8_tightens_c27 (rec : Int32 → wd_Mem → Option (Int32 × wd_Mem)) (k : wd_Mem → Option (Int32 × wd_Mem)) (μ : wd_Mem) (x1 x2 : Int32) : Option (Int32 × wd_Mem) :=
  (if (30 : Int32) ≤ x2 then k μ else wd_chk (wd_in x2 30) (rec (x2 + (1 : Int32)) (mset μ 44 (Int32.toNatClampNeg x2) (μ 34 (Int32.toNatClampNeg x2)))))
def X8_tightens_l27 (k : wd_Mem → Option (Int32 × wd_Mem)) (x1 : Int32) : Nat → Int32 → wd_Mem → Option (Int32 × wd_Mem)
  | 0, _, _ => none
  | n + 1, x2, μ => X8_tightens_c27 (X8_tightens_l27 k x1 n) k μ x1 x2
def X8_tightens_c91 (rec : Int32 → wd_Mem → Option (Int32 × wd_Mem)) (k : wd_Mem → Option (Int32 × wd_Mem)) (μ : wd_Mem) (x2 x3 : Int32) : Option (Int32 × wd_Mem) :=
  (if (4 : Int32) ≤ x3 then k μ else (X8_isBroken μ).bind (fun r14 => (if r14 = 0 then (X8_rules μ x3).bind (fun r16 => rec (x3 + (1 : Int32)) r16) else k μ)))
def X8_tightens_l91 (k : wd_Mem → Option (Int32 × wd_Mem)) (x2 : Int32) : Nat → Int32 → wd_Mem → Option (Int32 × wd_Mem)
  | 0, _, _ => none
  | n + 1, x3, μ => X8_tightens_c91 (X8_tightens_l91 k x2 n) k μ x2 x3
def X8_tightens_b114 (rec : Int32 → wd_Mem → Option (Int32 × wd_Mem)) (k : wd_Mem → Option (Int32 × wd_Mem)) (μ : wd_Mem) (x2 : Int32) : Option (Int32 × wd_Mem) :=
  rec x2 μ
def X8_tightens_c69 (rec : Int32 → wd_Mem → Option (Int32 × wd_Mem)) (k : wd_Mem → Option (Int32 × wd_Mem)) (μ : wd_Mem) (x2 : Int32) : Option (Int32 × wd_Mem) :=
  (X8_windows μ).bind (fun r8 => (if r8 = x2 then k μ else (X8_isBroken μ).bind (fun r10 => (if r10 = 0 then (X8_windows μ).bind (fun r12 => X8_tightens_l91 (fun μ => X8_tightens_b114 rec k μ r12) r12 wd_big (0 : Int32) μ) else k μ))))
def X8_tightens_l69 (k : wd_Mem → Option (Int32 × wd_Mem)) : Nat → Int32 → wd_Mem → Option (Int32 × wd_Mem)
  | 0, _, _ => none
  | n + 1, x2, μ => X8_tightens_c69 (X8_tightens_l69 k n) k μ x2
def X8_tightens_b117 (μ : wd_Mem) : Option (Int32 × wd_Mem) :=
  (X8_unlike μ).bind (fun r17 => some (r17, μ))
def X8_tightens_b51 (μ : wd_Mem) (x1 : Int32) : Option (Int32 × wd_Mem) :=
  (if (4 : Int32) ≤ x1 then X8_tightens_l69 (fun μ => X8_tightens_b117 μ) wd_big (-99 : Int32) μ else (X8_rules μ x1).bind (fun r18 => (X8_unlike r18).bind (fun r19 => some (r19, r18))))
def X8_tightens_b0 (μ : wd_Mem) (x1 : Int32) : Option (Int32 × wd_Mem) :=
  (if (X8_in μ x1 (0 : Int32) (4 : Int32)) = 0 then some ((-1 : Int32), μ) else (X8_isBroken μ).bind (fun r2 => (if r2 = 0 then (X8_remember μ).bind (fun r4 => X8_tightens_l27 (fun μ => X8_tightens_b51 μ x1) x1 wd_big (0 : Int32) r4) else some ((-2 : Int32), μ))))
def X8_tightens (μ : wd_Mem) (x1 : Int32) : Option (Int32 × wd_Mem) := X8_tightens_b0 μ x1
def X8_isTask_b0 (μ : wd_Mem) (x1 : Int32) : Option (Int32) :=
  wd_chk (wd_bit (X8_in μ x1 (0 : Int32) ((μ 31 0) - (1 : Int32)))) (some (X8_in μ x1 (0 : Int32) ((μ 31 0) - (1 : Int32))))
def X8_isTask (μ : wd_Mem) (x1 : Int32) : Option (Int32) := X8_isTask_b0 μ x1
def X8_puts_b27 (μ : wd_Mem) : Option (Int32 × wd_Mem) :=
  some ((-1 : Int32), μ)
def X8_puts_b134 (μ : wd_Mem) : Option (Int32 × wd_Mem) :=
  some ((-2 : Int32), μ)
def X8_puts_b120 (μ : wd_Mem) (x1 x2 x3 x4 x5 s0 : Int32) : Option (Int32 × wd_Mem) :=
  (X8_isBroken μ).bind (fun r9 => (if r9 = 0 then (if s0 = 0 then X8_puts_b134 μ else (X8_remember μ).bind (fun r12 => wd_chk (wd_in x4 30) (wd_chk (wd_in (((10 : Int32) + ((5 : Int32) * x2)) + x1) 30) (wd_chk (wd_in (((20 : Int32) + ((5 : Int32) * x2)) + x1) 30) (some (x5, (mset (mset (mset r12 34 (Int32.toNatClampNeg x4) x3) 34 (Int32.toNatClampNeg (((10 : Int32) + ((5 : Int32) * x2)) + x1)) (-9 : Int32)) 34 (Int32.toNatClampNeg (((20 : Int32) + ((5 : Int32) * x2)) + x1)) (-9 : Int32)))))))) else X8_puts_b134 μ))
def X8_puts_b119 (μ : wd_Mem) (x1 x2 x3 x4 x5 : Int32) : Option (Int32 × wd_Mem) :=
  X8_puts_b120 μ x1 x2 x3 x4 x5 (0 : Int32)
def X8_puts_b86 (μ : wd_Mem) (x1 x2 x3 x4 x5 : Int32) : Option (Int32 × wd_Mem) :=
  X8_puts_b120 μ x1 x2 x3 x4 x5 (0 : Int32)
def X8_puts_b42 (μ : wd_Mem) (x1 x2 x3 s0 : Int32) : Option (Int32 × wd_Mem) :=
  wd_chk (wd_in s0 30) ((if x2 = 0 then (if x3 ≤ (μ 34 (Int32.toNatClampNeg s0)) then X8_puts_b86 μ x1 x2 x3 s0 (μ 34 (Int32.toNatClampNeg s0)) else wd_chk (wd_in x1 5) (wd_chk (wd_in ((5 : Int32) + x1) 30) ((if (μ 34 (Int32.toNatClampNeg ((5 : Int32) + x1))) < (x3 + (μ 32 (Int32.toNatClampNeg x1))) then X8_puts_b86 μ x1 x2 x3 s0 (μ 34 (Int32.toNatClampNeg s0)) else X8_puts_b120 μ x1 x2 x3 s0 (μ 34 (Int32.toNatClampNeg s0)) (1 : Int32))))) else (if (μ 34 (Int32.toNatClampNeg s0)) ≤ x3 then X8_puts_b119 μ x1 x2 x3 s0 (μ 34 (Int32.toNatClampNeg s0)) else wd_chk (wd_in ((0 : Int32) + x1) 30) (wd_chk (wd_in x1 5) ((if x3 < ((μ 34 (Int32.toNatClampNeg ((0 : Int32) + x1))) + (μ 32 (Int32.toNatClampNeg x1))) then X8_puts_b119 μ x1 x2 x3 s0 (μ 34 (Int32.toNatClampNeg s0)) else X8_puts_b120 μ x1 x2 x3 s0 (μ 34 (Int32.toNatClampNeg s0)) (1 : Int32)))))))
def X8_puts_b0 (μ : wd_Mem) (x1 x2 x3 : Int32) : Option (Int32 × wd_Mem) :=
  (X8_isTask μ x1).bind (fun r1 => (if r1 = 0 then X8_puts_b27 μ else (if (X8_in μ x2 (0 : Int32) (1 : Int32)) = 0 then X8_puts_b27 μ else (if (X8_in μ x3 (0 : Int32) (16 : Int32)) = 0 then X8_puts_b27 μ else (if x2 = 0 then X8_puts_b42 μ x1 x2 x3 ((0 : Int32) + x1) else X8_puts_b42 μ x1 x2 x3 ((5 : Int32) + x1))))))
def X8_puts (μ : wd_Mem) (x1 x2 x3 : Int32) : Option (Int32 × wd_Mem) := X8_puts_b0 μ x1 x2 x3
def X8_undo_c38 (rec : Int32 → wd_Mem → Option (Int32 × wd_Mem)) (k : wd_Mem → Option (Int32 × wd_Mem)) (μ : wd_Mem) (x1 : Int32) : Option (Int32 × wd_Mem) :=
  (if (30 : Int32) ≤ x1 then k μ else wd_chk (wd_in (((30 : Int32) * (μ 31 6)) + x1) 300) (wd_chk (wd_in x1 30) (rec (x1 + (1 : Int32)) (mset μ 34 (Int32.toNatClampNeg x1) (μ 35 (Int32.toNatClampNeg (((30 : Int32) * (μ 31 6)) + x1)))))))
def X8_undo_l38 (k : wd_Mem → Option (Int32 × wd_Mem)) : Nat → Int32 → wd_Mem → Option (Int32 × wd_Mem)
  | 0, _, _ => none
  | n + 1, x1, μ => X8_undo_c38 (X8_undo_l38 k n) k μ x1
def X8_undo_b70 (μ : wd_Mem) : Option (Int32 × wd_Mem) :=
  some ((μ 31 5), μ)
def X8_undo_b0 (μ : wd_Mem) : Option (Int32 × wd_Mem) :=
  (if (μ 31 5) = 0 then some ((-2 : Int32), μ) else wd_chk (wd_nz (10 : Int32)) (X8_undo_l38 (fun μ => X8_undo_b70 μ) wd_big (0 : Int32) (mset (mset μ 31 6 ((((μ 31 6) + (10 : Int32)) - (1 : Int32)) - (((μ 31 6) + (10 : Int32)) - (1 : Int32)) / (10 : Int32) * (10 : Int32))) 31 5 ((μ 31 5) - (1 : Int32)))))
def X8_undo (μ : wd_Mem) : Option (Int32 × wd_Mem) := X8_undo_b0 μ
def X8_plain_c2 (rec : Int32 → wd_Mem → Option (wd_Mem)) (k : wd_Mem → Option (wd_Mem)) (μ : wd_Mem) (x1 : Int32) : Option (wd_Mem) :=
  (if (μ 31 0) ≤ x1 then k μ else wd_chk (wd_in x1 5) (rec (x1 + (1 : Int32)) (mset μ 47 (Int32.toNatClampNeg x1) (μ 33 (Int32.toNatClampNeg x1)))))
def X8_plain_l2 (k : wd_Mem → Option (wd_Mem)) : Nat → Int32 → wd_Mem → Option (wd_Mem)
  | 0, _, _ => none
  | n + 1, x1, μ => X8_plain_c2 (X8_plain_l2 k n) k μ x1
def X8_plain_b28 (μ : wd_Mem) : Option (wd_Mem) :=
  some μ
def X8_plain_b0 (μ : wd_Mem) : Option (wd_Mem) :=
  X8_plain_l2 (fun μ => X8_plain_b28 μ) wd_big (0 : Int32) μ
def X8_plain (μ : wd_Mem) : Option (wd_Mem) := X8_plain_b0 μ
def X8_runs_c7 (rec : Int32 → wd_Mem → Option (wd_Mem)) (k : wd_Mem → Option (wd_Mem)) (μ : wd_Mem) (x1 x2 x3 : Int32) : Option (wd_Mem) :=
  wd_chk (wd_in x1 5) ((if ((μ 45 (Int32.toNatClampNeg x1)) + (μ 32 (Int32.toNatClampNeg x1))) ≤ x3 then k μ else wd_chk (wd_in x3 16) (rec (x3 + (1 : Int32)) (mset μ 46 (Int32.toNatClampNeg x3) ((μ 46 (Int32.toNatClampNeg x3)) + (x2 * (μ 47 (Int32.toNatClampNeg x1))))))))
def X8_runs_l7 (k : wd_Mem → Option (wd_Mem)) (x1 x2 : Int32) : Nat → Int32 → wd_Mem → Option (wd_Mem)
  | 0, _, _ => none
  | n + 1, x3, μ => X8_runs_c7 (X8_runs_l7 k x1 x2 n) k μ x1 x2 x3
def X8_runs_b47 (μ : wd_Mem) : Option (wd_Mem) :=
  some μ
def X8_runs_b0 (μ : wd_Mem) (x1 x2 : Int32) : Option (wd_Mem) :=
  wd_chk (wd_in x1 5) (X8_runs_l7 (fun μ => X8_runs_b47 μ) x1 x2 wd_big (μ 45 (Int32.toNatClampNeg x1)) μ)
def X8_runs (μ : wd_Mem) (x1 x2 : Int32) : Option (wd_Mem) := X8_runs_b0 μ x1 x2
def X8_isRoom_b55 (rec : Int32 → Int32 → Option (Int32)) (k : Int32 → Option (Int32)) (μ : wd_Mem) (x1 x3 s0 : Int32) : Option (Int32) :=
  rec s0 (x3 + (1 : Int32))
def X8_isRoom_b54 (rec : Int32 → Int32 → Option (Int32)) (k : Int32 → Option (Int32)) (μ : wd_Mem) (x1 x3 : Int32) : Option (Int32) :=
  X8_isRoom_b55 rec k μ x1 x3 (0 : Int32)
def X8_isRoom_c9 (rec : Int32 → Int32 → Option (Int32)) (k : Int32 → Option (Int32)) (μ : wd_Mem) (x1 x2 x3 : Int32) : Option (Int32) :=
  wd_chk (wd_in x1 5) ((if ((μ 45 (Int32.toNatClampNeg x1)) + (μ 32 (Int32.toNatClampNeg x1))) ≤ x3 then k x2 else (if x2 = 0 then X8_isRoom_b54 rec k μ x1 x3 else wd_chk (wd_in x3 16) ((if (μ 31 1) < ((μ 46 (Int32.toNatClampNeg x3)) + (μ 47 (Int32.toNatClampNeg x1))) then X8_isRoom_b54 rec k μ x1 x3 else X8_isRoom_b55 rec k μ x1 x3 (1 : Int32))))))
def X8_isRoom_l9 (k : Int32 → Option (Int32)) (μ : wd_Mem) (x1 : Int32) : Nat → Int32 → Int32 → Option (Int32)
  | 0, _, _ => none
  | n + 1, x2, x3 => X8_isRoom_c9 (X8_isRoom_l9 k μ x1 n) k μ x1 x2 x3
def X8_isRoom_b62 (μ : wd_Mem) (x2 : Int32) : Option (Int32) :=
  wd_chk (wd_bit x2) (some x2)
def X8_isRoom_b0 (μ : wd_Mem) (x1 : Int32) : Option (Int32) :=
  wd_chk (wd_in x1 5) (X8_isRoom_l9 (fun x2 => X8_isRoom_b62 μ x2) μ x1 wd_big (1 : Int32) (μ 45 (Int32.toNatClampNeg x1)))
def X8_isRoom (μ : wd_Mem) (x1 : Int32) : Option (Int32) := X8_isRoom_b0 μ x1
def X8_schedules_c3 (rec : Int32 → wd_Mem → Option (Int32 × wd_Mem)) (k : wd_Mem → Option (Int32 × wd_Mem)) (μ : wd_Mem) (x1 x2 x3 x4 x5 : Int32) : Option (Int32 × wd_Mem) :=
  (if (16 : Int32) ≤ x5 then k μ else wd_chk (wd_in x5 16) (rec (x5 + (1 : Int32)) (mset μ 46 (Int32.toNatClampNeg x5) (0 : Int32))))
def X8_schedules_l3 (k : wd_Mem → Option (Int32 × wd_Mem)) (x1 x2 x3 x4 : Int32) : Nat → Int32 → wd_Mem → Option (Int32 × wd_Mem)
  | 0, _, _ => none
  | n + 1, x5, μ => X8_schedules_c3 (X8_schedules_l3 k x1 x2 x3 x4 n) k μ x1 x2 x3 x4 x5
def X8_schedules_b213 (rec : Int32 → Int32 → wd_Mem → Option (Int32 × wd_Mem)) (k : Int32 → wd_Mem → Option (Int32 × wd_Mem)) (μ : wd_Mem) (x1 x2 x3 x4 x5 x6 : Int32) : Option (Int32 × wd_Mem) :=
  rec x5 x6 μ
def X8_schedules_b153 (rec : Int32 → Int32 → wd_Mem → Option (Int32 × wd_Mem)) (k : Int32 → wd_Mem → Option (Int32 × wd_Mem)) (μ : wd_Mem) (x1 x2 x3 x4 x5 x6 : Int32) : Option (Int32 × wd_Mem) :=
  (X8_isRoom μ x6).bind (fun r13 => (if r13 = 0 then X8_schedules_b213 rec k μ x1 x2 x3 x4 x5 x6 else (if x6 = ((μ 31 0) - (1 : Int32)) then (if (x5 + (1 : Int32)) = x1 then some ((x5 + (1 : Int32)), μ) else X8_schedules_b213 rec k μ x1 x2 x3 x4 (x5 + (1 : Int32)) x6) else (X8_runs μ x6 (1 : Int32)).bind (fun r16 => wd_chk (wd_in ((0 : Int32) + (x6 + (1 : Int32))) 30) (wd_chk (wd_in (x6 + (1 : Int32)) 5) (X8_schedules_b213 rec k (mset r16 45 (Int32.toNatClampNeg (x6 + (1 : Int32))) ((r16 34 (Int32.toNatClampNeg ((0 : Int32) + (x6 + (1 : Int32))))) - (1 : Int32))) x1 x2 x3 x4 x5 (x6 + (1 : Int32))))))))
def X8_schedules_b95 (rec : Int32 → Int32 → wd_Mem → Option (Int32 × wd_Mem)) (k : Int32 → wd_Mem → Option (Int32 × wd_Mem)) (μ : wd_Mem) (x1 x2 x3 x4 x5 x6 s0 : Int32) : Option (Int32 × wd_Mem) :=
  wd_chk (wd_in x6 5) ((if ((μ 45 (Int32.toNatClampNeg x6)) + (μ 32 (Int32.toNatClampNeg x6))) ≤ s0 then (if x6 = x3 then (if (μ 45 (Int32.toNatClampNeg x6)) = x4 then X8_schedules_b153 rec k μ x1 x2 x3 x4 x5 x6 else X8_schedules_b213 rec k μ x1 x2 x3 x4 x5 x6) else X8_schedules_b153 rec k μ x1 x2 x3 x4 x5 x6) else (if (x6 + (-1 : Int32)) < 0 then X8_schedules_b213 rec k μ x1 x2 x3 x4 x5 (x6 + (-1 : Int32)) else (X8_runs μ (x6 + (-1 : Int32)) (-1 : Int32)).bind (fun r22 => X8_schedules_b213 rec k r22 x1 x2 x3 x4 x5 (x6 + (-1 : Int32))))))
def X8_schedules_c53 (rec : Int32 → Int32 → wd_Mem → Option (Int32 × wd_Mem)) (k : Int32 → wd_Mem → Option (Int32 × wd_Mem)) (μ : wd_Mem) (x1 x2 x3 x4 x5 x6 : Int32) : Option (Int32 × wd_Mem) :=
  (if x6 < 0 then k x5 μ else wd_chk (wd_in x6 5) (wd_chk (wd_in ((5 : Int32) + x6) 30) ((if x2 ≤ (μ 34 (Int32.toNatClampNeg ((5 : Int32) + x6))) then X8_schedules_b95 rec k (mset μ 45 (Int32.toNatClampNeg x6) ((μ 45 (Int32.toNatClampNeg x6)) + (1 : Int32))) x1 x2 x3 x4 x5 x6 x2 else X8_schedules_b95 rec k (mset μ 45 (Int32.toNatClampNeg x6) ((μ 45 (Int32.toNatClampNeg x6)) + (1 : Int32))) x1 x2 x3 x4 x5 x6 (μ 34 (Int32.toNatClampNeg ((5 : Int32) + x6)))))))
def X8_schedules_l53 (k : Int32 → wd_Mem → Option (Int32 × wd_Mem)) (x1 x2 x3 x4 : Int32) : Nat → Int32 → Int32 → wd_Mem → Option (Int32 × wd_Mem)
  | 0, _, _, _ => none
  | n + 1, x5, x6, μ => X8_schedules_c53 (X8_schedules_l53 k x1 x2 x3 x4 n) k μ x1 x2 x3 x4 x5 x6
def X8_schedules_b216 (μ : wd_Mem) (x5 : Int32) : Option (Int32 × wd_Mem) :=
  some (x5, μ)
def X8_schedules_b24 (μ : wd_Mem) (x1 x2 x3 x4 : Int32) : Option (Int32 × wd_Mem) :=
  (if (μ 31 0) = 0 then some ((1 : Int32), μ) else wd_chk (wd_in (0 : Int32) 30) (wd_chk (wd_in (0 : Int32) 5) (X8_schedules_l53 (fun x5 μ => X8_schedules_b216 μ x5) x1 x2 x3 x4 wd_big (0 : Int32) (0 : Int32) (mset μ 45 (Int32.toNatClampNeg (0 : Int32)) ((μ 34 (Int32.toNatClampNeg (0 : Int32))) - (1 : Int32))))))
def X8_schedules_b0 (μ : wd_Mem) (x1 x2 x3 x4 : Int32) : Option (Int32 × wd_Mem) :=
  X8_schedules_l3 (fun μ => X8_schedules_b24 μ x1 x2 x3 x4) x1 x2 x3 x4 wd_big (0 : Int32) μ
def X8_schedules (μ : wd_Mem) (x1 x2 x3 x4 : Int32) : Option (Int32 × wd_Mem) := X8_schedules_b0 μ x1 x2 x3 x4
def X8_belong_b54 (rec : Int32 → Int32 → wd_Mem → Option (Int32 × wd_Mem)) (k : Int32 → wd_Mem → Option (Int32 × wd_Mem)) (μ : wd_Mem) (x1 x3 s0 s1 : Int32) : Option (Int32 × wd_Mem) :=
  rec (s0 ||| s1) (x3 + (1 : Int32)) μ
def X8_belong_c15 (rec : Int32 → Int32 → wd_Mem → Option (Int32 × wd_Mem)) (k : Int32 → wd_Mem → Option (Int32 × wd_Mem)) (μ : wd_Mem) (x1 x2 x3 : Int32) : Option (Int32 × wd_Mem) :=
  wd_chk (wd_in x1 5) (wd_chk (wd_in ((5 : Int32) + x1) 30) ((if (μ 34 (Int32.toNatClampNeg ((5 : Int32) + x1))) < (x3 + (μ 32 (Int32.toNatClampNeg x1))) then k x2 μ else (X8_schedules μ (1 : Int32) (16 : Int32) x1 x3).bind (fun r6 => (if r6.1 ≤ 0 then X8_belong_b54 rec k r6.2 x1 x3 x2 (0 : Int32) else X8_belong_b54 rec k r6.2 x1 x3 x2 ((1 : Int32) <<< (x3 &&& 31)))))))
def X8_belong_l15 (k : Int32 → wd_Mem → Option (Int32 × wd_Mem)) (x1 : Int32) : Nat → Int32 → Int32 → wd_Mem → Option (Int32 × wd_Mem)
  | 0, _, _, _ => none
  | n + 1, x2, x3, μ => X8_belong_c15 (X8_belong_l15 k x1 n) k μ x1 x2 x3
def X8_belong_b62 (μ : wd_Mem) (x2 : Int32) : Option (Int32 × wd_Mem) :=
  some (x2, μ)
def X8_belong_b0 (μ : wd_Mem) (x1 : Int32) : Option (Int32 × wd_Mem) :=
  (X8_plain μ).bind (fun r1 => wd_chk (wd_in ((0 : Int32) + x1) 30) (X8_belong_l15 (fun x2 μ => X8_belong_b62 μ x2) x1 wd_big (0 : Int32) (r1 34 (Int32.toNatClampNeg ((0 : Int32) + x1))) r1))
def X8_belong (μ : wd_Mem) (x1 : Int32) : Option (Int32 × wd_Mem) := X8_belong_b0 μ x1
def X8_firstOf_b0 (μ : wd_Mem) (x1 : Int32) : Option (Int32 × wd_Mem) :=
  (X8_plain μ).bind (fun r1 => (X8_schedules r1 (1 : Int32) (16 : Int32) (-9 : Int32) (0 : Int32)).bind (fun r2 => (if r2.1 ≤ 0 then some ((-9 : Int32), r2.2) else wd_chk (wd_in x1 5) (some ((r2.2 45 (Int32.toNatClampNeg x1)), r2.2)))))
def X8_firstOf (μ : wd_Mem) (x1 : Int32) : Option (Int32 × wd_Mem) := X8_firstOf_b0 μ x1
def X8_task_b17 (μ : wd_Mem) : Option (Int32 × wd_Mem) :=
  some ((-1 : Int32), μ)
def X8_task_b0 (μ : wd_Mem) (x1 x2 : Int32) : Option (Int32 × wd_Mem) :=
  (X8_isTask μ x1).bind (fun r1 => (if r1 = 0 then X8_task_b17 μ else (if (X8_in μ x2 (0 : Int32) (5 : Int32)) = 0 then X8_task_b17 μ else (if x2 = nI 0 then wd_chk (wd_in ((0 : Int32) + x1) 30) (some ((μ 34 (Int32.toNatClampNeg ((0 : Int32) + x1))), μ)) else (if x2 = nI 1 then wd_chk (wd_in ((5 : Int32) + x1) 30) (some ((μ 34 (Int32.toNatClampNeg ((5 : Int32) + x1))), μ)) else (if x2 = nI 2 then wd_chk (wd_in x1 5) (some ((μ 32 (Int32.toNatClampNeg x1)), μ)) else (if x2 = nI 3 then wd_chk (wd_in x1 5) (some ((μ 33 (Int32.toNatClampNeg x1)), μ)) else (if x2 = nI 4 then (X8_belong μ x1).bind (fun r8 => some (r8.1, r8.2)) else (X8_firstOf μ x1).bind (fun r9 => some (r9.1, r9.2))))))))))
def X8_task (μ : wd_Mem) (x1 x2 : Int32) : Option (Int32 × wd_Mem) := X8_task_b0 μ x1 x2
def X8_why_b26 (μ : wd_Mem) : Option (Int32) :=
  some (-1 : Int32)
def X8_why_b43 (μ : wd_Mem) (x1 x2 s1 : Int32) : Option (Int32) :=
  wd_chk (wd_in ((s1 + ((5 : Int32) * x2)) + x1) 30) (some (μ 34 (Int32.toNatClampNeg ((s1 + ((5 : Int32) * x2)) + x1))))
def X8_why_b0 (μ : wd_Mem) (x1 x2 x3 : Int32) : Option (Int32) :=
  (X8_isTask μ x1).bind (fun r1 => (if r1 = 0 then X8_why_b26 μ else (if (X8_in μ x2 (0 : Int32) (1 : Int32)) = 0 then X8_why_b26 μ else (if (X8_in μ x3 (0 : Int32) (1 : Int32)) = 0 then X8_why_b26 μ else (if x3 = 0 then X8_why_b43 μ x1 x2 (10 : Int32) else X8_why_b43 μ x1 x2 (20 : Int32))))))
def X8_why (μ : wd_Mem) (x1 x2 x3 : Int32) : Option (Int32) := X8_why_b0 μ x1 x2 x3
def X8_asIs_c2 (rec : Int32 → wd_Mem → Option (wd_Mem)) (k : wd_Mem → Option (wd_Mem)) (μ : wd_Mem) (x1 : Int32) : Option (wd_Mem) :=
  (if (μ 31 0) ≤ x1 then k μ else wd_chk (wd_in ((0 : Int32) + x1) 30) (wd_chk (wd_in x1 5) (wd_chk (wd_in ((5 : Int32) + x1) 30) (rec (x1 + (1 : Int32)) (mset (mset μ 40 (Int32.toNatClampNeg x1) (μ 34 (Int32.toNatClampNeg ((0 : Int32) + x1)))) 41 (Int32.toNatClampNeg x1) (μ 34 (Int32.toNatClampNeg ((5 : Int32) + x1))))))))
def X8_asIs_l2 (k : wd_Mem → Option (wd_Mem)) : Nat → Int32 → wd_Mem → Option (wd_Mem)
  | 0, _, _ => none
  | n + 1, x1, μ => X8_asIs_c2 (X8_asIs_l2 k n) k μ x1
def X8_asIs_b44 (μ : wd_Mem) : Option (wd_Mem) :=
  some μ
def X8_asIs_b0 (μ : wd_Mem) : Option (wd_Mem) :=
  X8_asIs_l2 (fun μ => X8_asIs_b44 μ) wd_big (0 : Int32) μ
def X8_asIs (μ : wd_Mem) : Option (wd_Mem) := X8_asIs_b0 μ
def X8_must_b57 (rec : Int32 → Int32 → Option (Int32 × wd_Mem)) (k : Int32 → Option (Int32 × wd_Mem)) (μ : wd_Mem) (x1 x3 s0 s1 : Int32) : Option (Int32 × wd_Mem) :=
  rec (s0 + s1) (x3 + (1 : Int32))
def X8_must_b56 (rec : Int32 → Int32 → Option (Int32 × wd_Mem)) (k : Int32 → Option (Int32 × wd_Mem)) (μ : wd_Mem) (x1 x3 s0 : Int32) : Option (Int32 × wd_Mem) :=
  X8_must_b57 rec k μ x1 x3 s0 (0 : Int32)
def X8_must_c20 (rec : Int32 → Int32 → Option (Int32 × wd_Mem)) (k : Int32 → Option (Int32 × wd_Mem)) (μ : wd_Mem) (x1 x2 x3 : Int32) : Option (Int32 × wd_Mem) :=
  (if (μ 31 0) ≤ x3 then k x2 else (X8_start μ x3).bind (fun r4 => (if x1 < r4 then X8_must_b56 rec k μ x1 x3 x2 else (X8_done μ x3).bind (fun r6 => (if r6 ≤ x1 then X8_must_b56 rec k μ x1 x3 x2 else wd_chk (wd_in x3 5) (X8_must_b57 rec k μ x1 x3 x2 (μ 33 (Int32.toNatClampNeg x3))))))))
def X8_must_l20 (k : Int32 → Option (Int32 × wd_Mem)) (μ : wd_Mem) (x1 : Int32) : Nat → Int32 → Int32 → Option (Int32 × wd_Mem)
  | 0, _, _ => none
  | n + 1, x2, x3 => X8_must_c20 (X8_must_l20 k μ x1 n) k μ x1 x2 x3
def X8_must_b65 (μ : wd_Mem) (x2 : Int32) : Option (Int32 × wd_Mem) :=
  some (x2, μ)
def X8_must_b0 (μ : wd_Mem) (x1 : Int32) : Option (Int32 × wd_Mem) :=
  (if (X8_in μ x1 (0 : Int32) (15 : Int32)) = 0 then some ((-1 : Int32), μ) else (X8_asIs μ).bind (fun r2 => X8_must_l20 (fun x2 => X8_must_b65 r2 x2) r2 x1 wd_big (0 : Int32) (0 : Int32)))
def X8_must (μ : wd_Mem) (x1 : Int32) : Option (Int32 × wd_Mem) := X8_must_b0 μ x1
def X8_wrapOf_b38 (rec : Int32 → Int32 → Option (Int32)) (k : Int32 → Option (Int32)) (μ : wd_Mem) (x1 x3 s0 : Int32) : Option (Int32) :=
  rec s0 ((x3 - (1 : Int32)) &&& x1)
def X8_wrapOf_c4 (rec : Int32 → Int32 → Option (Int32)) (k : Int32 → Option (Int32)) (μ : wd_Mem) (x1 x2 x3 : Int32) : Option (Int32) :=
  (if x3 ≤ 0 then k x2 else (X8_setEarly μ x3).bind (fun r2 => (X8_energy μ x3).bind (fun r3 => (if (((μ 31 1) * r2) + r3) ≤ x2 then X8_wrapOf_b38 rec k μ x1 x3 x2 else X8_wrapOf_b38 rec k μ x1 x3 (((μ 31 1) * r2) + r3)))))
def X8_wrapOf_l4 (k : Int32 → Option (Int32)) (μ : wd_Mem) (x1 : Int32) : Nat → Int32 → Int32 → Option (Int32)
  | 0, _, _ => none
  | n + 1, x2, x3 => X8_wrapOf_c4 (X8_wrapOf_l4 k μ x1 n) k μ x1 x2 x3
def X8_wrapOf_b48 (μ : wd_Mem) (x2 : Int32) : Option (Int32) :=
  some x2
def X8_wrapOf_b0 (μ : wd_Mem) (x1 : Int32) : Option (Int32) :=
  X8_wrapOf_l4 (fun x2 => X8_wrapOf_b48 μ x2) μ x1 wd_big (-1 : Int32) x1
def X8_wrapOf (μ : wd_Mem) (x1 : Int32) : Option (Int32) := X8_wrapOf_b0 μ x1
def X8_wrap_b0 (μ : wd_Mem) (x1 : Int32) : Option (Int32 × wd_Mem) :=
  (if (X8_in μ x1 (1 : Int32) (X8_all μ)) = 0 then some ((-1 : Int32), μ) else (X8_asIs μ).bind (fun r2 => (X8_wrapOf r2 x1).bind (fun r3 => some (r3, r2))))
def X8_wrap (μ : wd_Mem) (x1 : Int32) : Option (Int32 × wd_Mem) := X8_wrap_b0 μ x1
def X8_grey_b39 (μ : wd_Mem) : Option (Int32 × wd_Mem) :=
  some ((-1 : Int32), μ)
def X8_grey_b119 (rec : Int32 → Int32 → Int32 → Option (Int32 × wd_Mem)) (k : Int32 → Int32 → Option (Int32 × wd_Mem)) (μ : wd_Mem) (x1 x2 x3 x4 x6 s0 : Int32) : Option (Int32 × wd_Mem) :=
  rec x4 s0 (x6 + (1 : Int32))
def X8_grey_b103 (rec : Int32 → Int32 → Int32 → Option (Int32 × wd_Mem)) (k : Int32 → Int32 → Option (Int32 × wd_Mem)) (μ : wd_Mem) (x1 x2 x3 x5 x6 x7 s0 : Int32) : Option (Int32 × wd_Mem) :=
  (if x7 ≤ x5 then X8_grey_b119 rec k μ x1 x2 x3 s0 x6 x5 else X8_grey_b119 rec k μ x1 x2 x3 s0 x6 x7)
def X8_grey_b87 (rec : Int32 → Int32 → Int32 → Option (Int32 × wd_Mem)) (k : Int32 → Int32 → Option (Int32 × wd_Mem)) (μ : wd_Mem) (x1 x2 x3 x4 x5 x6 s0 : Int32) : Option (Int32 × wd_Mem) :=
  (if s0 ≤ x5 then X8_grey_b103 rec k μ x1 x2 x3 x5 x6 s0 x4 else X8_grey_b103 rec k μ x1 x2 x3 x5 x6 s0 x6)
def X8_grey_c55 (rec : Int32 → Int32 → Int32 → Option (Int32 × wd_Mem)) (k : Int32 → Int32 → Option (Int32 × wd_Mem)) (μ : wd_Mem) (x1 x2 x3 x4 x5 x6 : Int32) : Option (Int32 × wd_Mem) :=
  (if (μ 31 0) ≤ x6 then k x4 x5 else (if (X8_has μ x2 x6) = 0 then X8_grey_b87 rec k μ x1 x2 x3 x4 x5 x6 (-1 : Int32) else (X8_wrapOf μ (x1 ||| ((1 : Int32) <<< (x6 &&& 31)))).bind (fun r10 => X8_grey_b87 rec k μ x1 x2 x3 x4 x5 x6 r10)))
def X8_grey_l55 (k : Int32 → Int32 → Option (Int32 × wd_Mem)) (μ : wd_Mem) (x1 x2 x3 : Int32) : Nat → Int32 → Int32 → Int32 → Option (Int32 × wd_Mem)
  | 0, _, _, _ => none
  | n + 1, x4, x5, x6 => X8_grey_c55 (X8_grey_l55 k μ x1 x2 x3 n) k μ x1 x2 x3 x4 x5 x6
def X8_grey_b127 (μ : wd_Mem) (x3 x4 x5 : Int32) : Option (Int32 × wd_Mem) :=
  (if x3 = 0 then some (x5, μ) else some (x4, μ))
def X8_grey_b0 (μ : wd_Mem) (x1 x2 x3 : Int32) : Option (Int32 × wd_Mem) :=
  (if (X8_in μ x1 (0 : Int32) (X8_all μ)) = 0 then X8_grey_b39 μ else (if (X8_in μ x2 (1 : Int32) (X8_all μ)) = 0 then X8_grey_b39 μ else (if (x1 &&& x2) = 0 then (if (X8_in μ x3 (0 : Int32) (1 : Int32)) = 0 then X8_grey_b39 μ else (X8_asIs μ).bind (fun r5 => X8_grey_l55 (fun x4 x5 => X8_grey_b127 r5 x3 x4 x5) r5 x1 x2 x3 wd_big (-9 : Int32) (-1 : Int32) (0 : Int32))) else X8_grey_b39 μ)))
def X8_grey (μ : wd_Mem) (x1 x2 x3 : Int32) : Option (Int32 × wd_Mem) := X8_grey_b0 μ x1 x2 x3
def X8_odds_b19 (μ : wd_Mem) : Option (Int32 × wd_Mem) :=
  some ((-1 : Int32), μ)
def X8_odds_c26 (rec : Int32 → Int32 → Option (Int32 × wd_Mem)) (k : Int32 → Option (Int32 × wd_Mem)) (μ : wd_Mem) (x1 x2 x3 x4 : Int32) : Option (Int32 × wd_Mem) :=
  (if (μ 31 0) ≤ x4 then k x3 else rec (x3 * (10 : Int32)) (x4 + (1 : Int32)))
def X8_odds_l26 (k : Int32 → Option (Int32 × wd_Mem)) (μ : wd_Mem) (x1 x2 : Int32) : Nat → Int32 → Int32 → Option (Int32 × wd_Mem)
  | 0, _, _ => none
  | n + 1, x3, x4 => X8_odds_c26 (X8_odds_l26 k μ x1 x2 n) k μ x1 x2 x3 x4
def X8_odds_b146 (rec : Int32 → Int32 → wd_Mem → Option (Int32 × wd_Mem)) (k : Int32 → wd_Mem → Option (Int32 × wd_Mem)) (μ : wd_Mem) (x1 x2 x3 x4 x5 x7 s0 s1 : Int32) : Option (Int32 × wd_Mem) :=
  rec (s0 * s1) (x7 + (1 : Int32)) μ
def X8_odds_b125 (rec : Int32 → Int32 → wd_Mem → Option (Int32 × wd_Mem)) (k : Int32 → wd_Mem → Option (Int32 × wd_Mem)) (μ : wd_Mem) (x1 x2 x3 x4 x5 x6 x7 s1 s2 : Int32) : Option (Int32 × wd_Mem) :=
  wd_chk (wd_in s1 5) ((if (X8_has (mset μ 47 (Int32.toNatClampNeg s1) s2) x5 x7) = 0 then X8_odds_b146 rec k (mset μ 47 (Int32.toNatClampNeg s1) s2) x1 x2 x3 x4 x5 x7 x6 ((10 : Int32) - x1) else X8_odds_b146 rec k (mset μ 47 (Int32.toNatClampNeg s1) s2) x1 x2 x3 x4 x5 x7 x6 x1))
def X8_odds_b118 (rec : Int32 → Int32 → wd_Mem → Option (Int32 × wd_Mem)) (k : Int32 → wd_Mem → Option (Int32 × wd_Mem)) (μ : wd_Mem) (x1 x2 x3 x4 x5 x6 x7 s1 : Int32) : Option (Int32 × wd_Mem) :=
  wd_chk (wd_in x7 5) (X8_odds_b125 rec k μ x1 x2 x3 x4 x5 x6 x7 s1 (μ 33 (Int32.toNatClampNeg x7)))
def X8_odds_c67 (rec : Int32 → Int32 → wd_Mem → Option (Int32 × wd_Mem)) (k : Int32 → wd_Mem → Option (Int32 × wd_Mem)) (μ : wd_Mem) (x1 x2 x3 x4 x5 x6 x7 : Int32) : Option (Int32 × wd_Mem) :=
  (if (μ 31 0) ≤ x7 then k x6 μ else (if (X8_has μ x5 x7) = 0 then X8_odds_b118 rec k μ x1 x2 x3 x4 x5 x6 x7 x7 else wd_chk (wd_in x7 5) ((if (μ 31 1) ≤ (μ 33 (Int32.toNatClampNeg x7)) then X8_odds_b118 rec k μ x1 x2 x3 x4 x5 x6 x7 x7 else X8_odds_b125 rec k μ x1 x2 x3 x4 x5 x6 x7 x7 ((μ 33 (Int32.toNatClampNeg x7)) + (1 : Int32))))))
def X8_odds_l67 (k : Int32 → wd_Mem → Option (Int32 × wd_Mem)) (x1 x2 x3 x4 x5 : Int32) : Nat → Int32 → Int32 → wd_Mem → Option (Int32 × wd_Mem)
  | 0, _, _, _ => none
  | n + 1, x6, x7, μ => X8_odds_c67 (X8_odds_l67 k x1 x2 x3 x4 x5 n) k μ x1 x2 x3 x4 x5 x6 x7
def X8_odds_b181 (rec : Int32 → Int32 → wd_Mem → Option (Int32 × wd_Mem)) (k : Int32 → wd_Mem → Option (Int32 × wd_Mem)) (μ : wd_Mem) (x1 x2 x3 x5 s0 s1 : Int32) : Option (Int32 × wd_Mem) :=
  rec (s0 + s1) (x5 + (1 : Int32)) μ
def X8_odds_b180 (rec : Int32 → Int32 → wd_Mem → Option (Int32 × wd_Mem)) (k : Int32 → wd_Mem → Option (Int32 × wd_Mem)) (μ : wd_Mem) (x1 x2 x3 x5 s0 : Int32) : Option (Int32 × wd_Mem) :=
  X8_odds_b181 rec k μ x1 x2 x3 x5 s0 (0 : Int32)
def X8_odds_b155 (rec : Int32 → Int32 → wd_Mem → Option (Int32 × wd_Mem)) (k : Int32 → wd_Mem → Option (Int32 × wd_Mem)) (μ : wd_Mem) (x1 x2 x3 x4 x5 x6 : Int32) : Option (Int32 × wd_Mem) :=
  (if x6 ≤ 0 then X8_odds_b180 rec k μ x1 x2 x3 x5 x4 else (X8_schedules μ (1 : Int32) (16 : Int32) (-9 : Int32) (0 : Int32)).bind (fun r13 => (if r13.1 ≤ 0 then X8_odds_b180 rec k r13.2 x1 x2 x3 x5 x4 else X8_odds_b181 rec k r13.2 x1 x2 x3 x5 x4 x6)))
def X8_odds_c52 (rec : Int32 → Int32 → wd_Mem → Option (Int32 × wd_Mem)) (k : Int32 → wd_Mem → Option (Int32 × wd_Mem)) (μ : wd_Mem) (x1 x2 x3 x4 x5 : Int32) : Option (Int32 × wd_Mem) :=
  (if (X8_all μ) < x5 then k x4 μ else X8_odds_l67 (fun x6 μ => X8_odds_b155 rec k μ x1 x2 x3 x4 x5 x6) x1 x2 x3 x4 x5 wd_big (1 : Int32) (0 : Int32) μ)
def X8_odds_l52 (k : Int32 → wd_Mem → Option (Int32 × wd_Mem)) (x1 x2 x3 : Int32) : Nat → Int32 → Int32 → wd_Mem → Option (Int32 × wd_Mem)
  | 0, _, _, _ => none
  | n + 1, x4, x5, μ => X8_odds_c52 (X8_odds_l52 k x1 x2 x3 n) k μ x1 x2 x3 x4 x5
def X8_odds_c197 (rec : Int32 → Int32 → Option (Int32 × wd_Mem)) (k : Int32 → Option (Int32 × wd_Mem)) (μ : wd_Mem) (x2 x3 x4 x5 x6 : Int32) : Option (Int32 × wd_Mem) :=
  (if x6 = 0 then k x5 else wd_chk (wd_nz x6) (rec x6 (x5 - x5 / x6 * x6)))
def X8_odds_l197 (k : Int32 → Option (Int32 × wd_Mem)) (μ : wd_Mem) (x2 x3 x4 : Int32) : Nat → Int32 → Int32 → Option (Int32 × wd_Mem)
  | 0, _, _ => none
  | n + 1, x5, x6 => X8_odds_c197 (X8_odds_l197 k μ x2 x3 x4 n) k μ x2 x3 x4 x5 x6
def X8_odds_b220 (μ : wd_Mem) (x2 x3 x4 x5 : Int32) : Option (Int32 × wd_Mem) :=
  (if x2 = 0 then wd_chk (wd_nz x5) (some ((x4 / x5), μ)) else wd_chk (wd_nz x5) (some ((x3 / x5), μ)))
def X8_odds_b190 (μ : wd_Mem) (x2 x3 x4 : Int32) : Option (Int32 × wd_Mem) :=
  X8_odds_l197 (fun x5 => X8_odds_b220 μ x2 x3 x4 x5) μ x2 x3 x4 wd_big x4 x3
def X8_odds_b46 (μ : wd_Mem) (x1 x2 x3 : Int32) : Option (Int32 × wd_Mem) :=
  X8_odds_l52 (fun x4 μ => X8_odds_b190 μ x2 x3 x4) x1 x2 x3 wd_big (0 : Int32) (0 : Int32) μ
def X8_odds_b0 (μ : wd_Mem) (x1 x2 : Int32) : Option (Int32 × wd_Mem) :=
  (if (X8_in μ x1 (0 : Int32) (10 : Int32)) = 0 then X8_odds_b19 μ else (if (X8_in μ x2 (0 : Int32) (1 : Int32)) = 0 then X8_odds_b19 μ else X8_odds_l26 (fun x3 => X8_odds_b46 μ x1 x2 x3) μ x1 x2 wd_big (1 : Int32) (0 : Int32)))
def X8_odds (μ : wd_Mem) (x1 x2 : Int32) : Option (Int32 × wd_Mem) := X8_odds_b0 μ x1 x2
def X8_keep_c20 (rec : Int32 → wd_Mem → Option (Int32 × wd_Mem)) (k : wd_Mem → Option (Int32 × wd_Mem)) (μ : wd_Mem) (x1 x2 : Int32) : Option (Int32 × wd_Mem) :=
  (if (30 : Int32) ≤ x2 then k μ else wd_chk (wd_in x2 30) (wd_chk (wd_in (((30 : Int32) * x1) + x2) 60) (rec (x2 + (1 : Int32)) (mset μ 37 (Int32.toNatClampNeg (((30 : Int32) * x1) + x2)) (μ 34 (Int32.toNatClampNeg x2))))))
def X8_keep_l20 (k : wd_Mem → Option (Int32 × wd_Mem)) (x1 : Int32) : Nat → Int32 → wd_Mem → Option (Int32 × wd_Mem)
  | 0, _, _ => none
  | n + 1, x2, μ => X8_keep_c20 (X8_keep_l20 k x1 n) k μ x1 x2
def X8_keep_b49 (μ : wd_Mem) : Option (Int32 × wd_Mem) :=
  some ((μ 31 0), μ)
def X8_keep_b0 (μ : wd_Mem) (x1 : Int32) : Option (Int32 × wd_Mem) :=
  (if (X8_in μ x1 (0 : Int32) (1 : Int32)) = 0 then some ((-1 : Int32), μ) else wd_chk (wd_in x1 2) (X8_keep_l20 (fun μ => X8_keep_b49 μ) x1 wd_big (0 : Int32) (mset μ 36 (Int32.toNatClampNeg x1) (vp_nar .boolean (1 : Int32)))))
def X8_keep (μ : wd_Mem) (x1 : Int32) : Option (Int32 × wd_Mem) := X8_keep_b0 μ x1
def X8_back_c25 (rec : Int32 → wd_Mem → Option (Int32 × wd_Mem)) (k : wd_Mem → Option (Int32 × wd_Mem)) (μ : wd_Mem) (x1 x2 : Int32) : Option (Int32 × wd_Mem) :=
  (if (30 : Int32) ≤ x2 then k μ else wd_chk (wd_in (((30 : Int32) * x1) + x2) 60) (wd_chk (wd_in x2 30) (rec (x2 + (1 : Int32)) (mset μ 34 (Int32.toNatClampNeg x2) (μ 37 (Int32.toNatClampNeg (((30 : Int32) * x1) + x2)))))))
def X8_back_l25 (k : wd_Mem → Option (Int32 × wd_Mem)) (x1 : Int32) : Nat → Int32 → wd_Mem → Option (Int32 × wd_Mem)
  | 0, _, _ => none
  | n + 1, x2, μ => X8_back_c25 (X8_back_l25 k x1 n) k μ x1 x2
def X8_back_b54 (μ : wd_Mem) : Option (Int32 × wd_Mem) :=
  some ((μ 31 0), (mset μ 31 5 (0 : Int32)))
def X8_back_b0 (μ : wd_Mem) (x1 : Int32) : Option (Int32 × wd_Mem) :=
  (if (X8_in μ x1 (0 : Int32) (1 : Int32)) = 0 then some ((-1 : Int32), μ) else wd_chk (wd_in x1 2) ((if (μ 36 (Int32.toNatClampNeg x1)) = 0 then some ((-2 : Int32), μ) else X8_back_l25 (fun μ => X8_back_b54 μ) x1 wd_big (0 : Int32) μ)))
def X8_back (μ : wd_Mem) (x1 : Int32) : Option (Int32 × wd_Mem) := X8_back_b0 μ x1
def X8_countSchedules_b0 (μ : wd_Mem) : Option (Int32 × wd_Mem) :=
  (X8_plain μ).bind (fun r1 => (X8_schedules r1 (9999 : Int32) (16 : Int32) (-9 : Int32) (0 : Int32)).bind (fun r2 => some (r2.1, r2.2)))
def X8_countSchedules (μ : wd_Mem) : Option (Int32 × wd_Mem) := X8_countSchedules_b0 μ
def X8_shortest_c6 (rec : Int32 → wd_Mem → Option (Int32 × wd_Mem)) (k : wd_Mem → Option (Int32 × wd_Mem)) (μ : wd_Mem) (x1 : Int32) : Option (Int32 × wd_Mem) :=
  (if (16 : Int32) < x1 then k μ else (X8_schedules μ (1 : Int32) x1 (-9 : Int32) (0 : Int32)).bind (fun r3 => (if r3.1 ≤ 0 then rec (x1 + (1 : Int32)) r3.2 else some (x1, r3.2))))
def X8_shortest_l6 (k : wd_Mem → Option (Int32 × wd_Mem)) : Nat → Int32 → wd_Mem → Option (Int32 × wd_Mem)
  | 0, _, _ => none
  | n + 1, x1, μ => X8_shortest_c6 (X8_shortest_l6 k n) k μ x1
def X8_shortest_b32 (μ : wd_Mem) : Option (Int32 × wd_Mem) :=
  some ((-9 : Int32), μ)
def X8_shortest_b0 (μ : wd_Mem) : Option (Int32 × wd_Mem) :=
  (X8_plain μ).bind (fun r1 => X8_shortest_l6 (fun μ => X8_shortest_b32 μ) wd_big (0 : Int32) r1)
def X8_shortest (μ : wd_Mem) : Option (Int32 × wd_Mem) := X8_shortest_b0 μ
def X8_heavy_c44 (rec : Int32 → Int32 → Option (Int32 × wd_Mem)) (k : Int32 → Option (Int32 × wd_Mem)) (μ : wd_Mem) (x1 x2 x3 x4 x5 x6 : Int32) : Option (Int32 × wd_Mem) :=
  (if (μ 31 0) ≤ x6 then k x5 else (X8_leastOf μ x6 x3 x4).bind (fun r5 => rec (x5 + r5) (x6 + (1 : Int32))))
def X8_heavy_l44 (k : Int32 → Option (Int32 × wd_Mem)) (μ : wd_Mem) (x1 x2 x3 x4 : Int32) : Nat → Int32 → Int32 → Option (Int32 × wd_Mem)
  | 0, _, _ => none
  | n + 1, x5, x6 => X8_heavy_c44 (X8_heavy_l44 k μ x1 x2 x3 x4 n) k μ x1 x2 x3 x4 x5 x6
def X8_heavy_b103 (rec : Int32 → Int32 → Int32 → Option (Int32 × wd_Mem)) (k : Int32 → Int32 → Option (Int32 × wd_Mem)) (μ : wd_Mem) (x1 x3 x4 s0 : Int32) : Option (Int32 × wd_Mem) :=
  rec x1 s0 (x4 + (1 : Int32))
def X8_heavy_b90 (rec : Int32 → Int32 → Int32 → Option (Int32 × wd_Mem)) (k : Int32 → Int32 → Option (Int32 × wd_Mem)) (μ : wd_Mem) (x2 x3 x4 x5 s0 : Int32) : Option (Int32 × wd_Mem) :=
  (if x5 ≤ x2 then X8_heavy_b103 rec k μ s0 x3 x4 x2 else X8_heavy_b103 rec k μ s0 x3 x4 x5)
def X8_heavy_b73 (rec : Int32 → Int32 → Int32 → Option (Int32 × wd_Mem)) (k : Int32 → Int32 → Option (Int32 × wd_Mem)) (μ : wd_Mem) (x1 x2 x3 x4 x5 : Int32) : Option (Int32 × wd_Mem) :=
  (if x5 ≤ x2 then X8_heavy_b90 rec k μ x2 x3 x4 x5 x1 else X8_heavy_b90 rec k μ x2 x3 x4 x5 (((100 : Int32) * x3) + x4))
def X8_heavy_c22 (rec : Int32 → Int32 → Int32 → Option (Int32 × wd_Mem)) (k : Int32 → Int32 → Option (Int32 × wd_Mem)) (μ : wd_Mem) (x1 x2 x3 x4 : Int32) : Option (Int32 × wd_Mem) :=
  (if (16 : Int32) < x4 then k x1 x2 else X8_heavy_l44 (fun x5 => X8_heavy_b73 rec k μ x1 x2 x3 x4 x5) μ x1 x2 x3 x4 wd_big ((-(μ 31 1)) * (x4 - x3)) (0 : Int32))
def X8_heavy_l22 (k : Int32 → Int32 → Option (Int32 × wd_Mem)) (μ : wd_Mem) (x3 : Int32) : Nat → Int32 → Int32 → Int32 → Option (Int32 × wd_Mem)
  | 0, _, _, _ => none
  | n + 1, x1, x2, x4 => X8_heavy_c22 (X8_heavy_l22 k μ x3 n) k μ x1 x2 x3 x4
def X8_heavy_b110 (rec : Int32 → Int32 → Int32 → Option (Int32 × wd_Mem)) (k : Int32 → Option (Int32 × wd_Mem)) (μ : wd_Mem) (x1 x2 x3 : Int32) : Option (Int32 × wd_Mem) :=
  rec x1 x2 (x3 + (1 : Int32))
def X8_heavy_c11 (rec : Int32 → Int32 → Int32 → Option (Int32 × wd_Mem)) (k : Int32 → Option (Int32 × wd_Mem)) (μ : wd_Mem) (x1 x2 x3 : Int32) : Option (Int32 × wd_Mem) :=
  (if (16 : Int32) ≤ x3 then k x1 else X8_heavy_l22 (fun x1 x2 => X8_heavy_b110 rec k μ x1 x2 x3) μ x3 wd_big x1 x2 (x3 + (1 : Int32)))
def X8_heavy_l11 (k : Int32 → Option (Int32 × wd_Mem)) (μ : wd_Mem) : Nat → Int32 → Int32 → Int32 → Option (Int32 × wd_Mem)
  | 0, _, _, _ => none
  | n + 1, x1, x2, x3 => X8_heavy_c11 (X8_heavy_l11 k μ n) k μ x1 x2 x3
def X8_heavy_b116 (μ : wd_Mem) (x1 : Int32) : Option (Int32 × wd_Mem) :=
  some (x1, μ)
def X8_heavy_b0 (μ : wd_Mem) : Option (Int32 × wd_Mem) :=
  (X8_asIs μ).bind (fun r1 => X8_heavy_l11 (fun x1 => X8_heavy_b116 r1 x1) r1 wd_big (-9 : Int32) (0 : Int32) (0 : Int32))
def X8_heavy (μ : wd_Mem) : Option (Int32 × wd_Mem) := X8_heavy_b0 μ
def X8_count_b0 (μ : wd_Mem) (x1 : Int32) : Option (Int32 × wd_Mem) :=
  (if x1 = nI 0 then some ((μ 31 0), μ) else (if x1 = nI 1 then some ((μ 31 1), μ) else (if x1 = nI 2 then (X8_isBroken μ).bind (fun r1 => (if r1 = 0 then some ((0 : Int32), μ) else some ((1 : Int32), μ))) else (if x1 = nI 3 then (X8_countSchedules μ).bind (fun r3 => some (r3.1, r3.2)) else (if x1 = nI 4 then (X8_shortest μ).bind (fun r4 => some (r4.1, r4.2)) else (if x1 = nI 5 then (X8_heavy μ).bind (fun r5 => some (r5.1, r5.2)) else (if x1 = nI 6 then (X8_energy μ (X8_all μ)).bind (fun r6 => some (r6, μ)) else (if x1 = nI 7 then some ((μ 31 10), μ) else (if x1 = nI 8 then some ((μ 31 5), μ) else some ((-1 : Int32), μ))))))))))
def X8_count (μ : wd_Mem) (x1 : Int32) : Option (Int32 × wd_Mem) := X8_count_b0 μ x1

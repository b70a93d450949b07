def b_L_law_2453 (N sn : Nat) (sx : Nat → Int32) (k23 : Int32 → am_S → Option am_S) (l4 : Int32) (S : am_S) : Option am_S := k23 (l4 + 6) S
def b_L_law_c0 (N sn : Nat) (sx : Nat → Int32) (k23 : Int32 → am_S → Option am_S) (l4 : Int32) (S : am_S) : Option am_S := (if inb (l4 + 1) sn = true then (if inb (l4 + 2) sn = true then (if inb (l4 + 3) sn = true then (if inb (l4 + 4) sn = true then (if inb (l4 + 5) sn = true then (bd (f_X9_feed N 0 (sx (Int32.toNatClampNeg (l4 + 1))) (sx (Int32.toNatClampNeg (l4 + 2))) (sx (Int32.toNatClampNeg (l4 + 3))) (sx (Int32.toNatClampNeg (l4 + 4))) (sx (Int32.toNatClampNeg (l4 + 5))) S) (fun r6 S7 => (if inb (l4 + 1) sn = true then (if inb (l4 + 2) sn = true then (if inb (l4 + 3) sn = true then (if inb (l4 + 4) sn = true then (if inb (l4 + 5) sn = true then (bd (f_X10_feed N 78 (sx (Int32.toNatClampNeg (l4 + 1))) (sx (Int32.toNatClampNeg (l4 + 2))) (sx (Int32.toNatClampNeg (l4 + 3))) (sx (Int32.toNatClampNeg (l4 + 4))) (sx (Int32.toNatClampNeg (l4 + 5))) S7) (fun r14 S15 => (if r6 = r14 then b_L_law_2453 N sn sx k23 l4 S15 else none))) else none) else none) else none) else none) else none))) else none) else none) else none) else none) else none)
def b_L_law_c1 (N sn : Nat) (sx : Nat → Int32) (k23 : Int32 → am_S → Option am_S) (l4 : Int32) (S : am_S) : Option am_S := (if inb (l4 + 1) sn = true then (bd (f_L_city N 0 (sx (Int32.toNatClampNeg (l4 + 1))) 108 S) (fun r2 S3 => (if inb (l4 + 1) sn = true then (bd (f_X10_city N 78 (sx (Int32.toNatClampNeg (l4 + 1))) S3) (fun r6 S7 => (bd (f_X10_thrown N 78 S7) (fun r9 S10 => (if r9 = r2 then (if r2 = 0 then (if inb 0 (ln 108) = true then (if (lg_cmp (lg S10 (108 + Int32.toNatClampNeg 0)) (Int32.toInt64 r6)) = 0 then b_L_law_2453 N sn sx k23 l4 S10 else none) else none) else b_L_law_2453 N sn sx k23 l4 S10) else none))))) else none))) else none)
def b_L_law_c2 (N sn : Nat) (sx : Nat → Int32) (k23 : Int32 → am_S → Option am_S) (l4 : Int32) (S : am_S) : Option am_S := (bd (f_X9_fault N 0 S) (fun r1 S2 => (bd (f_X10_fault N 78 S2) (fun r4 S5 => (if r1 = r4 then b_L_law_2453 N sn sx k23 l4 S5 else none)))))
def b_L_law_c3 (N sn : Nat) (sx : Nat → Int32) (k23 : Int32 → am_S → Option am_S) (l4 : Int32) (S : am_S) : Option am_S := (if inb (l4 + 1) sn = true then (bd (f_L_count N 0 (sx (Int32.toNatClampNeg (l4 + 1))) 108 S) (fun r2 S3 => (if inb (l4 + 1) sn = true then (bd (f_X10_count N 78 (sx (Int32.toNatClampNeg (l4 + 1))) S3) (fun r6 S7 => (bd (f_X10_thrown N 78 S7) (fun r9 S10 => (if r9 = r2 then (if r2 = 0 then (if inb 0 (ln 108) = true then (if (lg_cmp (lg S10 (108 + Int32.toNatClampNeg 0)) (Int32.toInt64 r6)) = 0 then b_L_law_2453 N sn sx k23 l4 S10 else none) else none) else b_L_law_2453 N sn sx k23 l4 S10) else none))))) else none))) else none)
def b_L_law_c4 (N sn : Nat) (sx : Nat → Int32) (k23 : Int32 → am_S → Option am_S) (l4 : Int32) (S : am_S) : Option am_S := (if inb (l4 + 1) sn = true then (if inb (l4 + 2) sn = true then (bd (f_L_box N 0 (sx (Int32.toNatClampNeg (l4 + 1))) (sx (Int32.toNatClampNeg (l4 + 2))) 108 S) (fun r3 S4 => (if inb (l4 + 1) sn = true then (if inb (l4 + 2) sn = true then (bd (f_X10_box N 78 (sx (Int32.toNatClampNeg (l4 + 1))) (sx (Int32.toNatClampNeg (l4 + 2))) S4) (fun r8 S9 => (bd (f_X10_thrown N 78 S9) (fun r11 S12 => (if r11 = r3 then (if r3 = 0 then (if inb 0 (ln 108) = true then (if (lg_cmp (lg S12 (108 + Int32.toNatClampNeg 0)) (Int32.toInt64 r8)) = 0 then b_L_law_2453 N sn sx k23 l4 S12 else none) else none) else b_L_law_2453 N sn sx k23 l4 S12) else none))))) else none) else none))) else none) else none)
def b_L_law_c5 (N sn : Nat) (sx : Nat → Int32) (k23 : Int32 → am_S → Option am_S) (l4 : Int32) (S : am_S) : Option am_S := (if inb (l4 + 1) sn = true then (if inb (l4 + 2) sn = true then (bd (f_L_person N 0 (sx (Int32.toNatClampNeg (l4 + 1))) (sx (Int32.toNatClampNeg (l4 + 2))) 108 S) (fun r3 S4 => (if inb (l4 + 1) sn = true then (if inb (l4 + 2) sn = true then (bd (f_X10_person N 78 (sx (Int32.toNatClampNeg (l4 + 1))) (sx (Int32.toNatClampNeg (l4 + 2))) S4) (fun r8 S9 => (bd (f_X10_thrown N 78 S9) (fun r11 S12 => (if r11 = r3 then (if r3 = 0 then (if inb 0 (ln 108) = true then (if (lg_cmp (lg S12 (108 + Int32.toNatClampNeg 0)) (Int32.toInt64 r8)) = 0 then b_L_law_2453 N sn sx k23 l4 S12 else none) else none) else b_L_law_2453 N sn sx k23 l4 S12) else none))))) else none) else none))) else none) else none)
def b_L_law_c6 (N sn : Nat) (sx : Nat → Int32) (k23 : Int32 → am_S → Option am_S) (l4 : Int32) (S : am_S) : Option am_S := (if inb (l4 + 1) sn = true then (if inb (l4 + 2) sn = true then (bd (f_L_held N 0 (sx (Int32.toNatClampNeg (l4 + 1))) (sx (Int32.toNatClampNeg (l4 + 2))) 108 S) (fun r3 S4 => (if inb (l4 + 1) sn = true then (if inb (l4 + 2) sn = true then (bd (f_X10_held N 78 (sx (Int32.toNatClampNeg (l4 + 1))) (sx (Int32.toNatClampNeg (l4 + 2))) S4) (fun r8 S9 => (bd (f_X10_thrown N 78 S9) (fun r11 S12 => (if r11 = r3 then (if r3 = 0 then (if inb 0 (ln 108) = true then (if (lg_cmp (lg S12 (108 + Int32.toNatClampNeg 0)) (Int32.toInt64 r8)) = 0 then b_L_law_2453 N sn sx k23 l4 S12 else none) else none) else b_L_law_2453 N sn sx k23 l4 S12) else none))))) else none) else none))) else none) else none)
def b_L_law_c7 (N sn : Nat) (sx : Nat → Int32) (k23 : Int32 → am_S → Option am_S) (l4 : Int32) (S : am_S) : Option am_S := (if inb (l4 + 1) sn = true then (bd (f_X9_days N 0 (sx (Int32.toNatClampNeg (l4 + 1))) S) (fun r2 S3 => (if inb (l4 + 1) sn = true then (bd (f_X10_days N 78 (sx (Int32.toNatClampNeg (l4 + 1))) S3) (fun r6 S7 => (if r2 = r6 then b_L_law_2453 N sn sx k23 l4 S7 else none))) else none))) else none)
def b_L_law_c8 (N sn : Nat) (sx : Nat → Int32) (k23 : Int32 → am_S → Option am_S) (l4 : Int32) (S : am_S) : Option am_S := (if inb (l4 + 1) sn = true then (bd (f_L_write N 0 (sx (Int32.toNatClampNeg (l4 + 1))) 108 S) (fun r2 S3 => (if inb (l4 + 1) sn = true then (bd (f_X10_write N 78 (sx (Int32.toNatClampNeg (l4 + 1))) S3) (fun r6 S7 => (bd (f_X10_thrown N 78 S7) (fun r9 S10 => (if r9 = r2 then (if r2 = 0 then (if inb 0 (ln 108) = true then (if (lg_cmp (lg S10 (108 + Int32.toNatClampNeg 0)) (Int32.toInt64 r6)) = 0 then b_L_law_2453 N sn sx k23 l4 S10 else none) else none) else b_L_law_2453 N sn sx k23 l4 S10) else none))))) else none))) else none)
def b_L_law_c9 (N sn : Nat) (sx : Nat → Int32) (k23 : Int32 → am_S → Option am_S) (l4 : Int32) (S : am_S) : Option am_S := (if inb (l4 + 1) sn = true then (bd (f_L_paint N 0 (sx (Int32.toNatClampNeg (l4 + 1))) 108 S) (fun r2 S3 => (if inb (l4 + 1) sn = true then (bd (f_X10_paint N 78 (sx (Int32.toNatClampNeg (l4 + 1))) S3) (fun r6 S7 => (bd (f_X10_thrown N 78 S7) (fun r9 S10 => (if r9 = r2 then (if r2 = 0 then (if inb 0 (ln 108) = true then (if (lg_cmp (lg S10 (108 + Int32.toNatClampNeg 0)) (Int32.toInt64 r6)) = 0 then b_L_law_2453 N sn sx k23 l4 S10 else none) else none) else b_L_law_2453 N sn sx k23 l4 S10) else none))))) else none))) else none)
def b_L_law_c10 (N sn : Nat) (sx : Nat → Int32) (k23 : Int32 → am_S → Option am_S) (l4 : Int32) (S : am_S) : Option am_S := (if inb (l4 + 1) sn = true then (if inb (l4 + 2) sn = true then (bd (f_L_turn N 0 (sx (Int32.toNatClampNeg (l4 + 1))) (sx (Int32.toNatClampNeg (l4 + 2))) 108 S) (fun r3 S4 => (if inb (l4 + 1) sn = true then (if inb (l4 + 2) sn = true then (bd (f_X10_turn N 78 (sx (Int32.toNatClampNeg (l4 + 1))) (sx (Int32.toNatClampNeg (l4 + 2))) S4) (fun r8 S9 => (bd (f_X10_thrown N 78 S9) (fun r11 S12 => (if r11 = r3 then (if r3 = 0 then (if inb 0 (ln 108) = true then (if (lg_cmp (lg S12 (108 + Int32.toNatClampNeg 0)) (Int32.toInt64 r8)) = 0 then b_L_law_2453 N sn sx k23 l4 S12 else none) else none) else b_L_law_2453 N sn sx k23 l4 S12) else none))))) else none) else none))) else none) else none)
def b_L_law_c11 (N sn : Nat) (sx : Nat → Int32) (k23 : Int32 → am_S → Option am_S) (l4 : Int32) (S : am_S) : Option am_S := (if inb (l4 + 1) sn = true then (if (sx (Int32.toNatClampNeg (l4 + 1))) = 0 then (bd (f_X9_strike N 0 0 S) (fun r3 S4 => (if inb (l4 + 1) sn = true then (if (sx (Int32.toNatClampNeg (l4 + 1))) = 0 then (bd (f_X10_strike N 78 0 S4) (fun r8 S9 => (if r3 = r8 then b_L_law_2453 N sn sx k23 l4 S9 else none))) else (bd (f_X10_strike N 78 1 S4) (fun r12 S13 => (if r3 = r12 then b_L_law_2453 N sn sx k23 l4 S13 else none)))) else none))) else (bd (f_X9_strike N 0 1 S) (fun r16 S17 => (if inb (l4 + 1) sn = true then (if (sx (Int32.toNatClampNeg (l4 + 1))) = 0 then (bd (f_X10_strike N 78 0 S17) (fun r21 S22 => (if r16 = r21 then b_L_law_2453 N sn sx k23 l4 S22 else none))) else (bd (f_X10_strike N 78 1 S17) (fun r25 S26 => (if r16 = r25 then b_L_law_2453 N sn sx k23 l4 S26 else none)))) else none)))) else none)
def b_L_law_c12 (N sn : Nat) (sx : Nat → Int32) (k23 : Int32 → am_S → Option am_S) (l4 : Int32) (S : am_S) : Option am_S := (bd (f_X9_undo N 0 S) (fun r1 S2 => (bd (f_X10_undo N 78 S2) (fun r4 S5 => (if r1 = r4 then b_L_law_2453 N sn sx k23 l4 S5 else none)))))
def b_L_law_c13 (N sn : Nat) (sx : Nat → Int32) (k23 : Int32 → am_S → Option am_S) (l4 : Int32) (S : am_S) : Option am_S := (if inb (l4 + 1) sn = true then (if inb (l4 + 2) sn = true then (if inb (l4 + 3) sn = true then (bd (f_L_then N 0 (sx (Int32.toNatClampNeg (l4 + 1))) (sx (Int32.toNatClampNeg (l4 + 2))) (sx (Int32.toNatClampNeg (l4 + 3))) 108 S) (fun r4 S5 => (if inb (l4 + 1) sn = true then (if inb (l4 + 2) sn = true then (if inb (l4 + 3) sn = true then (bd (f_X10_then N 78 (sx (Int32.toNatClampNeg (l4 + 1))) (sx (Int32.toNatClampNeg (l4 + 2))) (sx (Int32.toNatClampNeg (l4 + 3))) S5) (fun r10 S11 => (bd (f_X10_thrown N 78 S11) (fun r13 S14 => (if r13 = r4 then (if r4 = 0 then (if inb 0 (ln 108) = true then (if (lg_cmp (lg S14 (108 + Int32.toNatClampNeg 0)) (Int32.toInt64 r10)) = 0 then b_L_law_2453 N sn sx k23 l4 S14 else none) else none) else b_L_law_2453 N sn sx k23 l4 S14) else none))))) else none) else none) else none))) else none) else none) else none)
def b_L_law_c14 (N sn : Nat) (sx : Nat → Int32) (k23 : Int32 → am_S → Option am_S) (l4 : Int32) (S : am_S) : Option am_S := (if inb (l4 + 1) sn = true then (if inb (l4 + 2) sn = true then (if inb (l4 + 3) sn = true then (bd (f_L_later N 0 (sx (Int32.toNatClampNeg (l4 + 1))) (sx (Int32.toNatClampNeg (l4 + 2))) (sx (Int32.toNatClampNeg (l4 + 3))) 108 S) (fun r4 S5 => (if inb (l4 + 1) sn = true then (if inb (l4 + 2) sn = true then (if inb (l4 + 3) sn = true then (bd (f_X10_later N 78 (sx (Int32.toNatClampNeg (l4 + 1))) (sx (Int32.toNatClampNeg (l4 + 2))) (sx (Int32.toNatClampNeg (l4 + 3))) S5) (fun r10 S11 => (bd (f_X10_thrown N 78 S11) (fun r13 S14 => (if r13 = r4 then (if r4 = 0 then (if inb 0 (ln 108) = true then (if (lg_cmp (lg S14 (108 + Int32.toNatClampNeg 0)) (Int32.toInt64 r10)) = 0 then b_L_law_2453 N sn sx k23 l4 S14 else none) else none) else b_L_law_2453 N sn sx k23 l4 S14) else none))))) else none) else none) else none))) else none) else none) else none)
def b_L_law_c15 (N sn : Nat) (sx : Nat → Int32) (k23 : Int32 → am_S → Option am_S) (l4 : Int32) (S : am_S) : Option am_S := (if inb (l4 + 1) sn = true then (bd (f_L_first N 0 (sx (Int32.toNatClampNeg (l4 + 1))) 108 S) (fun r2 S3 => (if inb (l4 + 1) sn = true then (bd (f_X10_first N 78 (sx (Int32.toNatClampNeg (l4 + 1))) S3) (fun r6 S7 => (bd (f_X10_thrown N 78 S7) (fun r9 S10 => (if r9 = r2 then (if r2 = 0 then (if inb 0 (ln 108) = true then (if (lg_cmp (lg S10 (108 + Int32.toNatClampNeg 0)) (Int32.toInt64 r6)) = 0 then b_L_law_2453 N sn sx k23 l4 S10 else none) else none) else b_L_law_2453 N sn sx k23 l4 S10) else none))))) else none))) else none)
def b_L_law_c16 (N sn : Nat) (sx : Nat → Int32) (k23 : Int32 → am_S → Option am_S) (l4 : Int32) (S : am_S) : Option am_S := (if inb (l4 + 1) sn = true then (if inb (l4 + 2) sn = true then (bd (f_L_full N 0 (sx (Int32.toNatClampNeg (l4 + 1))) (sx (Int32.toNatClampNeg (l4 + 2))) 108 S) (fun r3 S4 => (if inb (l4 + 1) sn = true then (if inb (l4 + 2) sn = true then (bd (f_X10_full N 78 (sx (Int32.toNatClampNeg (l4 + 1))) (sx (Int32.toNatClampNeg (l4 + 2))) S4) (fun r8 S9 => (bd (f_X10_thrown N 78 S9) (fun r11 S12 => (if r11 = r3 then (if r3 = 0 then (if inb 0 (ln 108) = true then (if (lg_cmp (lg S12 (108 + Int32.toNatClampNeg 0)) (Int32.toInt64 r8)) = 0 then b_L_law_2453 N sn sx k23 l4 S12 else none) else none) else b_L_law_2453 N sn sx k23 l4 S12) else none))))) else none) else none))) else none) else none)
def b_L_law_c17 (N sn : Nat) (sx : Nat → Int32) (k23 : Int32 → am_S → Option am_S) (l4 : Int32) (S : am_S) : Option am_S := (if inb (l4 + 1) sn = true then (if inb (l4 + 2) sn = true then (bd (f_L_most N 0 (sx (Int32.toNatClampNeg (l4 + 1))) (sx (Int32.toNatClampNeg (l4 + 2))) 108 S) (fun r3 S4 => (if inb (l4 + 1) sn = true then (if inb (l4 + 2) sn = true then (bd (f_X10_most N 78 (sx (Int32.toNatClampNeg (l4 + 1))) (sx (Int32.toNatClampNeg (l4 + 2))) S4) (fun r8 S9 => (bd (f_X10_thrown N 78 S9) (fun r11 S12 => (if r11 = r3 then (if r3 = 0 then (if inb 0 (ln 108) = true then (if (lg_cmp (lg S12 (108 + Int32.toNatClampNeg 0)) (Int32.toInt64 r8)) = 0 then b_L_law_2453 N sn sx k23 l4 S12 else none) else none) else b_L_law_2453 N sn sx k23 l4 S12) else none))))) else none) else none))) else none) else none)
def b_L_law_c18 (N sn : Nat) (sx : Nat → Int32) (k23 : Int32 → am_S → Option am_S) (l4 : Int32) (S : am_S) : Option am_S := (if inb (l4 + 1) sn = true then (bd (f_L_ring N 0 (sx (Int32.toNatClampNeg (l4 + 1))) 108 S) (fun r2 S3 => (if inb (l4 + 1) sn = true then (bd (f_X10_ring N 78 (sx (Int32.toNatClampNeg (l4 + 1))) S3) (fun r6 S7 => (bd (f_X10_thrown N 78 S7) (fun r9 S10 => (if r9 = r2 then (if r2 = 0 then (if inb 0 (ln 108) = true then (if (lg_cmp (lg S10 (108 + Int32.toNatClampNeg 0)) (Int32.toInt64 r6)) = 0 then b_L_law_2453 N sn sx k23 l4 S10 else none) else none) else b_L_law_2453 N sn sx k23 l4 S10) else none))))) else none))) else none)
def b_L_law_c19 (N sn : Nat) (sx : Nat → Int32) (k23 : Int32 → am_S → Option am_S) (l4 : Int32) (S : am_S) : Option am_S := (if inb (l4 + 1) sn = true then (bd (f_L_comesTo N 0 (sx (Int32.toNatClampNeg (l4 + 1))) 108 S) (fun r2 S3 => (if inb (l4 + 1) sn = true then (bd (f_X10_comesTo N 78 (sx (Int32.toNatClampNeg (l4 + 1))) S3) (fun r6 S7 => (bd (f_X10_thrown N 78 S7) (fun r9 S10 => (if r9 = r2 then (if r2 = 0 then (if inb 0 (ln 108) = true then (if (lg_cmp (lg S10 (108 + Int32.toNatClampNeg 0)) (Int32.toInt64 r6)) = 0 then b_L_law_2453 N sn sx k23 l4 S10 else none) else none) else b_L_law_2453 N sn sx k23 l4 S10) else none))))) else none))) else none)
def b_L_law_c20 (N sn : Nat) (sx : Nat → Int32) (k23 : Int32 → am_S → Option am_S) (l4 : Int32) (S : am_S) : Option am_S := (if inb (l4 + 1) sn = true then (bd (f_L_toCover N 0 (sx (Int32.toNatClampNeg (l4 + 1))) 108 S) (fun r2 S3 => (if inb (l4 + 1) sn = true then (bd (f_X10_toCover N 78 (sx (Int32.toNatClampNeg (l4 + 1))) S3) (fun r6 S7 => (bd (f_X10_thrown N 78 S7) (fun r9 S10 => (if r9 = r2 then (if r2 = 0 then (if inb 0 (ln 108) = true then (if (lg_cmp (lg S10 (108 + Int32.toNatClampNeg 0)) (Int32.toInt64 r6)) = 0 then b_L_law_2453 N sn sx k23 l4 S10 else none) else none) else b_L_law_2453 N sn sx k23 l4 S10) else none))))) else none))) else none)
def b_L_law_c21 (N sn : Nat) (sx : Nat → Int32) (k23 : Int32 → am_S → Option am_S) (l4 : Int32) (S : am_S) : Option am_S := (if inb (l4 + 1) sn = true then (bd (f_L_oneMore N 0 (sx (Int32.toNatClampNeg (l4 + 1))) 108 S) (fun r2 S3 => (if inb (l4 + 1) sn = true then (bd (f_X10_oneMore N 78 (sx (Int32.toNatClampNeg (l4 + 1))) S3) (fun r6 S7 => (bd (f_X10_thrown N 78 S7) (fun r9 S10 => (if r9 = r2 then (if r2 = 0 then (if inb 0 (ln 108) = true then (if (lg_cmp (lg S10 (108 + Int32.toNatClampNeg 0)) (Int32.toInt64 r6)) = 0 then b_L_law_2453 N sn sx k23 l4 S10 else none) else none) else b_L_law_2453 N sn sx k23 l4 S10) else none))))) else none))) else none)
def b_L_law_c22 (N sn : Nat) (sx : Nat → Int32) (k23 : Int32 → am_S → Option am_S) (l4 : Int32) (S : am_S) : Option am_S := (if inb (l4 + 1) sn = true then (bd (f_L_order N 0 (sx (Int32.toNatClampNeg (l4 + 1))) 108 S) (fun r2 S3 => (if inb (l4 + 1) sn = true then (bd (f_X10_order N 78 (sx (Int32.toNatClampNeg (l4 + 1))) S3) (fun r6 S7 => (bd (f_X10_thrown N 78 S7) (fun r9 S10 => (if r9 = r2 then (if r2 = 0 then (if inb 0 (ln 108) = true then (if (lg_cmp (lg S10 (108 + Int32.toNatClampNeg 0)) (Int32.toInt64 r6)) = 0 then b_L_law_2453 N sn sx k23 l4 S10 else none) else none) else b_L_law_2453 N sn sx k23 l4 S10) else none))))) else none))) else none)
def b_L_law_c23 (N sn : Nat) (sx : Nat → Int32) (k23 : Int32 → am_S → Option am_S) (l4 : Int32) (S : am_S) : Option am_S := (if inb (l4 + 1) sn = true then (if inb (l4 + 2) sn = true then (if inb (l4 + 3) sn = true then (bd (f_L_note N 0 (sx (Int32.toNatClampNeg (l4 + 1))) (sx (Int32.toNatClampNeg (l4 + 2))) (sx (Int32.toNatClampNeg (l4 + 3))) 108 S) (fun r4 S5 => (if inb (l4 + 1) sn = true then (if inb (l4 + 2) sn = true then (if inb (l4 + 3) sn = true then (bd (f_X10_note N 78 (sx (Int32.toNatClampNeg (l4 + 1))) (sx (Int32.toNatClampNeg (l4 + 2))) (sx (Int32.toNatClampNeg (l4 + 3))) S5) (fun r10 S11 => (bd (f_X10_thrown N 78 S11) (fun r13 S14 => (if r13 = r4 then (if r4 = 0 then (if inb 0 (ln 108) = true then (if (lg_cmp (lg S14 (108 + Int32.toNatClampNeg 0)) (Int32.toInt64 r10)) = 0 then b_L_law_2453 N sn sx k23 l4 S14 else none) else none) else b_L_law_2453 N sn sx k23 l4 S14) else none))))) else none) else none) else none))) else none) else none) else none)
def b_L_law_c24 (N sn : Nat) (sx : Nat → Int32) (k23 : Int32 → am_S → Option am_S) (l4 : Int32) (S : am_S) : Option am_S := (bv (f_X9_forget N 0 S) (fun S2 => (bv (f_X10_forget N 78 S2) (fun S5 => b_L_law_2453 N sn sx k23 l4 S5))))
def b_L_law_c25 (N sn : Nat) (sx : Nat → Int32) (k23 : Int32 → am_S → Option am_S) (l4 : Int32) (S : am_S) : Option am_S := (if inb (l4 + 1) sn = true then (bd (f_L_thought N 0 (sx (Int32.toNatClampNeg (l4 + 1))) 108 S) (fun r2 S3 => (if inb (l4 + 1) sn = true then (bd (f_X10_thought N 78 (sx (Int32.toNatClampNeg (l4 + 1))) S3) (fun r6 S7 => (bd (f_X10_thrown N 78 S7) (fun r9 S10 => (if r9 = r2 then (if r2 = 0 then (if inb 0 (ln 108) = true then (if (lg_cmp (lg S10 (108 + Int32.toNatClampNeg 0)) (Int32.toInt64 r6)) = 0 then b_L_law_2453 N sn sx k23 l4 S10 else none) else none) else b_L_law_2453 N sn sx k23 l4 S10) else none))))) else none))) else none)
def b_L_law_c26 (N sn : Nat) (sx : Nat → Int32) (k23 : Int32 → am_S → Option am_S) (l4 : Int32) (S : am_S) : Option am_S := (if inb (l4 + 1) sn = true then (bd (f_L_ask N 0 (sx (Int32.toNatClampNeg (l4 + 1))) 108 S) (fun r2 S3 => (if inb (l4 + 1) sn = true then (bd (f_X10_ask N 78 (sx (Int32.toNatClampNeg (l4 + 1))) S3) (fun r6 S7 => (bd (f_X10_thrown N 78 S7) (fun r9 S10 => (if r9 = r2 then (if r2 = 0 then (if inb 0 (ln 108) = true then (if (lg_cmp (lg S10 (108 + Int32.toNatClampNeg 0)) (Int32.toInt64 r6)) = 0 then b_L_law_2453 N sn sx k23 l4 S10 else none) else none) else b_L_law_2453 N sn sx k23 l4 S10) else none))))) else none))) else none)
def b_L_law_c27 (N sn : Nat) (sx : Nat → Int32) (k23 : Int32 → am_S → Option am_S) (l4 : Int32) (S : am_S) : Option am_S := (if inb (l4 + 1) sn = true then (if inb (l4 + 2) sn = true then (if inb (l4 + 3) sn = true then (if inb (l4 + 4) sn = true then (bd (f_L_wetNights N 0 (sx (Int32.toNatClampNeg (l4 + 1))) (sx (Int32.toNatClampNeg (l4 + 2))) (sx (Int32.toNatClampNeg (l4 + 3))) (sx (Int32.toNatClampNeg (l4 + 4))) 108 S) (fun r5 S6 => (if inb (l4 + 1) sn = true then (if inb (l4 + 2) sn = true then (if inb (l4 + 3) sn = true then (if inb (l4 + 4) sn = true then (bd (f_X10_wetNights N 78 (sx (Int32.toNatClampNeg (l4 + 1))) (sx (Int32.toNatClampNeg (l4 + 2))) (sx (Int32.toNatClampNeg (l4 + 3))) (sx (Int32.toNatClampNeg (l4 + 4))) S6) (fun r12 S13 => (bd (f_X10_thrown N 78 S13) (fun r15 S16 => (if r15 = r5 then (if r5 = 0 then (if inb 0 (ln 108) = true then (if (lg_cmp (lg S16 (108 + Int32.toNatClampNeg 0)) (Int32.toInt64 r12)) = 0 then b_L_law_2453 N sn sx k23 l4 S16 else none) else none) else b_L_law_2453 N sn sx k23 l4 S16) else none))))) else none) else none) else none) else none))) else none) else none) else none) else none)
def b_L_law_c28 (N sn : Nat) (sx : Nat → Int32) (k23 : Int32 → am_S → Option am_S) (l4 : Int32) (S : am_S) : Option am_S := (if inb (l4 + 1) sn = true then (if inb (l4 + 2) sn = true then (if inb (l4 + 3) sn = true then (bd (f_L_game N 0 (sx (Int32.toNatClampNeg (l4 + 1))) (sx (Int32.toNatClampNeg (l4 + 2))) (sx (Int32.toNatClampNeg (l4 + 3))) 108 S) (fun r4 S5 => (if inb (l4 + 1) sn = true then (if inb (l4 + 2) sn = true then (if inb (l4 + 3) sn = true then (bd (f_X10_game N 78 (sx (Int32.toNatClampNeg (l4 + 1))) (sx (Int32.toNatClampNeg (l4 + 2))) (sx (Int32.toNatClampNeg (l4 + 3))) S5) (fun r10 S11 => (bd (f_X10_thrown N 78 S11) (fun r13 S14 => (if r13 = r4 then (if r4 = 0 then (if inb 0 (ln 108) = true then (if (lg_cmp (lg S14 (108 + Int32.toNatClampNeg 0)) (Int32.toInt64 r10)) = 0 then b_L_law_2453 N sn sx k23 l4 S14 else none) else none) else b_L_law_2453 N sn sx k23 l4 S14) else none))))) else none) else none) else none))) else none) else none) else none)
def b_L_law_c29 (N sn : Nat) (sx : Nat → Int32) (k23 : Int32 → am_S → Option am_S) (l4 : Int32) (S : am_S) : Option am_S := (if inb (l4 + 1) sn = true then (if inb (l4 + 2) sn = true then (if inb (l4 + 3) sn = true then (bd (f_L_years N 0 (sx (Int32.toNatClampNeg (l4 + 1))) (sx (Int32.toNatClampNeg (l4 + 2))) (sx (Int32.toNatClampNeg (l4 + 3))) 108 S) (fun r4 S5 => (if inb (l4 + 1) sn = true then (if inb (l4 + 2) sn = true then (if inb (l4 + 3) sn = true then (bd (f_X10_years N 78 (sx (Int32.toNatClampNeg (l4 + 1))) (sx (Int32.toNatClampNeg (l4 + 2))) (sx (Int32.toNatClampNeg (l4 + 3))) S5) (fun r10 S11 => (bd (f_X10_thrown N 78 S11) (fun r13 S14 => (if r13 = r4 then (if r4 = 0 then (if inb 0 (ln 108) = true then (if (lg_cmp (lg S14 (108 + Int32.toNatClampNeg 0)) (Int32.toInt64 r10)) = 0 then b_L_law_2453 N sn sx k23 l4 S14 else none) else none) else b_L_law_2453 N sn sx k23 l4 S14) else none))))) else none) else none) else none))) else none) else none) else none)
def b_L_law_c30 (N sn : Nat) (sx : Nat → Int32) (k23 : Int32 → am_S → Option am_S) (l4 : Int32) (S : am_S) : Option am_S := (if inb (l4 + 1) sn = true then (if inb (l4 + 2) sn = true then (bd (f_L_pale N 0 (sx (Int32.toNatClampNeg (l4 + 1))) (sx (Int32.toNatClampNeg (l4 + 2))) 108 S) (fun r3 S4 => (if inb (l4 + 1) sn = true then (if inb (l4 + 2) sn = true then (bd (f_X10_pale N 78 (sx (Int32.toNatClampNeg (l4 + 1))) (sx (Int32.toNatClampNeg (l4 + 2))) S4) (fun r8 S9 => (bd (f_X10_thrown N 78 S9) (fun r11 S12 => (if r11 = r3 then (if r3 = 0 then (if inb 0 (ln 108) = true then (if (lg_cmp (lg S12 (108 + Int32.toNatClampNeg 0)) (Int32.toInt64 r8)) = 0 then b_L_law_2453 N sn sx k23 l4 S12 else none) else none) else b_L_law_2453 N sn sx k23 l4 S12) else none))))) else none) else none))) else none) else none)
def b_L_law_c31 (N sn : Nat) (sx : Nat → Int32) (k23 : Int32 → am_S → Option am_S) (l4 : Int32) (S : am_S) : Option am_S := (if inb (l4 + 1) sn = true then (if inb (l4 + 2) sn = true then (bd (f_L_visits N 0 (sx (Int32.toNatClampNeg (l4 + 1))) (sx (Int32.toNatClampNeg (l4 + 2))) 108 S) (fun r3 S4 => (if inb (l4 + 1) sn = true then (if inb (l4 + 2) sn = true then (bd (f_X10_visits N 78 (sx (Int32.toNatClampNeg (l4 + 1))) (sx (Int32.toNatClampNeg (l4 + 2))) S4) (fun r8 S9 => (bd (f_X10_thrown N 78 S9) (fun r11 S12 => (if r11 = r3 then (if r3 = 0 then (if inb 0 (ln 108) = true then (if (lg_cmp (lg S12 (108 + Int32.toNatClampNeg 0)) (Int32.toInt64 r8)) = 0 then b_L_law_2453 N sn sx k23 l4 S12 else none) else none) else b_L_law_2453 N sn sx k23 l4 S12) else none))))) else none) else none))) else none) else none)
def b_L_law_c32 (N sn : Nat) (sx : Nat → Int32) (k23 : Int32 → am_S → Option am_S) (l4 : Int32) (S : am_S) : Option am_S := (if inb (l4 + 1) sn = true then (if inb (l4 + 2) sn = true then (bd (f_L_steps N 0 (sx (Int32.toNatClampNeg (l4 + 1))) (sx (Int32.toNatClampNeg (l4 + 2))) 108 S) (fun r3 S4 => (if inb (l4 + 1) sn = true then (if inb (l4 + 2) sn = true then (bd (f_X10_steps N 78 (sx (Int32.toNatClampNeg (l4 + 1))) (sx (Int32.toNatClampNeg (l4 + 2))) S4) (fun r8 S9 => (bd (f_X10_thrown N 78 S9) (fun r11 S12 => (if r11 = r3 then (if r3 = 0 then (if inb 0 (ln 108) = true then (if (lg_cmp (lg S12 (108 + Int32.toNatClampNeg 0)) (Int32.toInt64 r8)) = 0 then b_L_law_2453 N sn sx k23 l4 S12 else none) else none) else b_L_law_2453 N sn sx k23 l4 S12) else none))))) else none) else none))) else none) else none)
def b_L_law_c33 (N sn : Nat) (sx : Nat → Int32) (k23 : Int32 → am_S → Option am_S) (l4 : Int32) (S : am_S) : Option am_S := (if inb (l4 + 1) sn = true then (if inb (l4 + 2) sn = true then (bd (f_L_quiet N 0 (sx (Int32.toNatClampNeg (l4 + 1))) (sx (Int32.toNatClampNeg (l4 + 2))) 108 S) (fun r3 S4 => (if inb (l4 + 1) sn = true then (if inb (l4 + 2) sn = true then (bd (f_X10_quiet N 78 (sx (Int32.toNatClampNeg (l4 + 1))) (sx (Int32.toNatClampNeg (l4 + 2))) S4) (fun r8 S9 => (bd (f_X10_thrown N 78 S9) (fun r11 S12 => (if r11 = r3 then (if r3 = 0 then (if inb 0 (ln 108) = true then (if (lg_cmp (lg S12 (108 + Int32.toNatClampNeg 0)) (Int32.toInt64 r8)) = 0 then b_L_law_2453 N sn sx k23 l4 S12 else none) else none) else b_L_law_2453 N sn sx k23 l4 S12) else none))))) else none) else none))) else none) else none)
def b_L_law_c34 (N sn : Nat) (sx : Nat → Int32) (k23 : Int32 → am_S → Option am_S) (l4 : Int32) (S : am_S) : Option am_S := (bd (f_X9_middle N 0 S) (fun r1 S2 => (bd (f_X10_middle N 78 S2) (fun r4 S5 => (if r1 = r4 then b_L_law_2453 N sn sx k23 l4 S5 else none)))))
def b_L_law_c35 (N sn : Nat) (sx : Nat → Int32) (k23 : Int32 → am_S → Option am_S) (l4 : Int32) (S : am_S) : Option am_S := (if inb (l4 + 1) sn = true then (if inb (l4 + 2) sn = true then (bd (f_L_bestAt N 0 (sx (Int32.toNatClampNeg (l4 + 1))) (sx (Int32.toNatClampNeg (l4 + 2))) 108 S) (fun r3 S4 => (if inb (l4 + 1) sn = true then (if inb (l4 + 2) sn = true then (bd (f_X10_bestAt N 78 (sx (Int32.toNatClampNeg (l4 + 1))) (sx (Int32.toNatClampNeg (l4 + 2))) S4) (fun r8 S9 => (bd (f_X10_thrown N 78 S9) (fun r11 S12 => (if r11 = r3 then (if r3 = 0 then (if inb 0 (ln 108) = true then (if (lg_cmp (lg S12 (108 + Int32.toNatClampNeg 0)) (Int32.toInt64 r8)) = 0 then b_L_law_2453 N sn sx k23 l4 S12 else none) else none) else b_L_law_2453 N sn sx k23 l4 S12) else none))))) else none) else none))) else none) else none)
def b_L_law_c36 (N sn : Nat) (sx : Nat → Int32) (k23 : Int32 → am_S → Option am_S) (l4 : Int32) (S : am_S) : Option am_S := (if inb (l4 + 1) sn = true then (bd (f_L_reds N 0 (sx (Int32.toNatClampNeg (l4 + 1))) 108 S) (fun r2 S3 => (if inb (l4 + 1) sn = true then (bd (f_X10_reds N 78 (sx (Int32.toNatClampNeg (l4 + 1))) S3) (fun r6 S7 => (bd (f_X10_thrown N 78 S7) (fun r9 S10 => (if r9 = r2 then (if r2 = 0 then (if inb 0 (ln 108) = true then (if (lg_cmp (lg S10 (108 + Int32.toNatClampNeg 0)) (Int32.toInt64 r6)) = 0 then b_L_law_2453 N sn sx k23 l4 S10 else none) else none) else b_L_law_2453 N sn sx k23 l4 S10) else none))))) else none))) else none)
def b_L_law_c37 (N sn : Nat) (sx : Nat → Int32) (k23 : Int32 → am_S → Option am_S) (l4 : Int32) (S : am_S) : Option am_S := (if inb (l4 + 1) sn = true then (bd (f_L_whose N 0 (sx (Int32.toNatClampNeg (l4 + 1))) 108 S) (fun r2 S3 => (if inb (l4 + 1) sn = true then (bd (f_X10_whose N 78 (sx (Int32.toNatClampNeg (l4 + 1))) S3) (fun r6 S7 => (bd (f_X10_thrown N 78 S7) (fun r9 S10 => (if r9 = r2 then (if r2 = 0 then (if inb 0 (ln 108) = true then (if (lg_cmp (lg S10 (108 + Int32.toNatClampNeg 0)) (Int32.toInt64 r6)) = 0 then b_L_law_2453 N sn sx k23 l4 S10 else none) else none) else b_L_law_2453 N sn sx k23 l4 S10) else none))))) else none))) else none)
def b_L_law_c38 (N sn : Nat) (sx : Nat → Int32) (k23 : Int32 → am_S → Option am_S) (l4 : Int32) (S : am_S) : Option am_S := (bv (f_X9_image N 0 S) (fun S2 => (bv (f_X10_image N 78 S2) (fun S5 => b_L_law_2453 N sn sx k23 l4 S5))))
def b_L_law_c39 (N sn : Nat) (sx : Nat → Int32) (k23 : Int32 → am_S → Option am_S) (l4 : Int32) (S : am_S) : Option am_S := (bd (f_X9_restore N 0 S) (fun r1 S2 => (bd (f_X10_restore N 78 S2) (fun r4 S5 => (if r1 = r4 then b_L_law_2453 N sn sx k23 l4 S5 else none)))))
def b_L_law_23 (N sn : Nat) (sx : Nat → Int32) : Nat → Int32 → am_S → Option am_S
  | 0, _, _ => none
  | n + 1, l4, S => (if ((nI sn) - 6) < l4 then some S else (if inb l4 sn = true then (if ((sx (Int32.toNatClampNeg l4)) &&& 63) = 0 then b_L_law_c0 N sn sx (b_L_law_23 N sn sx n) l4 S else (if ((sx (Int32.toNatClampNeg l4)) &&& 63) = 1 then b_L_law_c1 N sn sx (b_L_law_23 N sn sx n) l4 S else (if ((sx (Int32.toNatClampNeg l4)) &&& 63) = 2 then b_L_law_c2 N sn sx (b_L_law_23 N sn sx n) l4 S else (if ((sx (Int32.toNatClampNeg l4)) &&& 63) = 3 then b_L_law_c3 N sn sx (b_L_law_23 N sn sx n) l4 S else (if ((sx (Int32.toNatClampNeg l4)) &&& 63) = 4 then b_L_law_c4 N sn sx (b_L_law_23 N sn sx n) l4 S else (if ((sx (Int32.toNatClampNeg l4)) &&& 63) = 5 then b_L_law_c5 N sn sx (b_L_law_23 N sn sx n) l4 S else (if ((sx (Int32.toNatClampNeg l4)) &&& 63) = 6 then b_L_law_c6 N sn sx (b_L_law_23 N sn sx n) l4 S else (if ((sx (Int32.toNatClampNeg l4)) &&& 63) = 7 then b_L_law_c7 N sn sx (b_L_law_23 N sn sx n) l4 S else (if ((sx (Int32.toNatClampNeg l4)) &&& 63) = 8 then b_L_law_c8 N sn sx (b_L_law_23 N sn sx n) l4 S else (if ((sx (Int32.toNatClampNeg l4)) &&& 63) = 9 then b_L_law_c9 N sn sx (b_L_law_23 N sn sx n) l4 S else (if ((sx (Int32.toNatClampNeg l4)) &&& 63) = 10 then b_L_law_c10 N sn sx (b_L_law_23 N sn sx n) l4 S else (if ((sx (Int32.toNatClampNeg l4)) &&& 63) = 11 then b_L_law_c11 N sn sx (b_L_law_23 N sn sx n) l4 S else (if ((sx (Int32.toNatClampNeg l4)) &&& 63) = 12 then b_L_law_c12 N sn sx (b_L_law_23 N sn sx n) l4 S else (if ((sx (Int32.toNatClampNeg l4)) &&& 63) = 13 then b_L_law_c13 N sn sx (b_L_law_23 N sn sx n) l4 S else (if ((sx (Int32.toNatClampNeg l4)) &&& 63) = 14 then b_L_law_c14 N sn sx (b_L_law_23 N sn sx n) l4 S else (if ((sx (Int32.toNatClampNeg l4)) &&& 63) = 15 then b_L_law_c15 N sn sx (b_L_law_23 N sn sx n) l4 S else (if ((sx (Int32.toNatClampNeg l4)) &&& 63) = 16 then b_L_law_c16 N sn sx (b_L_law_23 N sn sx n) l4 S else (if ((sx (Int32.toNatClampNeg l4)) &&& 63) = 17 then b_L_law_c17 N sn sx (b_L_law_23 N sn sx n) l4 S else (if ((sx (Int32.toNatClampNeg l4)) &&& 63) = 18 then b_L_law_c18 N sn sx (b_L_law_23 N sn sx n) l4 S else (if ((sx (Int32.toNatClampNeg l4)) &&& 63) = 19 then b_L_law_c19 N sn sx (b_L_law_23 N sn sx n) l4 S else (if ((sx (Int32.toNatClampNeg l4)) &&& 63) = 20 then b_L_law_c20 N sn sx (b_L_law_23 N sn sx n) l4 S else (if ((sx (Int32.toNatClampNeg l4)) &&& 63) = 21 then b_L_law_c21 N sn sx (b_L_law_23 N sn sx n) l4 S else (if ((sx (Int32.toNatClampNeg l4)) &&& 63) = 22 then b_L_law_c22 N sn sx (b_L_law_23 N sn sx n) l4 S else (if ((sx (Int32.toNatClampNeg l4)) &&& 63) = 23 then b_L_law_c23 N sn sx (b_L_law_23 N sn sx n) l4 S else (if ((sx (Int32.toNatClampNeg l4)) &&& 63) = 24 then b_L_law_c24 N sn sx (b_L_law_23 N sn sx n) l4 S else (if ((sx (Int32.toNatClampNeg l4)) &&& 63) = 25 then b_L_law_c25 N sn sx (b_L_law_23 N sn sx n) l4 S else (if ((sx (Int32.toNatClampNeg l4)) &&& 63) = 26 then b_L_law_c26 N sn sx (b_L_law_23 N sn sx n) l4 S else (if ((sx (Int32.toNatClampNeg l4)) &&& 63) = 27 then b_L_law_c27 N sn sx (b_L_law_23 N sn sx n) l4 S else (if ((sx (Int32.toNatClampNeg l4)) &&& 63) = 28 then b_L_law_c28 N sn sx (b_L_law_23 N sn sx n) l4 S else (if ((sx (Int32.toNatClampNeg l4)) &&& 63) = 29 then b_L_law_c29 N sn sx (b_L_law_23 N sn sx n) l4 S else (if ((sx (Int32.toNatClampNeg l4)) &&& 63) = 30 then b_L_law_c30 N sn sx (b_L_law_23 N sn sx n) l4 S else (if ((sx (Int32.toNatClampNeg l4)) &&& 63) = 31 then b_L_law_c31 N sn sx (b_L_law_23 N sn sx n) l4 S else (if ((sx (Int32.toNatClampNeg l4)) &&& 63) = 32 then b_L_law_c32 N sn sx (b_L_law_23 N sn sx n) l4 S else (if ((sx (Int32.toNatClampNeg l4)) &&& 63) = 33 then b_L_law_c33 N sn sx (b_L_law_23 N sn sx n) l4 S else (if ((sx (Int32.toNatClampNeg l4)) &&& 63) = 34 then b_L_law_c34 N sn sx (b_L_law_23 N sn sx n) l4 S else (if ((sx (Int32.toNatClampNeg l4)) &&& 63) = 35 then b_L_law_c35 N sn sx (b_L_law_23 N sn sx n) l4 S else (if ((sx (Int32.toNatClampNeg l4)) &&& 63) = 36 then b_L_law_c36 N sn sx (b_L_law_23 N sn sx n) l4 S else (if ((sx (Int32.toNatClampNeg l4)) &&& 63) = 37 then b_L_law_c37 N sn sx (b_L_law_23 N sn sx n) l4 S else (if ((sx (Int32.toNatClampNeg l4)) &&& 63) = 38 then b_L_law_c38 N sn sx (b_L_law_23 N sn sx n) l4 S else (if ((sx (Int32.toNatClampNeg l4)) &&& 63) = 39 then b_L_law_c39 N sn sx (b_L_law_23 N sn sx n) l4 S else b_L_law_2453 N sn sx (b_L_law_23 N sn sx n) l4 S)))))))))))))))))))))))))))))))))))))))) else none))
theorem u_L_law_2453 {G : am_G} {N n : Nat} {out : am_S} {k23 : Int32 → am_S → Option am_S} (hk23 : ∀ (l4 : Int32) (S : am_S) (cu su : Nat), (cu + n ≤ 601024 ∧ su + 6 * n ≤ 7293033) → k23 l4 S = some out → Ev G room_1 (LZ G) m_law cu su 23 [some (.float 1001), some (.ref 0), some (.ref 78), some (.ref 108), some (.int l4), none, none] [] (hp S)) (l4 : Int32) (S : am_S) (cu su : Nat) (hb : cu + n ≤ 601024 ∧ su + 6 * n ≤ 7293033) (hB : b_L_law_2453 N (gN G) (gX G) k23 l4 S = some out) : Ev G room_1 (LZ G) m_law cu su 2453 [some (.float 1001), some (.ref 0), some (.ref 78), some (.ref 108), some (.int l4), none, none] [] (hp S) := by
  unfold b_L_law_2453 at hB
  refine es_iinc 6 dL_law_2453 rfl (by decide) (by decide) rfl ?_
  refine ev_goto 23 dL_law_2456 (by decide) ?_
  exact ev_ls (hk23 (l4 + 6) S cu su (by omega) hB) (And.intro rfl (And.intro rfl (And.intro rfl (And.intro rfl (And.intro rfl trivial)))))
theorem u_L_law_c0 {G : am_G} {N n : Nat} {out : am_S} {k23 : Int32 → am_S → Option am_S} (hk23 : ∀ (l4 : Int32) (S : am_S) (cu su : Nat), (cu + n ≤ 601024 ∧ su + 6 * n ≤ 7293033) → k23 l4 S = some out → Ev G room_1 (LZ G) m_law cu su 23 [some (.float 1001), some (.ref 0), some (.ref 78), some (.ref 108), some (.int l4), none, none] [] (hp S)) (l4 : Int32) (S : am_S) (cu su : Nat) (hb : cu + (n + 1) ≤ 601024 ∧ su + 6 * (n + 1) ≤ 7293033) (hB : b_L_law_c0 N (gN G) (gX G) k23 l4 S = some out) : Ev G room_1 (LZ G) m_law cu su 216 [some (.float 1001), some (.ref 0), some (.ref 78), some (.ref 108), some (.int l4), none, none] [] (hp S) := by
  unfold b_L_law_c0 at hB
  refine ev_aload_n dL_law_216 rfl ?_
  refine ev_aload_nF dL_law_217 rfl ?_
  refine ev_iload dL_law_218 rfl ?_
  refine ev_iconst 1 dL_law_220 (by decide) ?_
  refine ev_iadd dL_law_221 ?_
  obtain ⟨c1, hB⟩ := ck_of hB
  refine ev_saload dL_law_222 (inb_in c1) ?_
  refine ev_aload_nF dL_law_223 rfl ?_
  refine ev_iload dL_law_224 rfl ?_
  refine ev_iconst 2 dL_law_226 (by decide) ?_
  refine ev_iadd dL_law_227 ?_
  obtain ⟨c2, hB⟩ := ck_of hB
  refine ev_saload dL_law_228 (inb_in c2) ?_
  refine ev_aload_nF dL_law_229 rfl ?_
  refine ev_iload dL_law_230 rfl ?_
  refine ev_iconst 3 dL_law_232 (by decide) ?_
  refine ev_iadd dL_law_233 ?_
  obtain ⟨c3, hB⟩ := ck_of hB
  refine ev_saload dL_law_234 (inb_in c3) ?_
  refine ev_aload_nF dL_law_235 rfl ?_
  refine ev_iload dL_law_236 rfl ?_
  refine ev_iconst 4 dL_law_238 (by decide) ?_
  refine ev_iadd dL_law_239 ?_
  obtain ⟨c4, hB⟩ := ck_of hB
  refine ev_saload dL_law_240 (inb_in c4) ?_
  refine ev_aload_nF dL_law_241 rfl ?_
  refine ev_iload dL_law_242 rfl ?_
  refine ev_iconst 5 dL_law_244 (by decide) ?_
  refine ev_iadd dL_law_245 ?_
  obtain ⟨c5, hB⟩ := ck_of hB
  refine ev_saload dL_law_246 (inb_in c5) ?_
  obtain ⟨r6, S7, e8, hB⟩ := bd_of hB
  refine es_callVi (As := [.int (gX G (Int32.toNatClampNeg (l4 + 1))), .int (gX G (Int32.toNatClampNeg (l4 + 2))), .int (gX G (Int32.toNatClampNeg (l4 + 3))), .int (gX G (Int32.toNatClampNeg (l4 + 4))), .int (gX G (Int32.toNatClampNeg (l4 + 5)))]) (t_X9_feed q9_0 e8) dL_law_247 oX9_feed w_636 rfl q9_0 rfl rfl (Nat.le_of_ble_eq_true rfl) rfl (fitL (by decide)) ⟨(by show cu ≤ 601024; omega), (by show su ≤ 7293033; omega)⟩ ?_
  refine ev_aload_n dL_law_250 rfl ?_
  refine ev_aload_nF dL_law_251 rfl ?_
  refine ev_iload dL_law_252 rfl ?_
  refine ev_iconst 1 dL_law_254 (by decide) ?_
  refine ev_iadd dL_law_255 ?_
  obtain ⟨c9, hB⟩ := ck_of hB
  refine ev_saload dL_law_256 (inb_in c9) ?_
  refine ev_aload_nF dL_law_257 rfl ?_
  refine ev_iload dL_law_258 rfl ?_
  refine ev_iconst 2 dL_law_260 (by decide) ?_
  refine ev_iadd dL_law_261 ?_
  obtain ⟨c10, hB⟩ := ck_of hB
  refine ev_saload dL_law_262 (inb_in c10) ?_
  refine ev_aload_nF dL_law_263 rfl ?_
  refine ev_iload dL_law_264 rfl ?_
  refine ev_iconst 3 dL_law_266 (by decide) ?_
  refine ev_iadd dL_law_267 ?_
  obtain ⟨c11, hB⟩ := ck_of hB
  refine ev_saload dL_law_268 (inb_in c11) ?_
  refine ev_aload_nF dL_law_269 rfl ?_
  refine ev_iload dL_law_270 rfl ?_
  refine ev_iconst 4 dL_law_272 (by decide) ?_
  refine ev_iadd dL_law_273 ?_
  obtain ⟨c12, hB⟩ := ck_of hB
  refine ev_saload dL_law_274 (inb_in c12) ?_
  refine ev_aload_nF dL_law_275 rfl ?_
  refine ev_iload dL_law_276 rfl ?_
  refine ev_iconst 5 dL_law_278 (by decide) ?_
  refine ev_iadd dL_law_279 ?_
  obtain ⟨c13, hB⟩ := ck_of hB
  refine ev_saload dL_law_280 (inb_in c13) ?_
  obtain ⟨r14, S15, e16, hB⟩ := bd_of hB
  refine es_callVi (As := [.int (gX G (Int32.toNatClampNeg (l4 + 1))), .int (gX G (Int32.toNatClampNeg (l4 + 2))), .int (gX G (Int32.toNatClampNeg (l4 + 3))), .int (gX G (Int32.toNatClampNeg (l4 + 4))), .int (gX G (Int32.toNatClampNeg (l4 + 5)))]) (t_X10_feed q10_78 e16) dL_law_281 oX10_feed w_1732 rfl q10_78 rfl rfl (Nat.le_of_ble_eq_true rfl) rfl (fitL (by decide)) ⟨(by show cu ≤ 601024; omega), (by show su ≤ 7293033; omega)⟩ ?_
  refine ev_icmpeq 2453 dL_law_284 (by decide) (fun q17 => ?_) (fun q17 => ?_)
  · rw [if_pos q17] at hB
    exact ev_ls (u_L_law_2453 hk23 l4 S15 cu su (by omega) hB) (And.intro rfl (And.intro rfl (And.intro rfl (And.intro rfl (And.intro rfl trivial)))))
  · rw [if_neg q17] at hB
    refine ev_iconst 0 dL_law_287 (by decide) ?_
    cases hB
theorem u_L_law_c1 {G : am_G} {N n : Nat} {out : am_S} {k23 : Int32 → am_S → Option am_S} (hk23 : ∀ (l4 : Int32) (S : am_S) (cu su : Nat), (cu + n ≤ 601024 ∧ su + 6 * n ≤ 7293033) → k23 l4 S = some out → Ev G room_1 (LZ G) m_law cu su 23 [some (.float 1001), some (.ref 0), some (.ref 78), some (.ref 108), some (.int l4), none, none] [] (hp S)) (l4 : Int32) (S : am_S) (cu su : Nat) (hb : cu + (n + 1) ≤ 601024 ∧ su + 6 * (n + 1) ≤ 7293033) (hB : b_L_law_c1 N (gN G) (gX G) k23 l4 S = some out) : Ev G room_1 (LZ G) m_law cu su 289 [some (.float 1001), some (.ref 0), some (.ref 78), some (.ref 108), some (.int l4), none, none] [] (hp S) := by
  unfold b_L_law_c1 at hB
  refine ev_aload_n dL_law_289 rfl ?_
  refine ev_aload_nF dL_law_290 rfl ?_
  refine ev_iload dL_law_291 rfl ?_
  refine ev_iconst 1 dL_law_293 (by decide) ?_
  refine ev_iadd dL_law_294 ?_
  obtain ⟨c1, hB⟩ := ck_of hB
  refine ev_saload dL_law_295 (inb_in c1) ?_
  refine ev_aload_n dL_law_296 rfl ?_
  obtain ⟨r2, S3, e4, hB⟩ := bd_of hB
  refine es_callW (As := [.ref 0, .int (gX G (Int32.toNatClampNeg (l4 + 1))), .ref 108]) (t_L_city q9_0 qA_108 e4) dL_law_297 oL_city w_821 rfl (Nat.le_of_ble_eq_true rfl) rfl (fitL (by decide)) ⟨(by show cu + 1 ≤ 601024; omega), (by show su + 6 ≤ 7293033; omega)⟩ ?_
  refine ev_istore dL_law_300 (by decide) rfl ?_
  refine ev_aload_n dL_law_302 rfl ?_
  refine ev_aload_nF dL_law_303 rfl ?_
  refine ev_iload dL_law_304 rfl ?_
  refine ev_iconst 1 dL_law_306 (by decide) ?_
  refine ev_iadd dL_law_307 ?_
  obtain ⟨c5, hB⟩ := ck_of hB
  refine ev_saload dL_law_308 (inb_in c5) ?_
  obtain ⟨r6, S7, e8, hB⟩ := bd_of hB
  refine es_callVi (As := [.int (gX G (Int32.toNatClampNeg (l4 + 1)))]) (t_X10_city q10_78 e8) dL_law_309 oX10_city w_1740 rfl q10_78 rfl rfl (Nat.le_of_ble_eq_true rfl) rfl (fitL (by decide)) ⟨(by show (cu + 1) ≤ 601024; omega), (by show (su + 6) ≤ 7293033; omega)⟩ ?_
  refine ev_istore dL_law_312 (by decide) rfl ?_
  refine ev_aload_n dL_law_314 rfl ?_
  obtain ⟨r9, S10, e11, hB⟩ := bd_of hB
  refine es_callVi (As := []) (t_X10_thrown q10_78 e11) dL_law_315 oX10_thrown w_1728 rfl q10_78 rfl rfl (Nat.le_of_ble_eq_true rfl) rfl (fitL (by decide)) ⟨(by show (cu + 1) ≤ 601024; omega), (by show (su + 6) ≤ 7293033; omega)⟩ ?_
  refine ev_iload dL_law_318 rfl ?_
  refine ev_icmpeq 325 dL_law_320 (by decide) (fun q12 => ?_) (fun q12 => ?_)
  · rw [if_pos q12] at hB
    refine ev_iload dL_law_325 rfl ?_
    refine ev_ifne 342 dL_law_327 (by decide) (fun q13 => ?_) (fun q13 => ?_)
    · rw [if_neg q13] at hB
      refine ev_goto 2453 dL_law_342 (by decide) ?_
      exact ev_ls (u_L_law_2453 hk23 l4 S10 (cu + 1) (su + 6) (by omega) hB) (And.intro rfl (And.intro rfl (And.intro rfl (And.intro rfl (And.intro rfl trivial)))))
    · rw [if_pos q13] at hB
      refine ev_aload_n dL_law_330 rfl ?_
      refine ev_iconst 0 dL_law_331 (by decide) ?_
      obtain ⟨c14, hB⟩ := ck_of hB
      refine es_lald dL_law_332 qA_108 c14 ?_
      refine ev_iload dL_law_333 rfl ?_
      refine ev_i2l dL_law_335 ?_
      refine ev_lcmp dL_law_336 ?_
      refine ev_ifeq 342 dL_law_337 (by decide) (fun q15 => ?_) (fun q15 => ?_)
      · rw [if_pos q15] at hB
        refine ev_goto 2453 dL_law_342 (by decide) ?_
        exact ev_ls (u_L_law_2453 hk23 l4 S10 (cu + 1) (su + 6) (by omega) hB) (And.intro rfl (And.intro rfl (And.intro rfl (And.intro rfl (And.intro rfl trivial)))))
      · rw [if_neg q15] at hB
        refine ev_iconst 0 dL_law_340 (by decide) ?_
        cases hB
  · rw [if_neg q12] at hB
    refine ev_iconst 0 dL_law_323 (by decide) ?_
    cases hB
theorem u_L_law_c2 {G : am_G} {N n : Nat} {out : am_S} {k23 : Int32 → am_S → Option am_S} (hk23 : ∀ (l4 : Int32) (S : am_S) (cu su : Nat), (cu + n ≤ 601024 ∧ su + 6 * n ≤ 7293033) → k23 l4 S = some out → Ev G room_1 (LZ G) m_law cu su 23 [some (.float 1001), some (.ref 0), some (.ref 78), some (.ref 108), some (.int l4), none, none] [] (hp S)) (l4 : Int32) (S : am_S) (cu su : Nat) (hb : cu + (n + 1) ≤ 601024 ∧ su + 6 * (n + 1) ≤ 7293033) (hB : b_L_law_c2 N (gN G) (gX G) k23 l4 S = some out) : Ev G room_1 (LZ G) m_law cu su 345 [some (.float 1001), some (.ref 0), some (.ref 78), some (.ref 108), some (.int l4), none, none] [] (hp S) := by
  unfold b_L_law_c2 at hB
  refine ev_aload_n dL_law_345 rfl ?_
  obtain ⟨r1, S2, e3, hB⟩ := bd_of hB
  refine es_callVi (As := []) (t_X9_fault q9_0 e3) dL_law_346 oX9_fault w_644 rfl q9_0 rfl rfl (Nat.le_of_ble_eq_true rfl) rfl (fitL (by decide)) ⟨(by show cu ≤ 601024; omega), (by show su ≤ 7293033; omega)⟩ ?_
  refine ev_aload_n dL_law_349 rfl ?_
  obtain ⟨r4, S5, e6, hB⟩ := bd_of hB
  refine es_callVi (As := []) (t_X10_fault q10_78 e6) dL_law_350 oX10_fault w_1863 rfl q10_78 rfl rfl (Nat.le_of_ble_eq_true rfl) rfl (fitL (by decide)) ⟨(by show cu ≤ 601024; omega), (by show su ≤ 7293033; omega)⟩ ?_
  refine ev_icmpeq 2453 dL_law_353 (by decide) (fun q7 => ?_) (fun q7 => ?_)
  · rw [if_pos q7] at hB
    exact ev_ls (u_L_law_2453 hk23 l4 S5 cu su (by omega) hB) (And.intro rfl (And.intro rfl (And.intro rfl (And.intro rfl (And.intro rfl trivial)))))
  · rw [if_neg q7] at hB
    refine ev_iconst 0 dL_law_356 (by decide) ?_
    cases hB
theorem u_L_law_c3 {G : am_G} {N n : Nat} {out : am_S} {k23 : Int32 → am_S → Option am_S} (hk23 : ∀ (l4 : Int32) (S : am_S) (cu su : Nat), (cu + n ≤ 601024 ∧ su + 6 * n ≤ 7293033) → k23 l4 S = some out → Ev G room_1 (LZ G) m_law cu su 23 [some (.float 1001), some (.ref 0), some (.ref 78), some (.ref 108), some (.int l4), none, none] [] (hp S)) (l4 : Int32) (S : am_S) (cu su : Nat) (hb : cu + (n + 1) ≤ 601024 ∧ su + 6 * (n + 1) ≤ 7293033) (hB : b_L_law_c3 N (gN G) (gX G) k23 l4 S = some out) : Ev G room_1 (LZ G) m_law cu su 358 [some (.float 1001), some (.ref 0), some (.ref 78), some (.ref 108), some (.int l4), none, none] [] (hp S) := by
  unfold b_L_law_c3 at hB
  refine ev_aload_n dL_law_358 rfl ?_
  refine ev_aload_nF dL_law_359 rfl ?_
  refine ev_iload dL_law_360 rfl ?_
  refine ev_iconst 1 dL_law_362 (by decide) ?_
  refine ev_iadd dL_law_363 ?_
  obtain ⟨c1, hB⟩ := ck_of hB
  refine ev_saload dL_law_364 (inb_in c1) ?_
  refine ev_aload_n dL_law_365 rfl ?_
  obtain ⟨r2, S3, e4, hB⟩ := bd_of hB
  refine es_callW (As := [.ref 0, .int (gX G (Int32.toNatClampNeg (l4 + 1))), .ref 108]) (t_L_count q9_0 qA_108 e4) dL_law_366 oL_count w_1071 rfl (Nat.le_of_ble_eq_true rfl) rfl (fitL (by decide)) ⟨(by show cu + 1 ≤ 601024; omega), (by show su + 6 ≤ 7293033; omega)⟩ ?_
  refine ev_istore dL_law_369 (by decide) rfl ?_
  refine ev_aload_n dL_law_371 rfl ?_
  refine ev_aload_nF dL_law_372 rfl ?_
  refine ev_iload dL_law_373 rfl ?_
  refine ev_iconst 1 dL_law_375 (by decide) ?_
  refine ev_iadd dL_law_376 ?_
  obtain ⟨c5, hB⟩ := ck_of hB
  refine ev_saload dL_law_377 (inb_in c5) ?_
  obtain ⟨r6, S7, e8, hB⟩ := bd_of hB
  refine es_callVi (As := [.int (gX G (Int32.toNatClampNeg (l4 + 1)))]) (t_X10_count q10_78 e8) dL_law_378 oX10_count w_1871 rfl q10_78 rfl rfl (Nat.le_of_ble_eq_true rfl) rfl (fitL (by decide)) ⟨(by show (cu + 1) ≤ 601024; omega), (by show (su + 6) ≤ 7293033; omega)⟩ ?_
  refine ev_istore dL_law_381 (by decide) rfl ?_
  refine ev_aload_n dL_law_383 rfl ?_
  obtain ⟨r9, S10, e11, hB⟩ := bd_of hB
  refine es_callVi (As := []) (t_X10_thrown q10_78 e11) dL_law_384 oX10_thrown w_1728 rfl q10_78 rfl rfl (Nat.le_of_ble_eq_true rfl) rfl (fitL (by decide)) ⟨(by show (cu + 1) ≤ 601024; omega), (by show (su + 6) ≤ 7293033; omega)⟩ ?_
  refine ev_iload dL_law_387 rfl ?_
  refine ev_icmpeq 394 dL_law_389 (by decide) (fun q12 => ?_) (fun q12 => ?_)
  · rw [if_pos q12] at hB
    refine ev_iload dL_law_394 rfl ?_
    refine ev_ifne 411 dL_law_396 (by decide) (fun q13 => ?_) (fun q13 => ?_)
    · rw [if_neg q13] at hB
      refine ev_goto 2453 dL_law_411 (by decide) ?_
      exact ev_ls (u_L_law_2453 hk23 l4 S10 (cu + 1) (su + 6) (by omega) hB) (And.intro rfl (And.intro rfl (And.intro rfl (And.intro rfl (And.intro rfl trivial)))))
    · rw [if_pos q13] at hB
      refine ev_aload_n dL_law_399 rfl ?_
      refine ev_iconst 0 dL_law_400 (by decide) ?_
      obtain ⟨c14, hB⟩ := ck_of hB
      refine es_lald dL_law_401 qA_108 c14 ?_
      refine ev_iload dL_law_402 rfl ?_
      refine ev_i2l dL_law_404 ?_
      refine ev_lcmp dL_law_405 ?_
      refine ev_ifeq 411 dL_law_406 (by decide) (fun q15 => ?_) (fun q15 => ?_)
      · rw [if_pos q15] at hB
        refine ev_goto 2453 dL_law_411 (by decide) ?_
        exact ev_ls (u_L_law_2453 hk23 l4 S10 (cu + 1) (su + 6) (by omega) hB) (And.intro rfl (And.intro rfl (And.intro rfl (And.intro rfl (And.intro rfl trivial)))))
      · rw [if_neg q15] at hB
        refine ev_iconst 0 dL_law_409 (by decide) ?_
        cases hB
  · rw [if_neg q12] at hB
    refine ev_iconst 0 dL_law_392 (by decide) ?_
    cases hB
theorem u_L_law_c4 {G : am_G} {N n : Nat} {out : am_S} {k23 : Int32 → am_S → Option am_S} (hk23 : ∀ (l4 : Int32) (S : am_S) (cu su : Nat), (cu + n ≤ 601024 ∧ su + 6 * n ≤ 7293033) → k23 l4 S = some out → Ev G room_1 (LZ G) m_law cu su 23 [some (.float 1001), some (.ref 0), some (.ref 78), some (.ref 108), some (.int l4), none, none] [] (hp S)) (l4 : Int32) (S : am_S) (cu su : Nat) (hb : cu + (n + 1) ≤ 601024 ∧ su + 6 * (n + 1) ≤ 7293033) (hB : b_L_law_c4 N (gN G) (gX G) k23 l4 S = some out) : Ev G room_1 (LZ G) m_law cu su 414 [some (.float 1001), some (.ref 0), some (.ref 78), some (.ref 108), some (.int l4), none, none] [] (hp S) := by
  unfold b_L_law_c4 at hB
  refine ev_aload_n dL_law_414 rfl ?_
  refine ev_aload_nF dL_law_415 rfl ?_
  refine ev_iload dL_law_416 rfl ?_
  refine ev_iconst 1 dL_law_418 (by decide) ?_
  refine ev_iadd dL_law_419 ?_
  obtain ⟨c1, hB⟩ := ck_of hB
  refine ev_saload dL_law_420 (inb_in c1) ?_
  refine ev_aload_nF dL_law_421 rfl ?_
  refine ev_iload dL_law_422 rfl ?_
  refine ev_iconst 2 dL_law_424 (by decide) ?_
  refine ev_iadd dL_law_425 ?_
  obtain ⟨c2, hB⟩ := ck_of hB
  refine ev_saload dL_law_426 (inb_in c2) ?_
  refine ev_aload_n dL_law_427 rfl ?_
  obtain ⟨r3, S4, e5, hB⟩ := bd_of hB
  refine es_callW (As := [.ref 0, .int (gX G (Int32.toNatClampNeg (l4 + 1))), .int (gX G (Int32.toNatClampNeg (l4 + 2))), .ref 108]) (t_L_box q9_0 qA_108 e5) dL_law_428 oL_box w_1117 rfl (Nat.le_of_ble_eq_true rfl) rfl (fitL (by decide)) ⟨(by show cu + 1 ≤ 601024; omega), (by show su + 6 ≤ 7293033; omega)⟩ ?_
  refine ev_istore dL_law_431 (by decide) rfl ?_
  refine ev_aload_n dL_law_433 rfl ?_
  refine ev_aload_nF dL_law_434 rfl ?_
  refine ev_iload dL_law_435 rfl ?_
  refine ev_iconst 1 dL_law_437 (by decide) ?_
  refine ev_iadd dL_law_438 ?_
  obtain ⟨c6, hB⟩ := ck_of hB
  refine ev_saload dL_law_439 (inb_in c6) ?_
  refine ev_aload_nF dL_law_440 rfl ?_
  refine ev_iload dL_law_441 rfl ?_
  refine ev_iconst 2 dL_law_443 (by decide) ?_
  refine ev_iadd dL_law_444 ?_
  obtain ⟨c7, hB⟩ := ck_of hB
  refine ev_saload dL_law_445 (inb_in c7) ?_
  obtain ⟨r8, S9, e10, hB⟩ := bd_of hB
  refine es_callVi (As := [.int (gX G (Int32.toNatClampNeg (l4 + 1))), .int (gX G (Int32.toNatClampNeg (l4 + 2)))]) (t_X10_box q10_78 e10) dL_law_446 oX10_box w_1910 rfl q10_78 rfl rfl (Nat.le_of_ble_eq_true rfl) rfl (fitL (by decide)) ⟨(by show (cu + 1) ≤ 601024; omega), (by show (su + 6) ≤ 7293033; omega)⟩ ?_
  refine ev_istore dL_law_449 (by decide) rfl ?_
  refine ev_aload_n dL_law_451 rfl ?_
  obtain ⟨r11, S12, e13, hB⟩ := bd_of hB
  refine es_callVi (As := []) (t_X10_thrown q10_78 e13) dL_law_452 oX10_thrown w_1728 rfl q10_78 rfl rfl (Nat.le_of_ble_eq_true rfl) rfl (fitL (by decide)) ⟨(by show (cu + 1) ≤ 601024; omega), (by show (su + 6) ≤ 7293033; omega)⟩ ?_
  refine ev_iload dL_law_455 rfl ?_
  refine ev_icmpeq 462 dL_law_457 (by decide) (fun q14 => ?_) (fun q14 => ?_)
  · rw [if_pos q14] at hB
    refine ev_iload dL_law_462 rfl ?_
    refine ev_ifne 479 dL_law_464 (by decide) (fun q15 => ?_) (fun q15 => ?_)
    · rw [if_neg q15] at hB
      refine ev_goto 2453 dL_law_479 (by decide) ?_
      exact ev_ls (u_L_law_2453 hk23 l4 S12 (cu + 1) (su + 6) (by omega) hB) (And.intro rfl (And.intro rfl (And.intro rfl (And.intro rfl (And.intro rfl trivial)))))
    · rw [if_pos q15] at hB
      refine ev_aload_n dL_law_467 rfl ?_
      refine ev_iconst 0 dL_law_468 (by decide) ?_
      obtain ⟨c16, hB⟩ := ck_of hB
      refine es_lald dL_law_469 qA_108 c16 ?_
      refine ev_iload dL_law_470 rfl ?_
      refine ev_i2l dL_law_472 ?_
      refine ev_lcmp dL_law_473 ?_
      refine ev_ifeq 479 dL_law_474 (by decide) (fun q17 => ?_) (fun q17 => ?_)
      · rw [if_pos q17] at hB
        refine ev_goto 2453 dL_law_479 (by decide) ?_
        exact ev_ls (u_L_law_2453 hk23 l4 S12 (cu + 1) (su + 6) (by omega) hB) (And.intro rfl (And.intro rfl (And.intro rfl (And.intro rfl (And.intro rfl trivial)))))
      · rw [if_neg q17] at hB
        refine ev_iconst 0 dL_law_477 (by decide) ?_
        cases hB
  · rw [if_neg q14] at hB
    refine ev_iconst 0 dL_law_460 (by decide) ?_
    cases hB
theorem u_L_law_c5 {G : am_G} {N n : Nat} {out : am_S} {k23 : Int32 → am_S → Option am_S} (hk23 : ∀ (l4 : Int32) (S : am_S) (cu su : Nat), (cu + n ≤ 601024 ∧ su + 6 * n ≤ 7293033) → k23 l4 S = some out → Ev G room_1 (LZ G) m_law cu su 23 [some (.float 1001), some (.ref 0), some (.ref 78), some (.ref 108), some (.int l4), none, none] [] (hp S)) (l4 : Int32) (S : am_S) (cu su : Nat) (hb : cu + (n + 1) ≤ 601024 ∧ su + 6 * (n + 1) ≤ 7293033) (hB : b_L_law_c5 N (gN G) (gX G) k23 l4 S = some out) : Ev G room_1 (LZ G) m_law cu su 482 [some (.float 1001), some (.ref 0), some (.ref 78), some (.ref 108), some (.int l4), none, none] [] (hp S) := by
  unfold b_L_law_c5 at hB
  refine ev_aload_n dL_law_482 rfl ?_
  refine ev_aload_nF dL_law_483 rfl ?_
  refine ev_iload dL_law_484 rfl ?_
  refine ev_iconst 1 dL_law_486 (by decide) ?_
  refine ev_iadd dL_law_487 ?_
  obtain ⟨c1, hB⟩ := ck_of hB
  refine ev_saload dL_law_488 (inb_in c1) ?_
  refine ev_aload_nF dL_law_489 rfl ?_
  refine ev_iload dL_law_490 rfl ?_
  refine ev_iconst 2 dL_law_492 (by decide) ?_
  refine ev_iadd dL_law_493 ?_
  obtain ⟨c2, hB⟩ := ck_of hB
  refine ev_saload dL_law_494 (inb_in c2) ?_
  refine ev_aload_n dL_law_495 rfl ?_
  obtain ⟨r3, S4, e5, hB⟩ := bd_of hB
  refine es_callW (As := [.ref 0, .int (gX G (Int32.toNatClampNeg (l4 + 1))), .int (gX G (Int32.toNatClampNeg (l4 + 2))), .ref 108]) (t_L_person q9_0 qA_108 e5) dL_law_496 oL_person w_1139 rfl (Nat.le_of_ble_eq_true rfl) rfl (fitL (by decide)) ⟨(by show cu + 1 ≤ 601024; omega), (by show su + 6 ≤ 7293033; omega)⟩ ?_
  refine ev_istore dL_law_499 (by decide) rfl ?_
  refine ev_aload_n dL_law_501 rfl ?_
  refine ev_aload_nF dL_law_502 rfl ?_
  refine ev_iload dL_law_503 rfl ?_
  refine ev_iconst 1 dL_law_505 (by decide) ?_
  refine ev_iadd dL_law_506 ?_
  obtain ⟨c6, hB⟩ := ck_of hB
  refine ev_saload dL_law_507 (inb_in c6) ?_
  refine ev_aload_nF dL_law_508 rfl ?_
  refine ev_iload dL_law_509 rfl ?_
  refine ev_iconst 2 dL_law_511 (by decide) ?_
  refine ev_iadd dL_law_512 ?_
  obtain ⟨c7, hB⟩ := ck_of hB
  refine ev_saload dL_law_513 (inb_in c7) ?_
  obtain ⟨r8, S9, e10, hB⟩ := bd_of hB
  refine es_callVi (As := [.int (gX G (Int32.toNatClampNeg (l4 + 1))), .int (gX G (Int32.toNatClampNeg (l4 + 2)))]) (t_X10_person q10_78 e10) dL_law_514 oX10_person w_1937 rfl q10_78 rfl rfl (Nat.le_of_ble_eq_true rfl) rfl (fitL (by decide)) ⟨(by show (cu + 1) ≤ 601024; omega), (by show (su + 6) ≤ 7293033; omega)⟩ ?_
  refine ev_istore dL_law_517 (by decide) rfl ?_
  refine ev_aload_n dL_law_519 rfl ?_
  obtain ⟨r11, S12, e13, hB⟩ := bd_of hB
  refine es_callVi (As := []) (t_X10_thrown q10_78 e13) dL_law_520 oX10_thrown w_1728 rfl q10_78 rfl rfl (Nat.le_of_ble_eq_true rfl) rfl (fitL (by decide)) ⟨(by show (cu + 1) ≤ 601024; omega), (by show (su + 6) ≤ 7293033; omega)⟩ ?_
  refine ev_iload dL_law_523 rfl ?_
  refine ev_icmpeq 530 dL_law_525 (by decide) (fun q14 => ?_) (fun q14 => ?_)
  · rw [if_pos q14] at hB
    refine ev_iload dL_law_530 rfl ?_
    refine ev_ifne 547 dL_law_532 (by decide) (fun q15 => ?_) (fun q15 => ?_)
    · rw [if_neg q15] at hB
      refine ev_goto 2453 dL_law_547 (by decide) ?_
      exact ev_ls (u_L_law_2453 hk23 l4 S12 (cu + 1) (su + 6) (by omega) hB) (And.intro rfl (And.intro rfl (And.intro rfl (And.intro rfl (And.intro rfl trivial)))))
    · rw [if_pos q15] at hB
      refine ev_aload_n dL_law_535 rfl ?_
      refine ev_iconst 0 dL_law_536 (by decide) ?_
      obtain ⟨c16, hB⟩ := ck_of hB
      refine es_lald dL_law_537 qA_108 c16 ?_
      refine ev_iload dL_law_538 rfl ?_
      refine ev_i2l dL_law_540 ?_
      refine ev_lcmp dL_law_541 ?_
      refine ev_ifeq 547 dL_law_542 (by decide) (fun q17 => ?_) (fun q17 => ?_)
      · rw [if_pos q17] at hB
        refine ev_goto 2453 dL_law_547 (by decide) ?_
        exact ev_ls (u_L_law_2453 hk23 l4 S12 (cu + 1) (su + 6) (by omega) hB) (And.intro rfl (And.intro rfl (And.intro rfl (And.intro rfl (And.intro rfl trivial)))))
      · rw [if_neg q17] at hB
        refine ev_iconst 0 dL_law_545 (by decide) ?_
        cases hB
  · rw [if_neg q14] at hB
    refine ev_iconst 0 dL_law_528 (by decide) ?_
    cases hB
theorem u_L_law_c6 {G : am_G} {N n : Nat} {out : am_S} {k23 : Int32 → am_S → Option am_S} (hk23 : ∀ (l4 : Int32) (S : am_S) (cu su : Nat), (cu + n ≤ 601024 ∧ su + 6 * n ≤ 7293033) → k23 l4 S = some out → Ev G room_1 (LZ G) m_law cu su 23 [some (.float 1001), some (.ref 0), some (.ref 78), some (.ref 108), some (.int l4), none, none] [] (hp S)) (l4 : Int32) (S : am_S) (cu su : Nat) (hb : cu + (n + 1) ≤ 601024 ∧ su + 6 * (n + 1) ≤ 7293033) (hB : b_L_law_c6 N (gN G) (gX G) k23 l4 S = some out) : Ev G room_1 (LZ G) m_law cu su 550 [some (.float 1001), some (.ref 0), some (.ref 78), some (.ref 108), some (.int l4), none, none] [] (hp S) := by
  unfold b_L_law_c6 at hB
  refine ev_aload_n dL_law_550 rfl ?_
  refine ev_aload_nF dL_law_551 rfl ?_
  refine ev_iload dL_law_552 rfl ?_
  refine ev_iconst 1 dL_law_554 (by decide) ?_
  refine ev_iadd dL_law_555 ?_
  obtain ⟨c1, hB⟩ := ck_of hB
  refine ev_saload dL_law_556 (inb_in c1) ?_
  refine ev_aload_nF dL_law_557 rfl ?_
  refine ev_iload dL_law_558 rfl ?_
  refine ev_iconst 2 dL_law_560 (by decide) ?_
  refine ev_iadd dL_law_561 ?_
  obtain ⟨c2, hB⟩ := ck_of hB
  refine ev_saload dL_law_562 (inb_in c2) ?_
  refine ev_aload_n dL_law_563 rfl ?_
  obtain ⟨r3, S4, e5, hB⟩ := bd_of hB
  refine es_callW (As := [.ref 0, .int (gX G (Int32.toNatClampNeg (l4 + 1))), .int (gX G (Int32.toNatClampNeg (l4 + 2))), .ref 108]) (t_L_held q9_0 qA_108 e5) dL_law_564 oL_held w_1160 rfl (Nat.le_of_ble_eq_true rfl) rfl (fitL (by decide)) ⟨(by show cu + 1 ≤ 601024; omega), (by show su + 6 ≤ 7293033; omega)⟩ ?_
  refine ev_istore dL_law_567 (by decide) rfl ?_
  refine ev_aload_n dL_law_569 rfl ?_
  refine ev_aload_nF dL_law_570 rfl ?_
  refine ev_iload dL_law_571 rfl ?_
  refine ev_iconst 1 dL_law_573 (by decide) ?_
  refine ev_iadd dL_law_574 ?_
  obtain ⟨c6, hB⟩ := ck_of hB
  refine ev_saload dL_law_575 (inb_in c6) ?_
  refine ev_aload_nF dL_law_576 rfl ?_
  refine ev_iload dL_law_577 rfl ?_
  refine ev_iconst 2 dL_law_579 (by decide) ?_
  refine ev_iadd dL_law_580 ?_
  obtain ⟨c7, hB⟩ := ck_of hB
  refine ev_saload dL_law_581 (inb_in c7) ?_
  obtain ⟨r8, S9, e10, hB⟩ := bd_of hB
  refine es_callVi (As := [.int (gX G (Int32.toNatClampNeg (l4 + 1))), .int (gX G (Int32.toNatClampNeg (l4 + 2)))]) (t_X10_held q10_78 e10) dL_law_582 oX10_held w_1945 rfl q10_78 rfl rfl (Nat.le_of_ble_eq_true rfl) rfl (fitL (by decide)) ⟨(by show (cu + 1) ≤ 601024; omega), (by show (su + 6) ≤ 7293033; omega)⟩ ?_
  refine ev_istore dL_law_585 (by decide) rfl ?_
  refine ev_aload_n dL_law_587 rfl ?_
  obtain ⟨r11, S12, e13, hB⟩ := bd_of hB
  refine es_callVi (As := []) (t_X10_thrown q10_78 e13) dL_law_588 oX10_thrown w_1728 rfl q10_78 rfl rfl (Nat.le_of_ble_eq_true rfl) rfl (fitL (by decide)) ⟨(by show (cu + 1) ≤ 601024; omega), (by show (su + 6) ≤ 7293033; omega)⟩ ?_
  refine ev_iload dL_law_591 rfl ?_
  refine ev_icmpeq 598 dL_law_593 (by decide) (fun q14 => ?_) (fun q14 => ?_)
  · rw [if_pos q14] at hB
    refine ev_iload dL_law_598 rfl ?_
    refine ev_ifne 615 dL_law_600 (by decide) (fun q15 => ?_) (fun q15 => ?_)
    · rw [if_neg q15] at hB
      refine ev_goto 2453 dL_law_615 (by decide) ?_
      exact ev_ls (u_L_law_2453 hk23 l4 S12 (cu + 1) (su + 6) (by omega) hB) (And.intro rfl (And.intro rfl (And.intro rfl (And.intro rfl (And.intro rfl trivial)))))
    · rw [if_pos q15] at hB
      refine ev_aload_n dL_law_603 rfl ?_
      refine ev_iconst 0 dL_law_604 (by decide) ?_
      obtain ⟨c16, hB⟩ := ck_of hB
      refine es_lald dL_law_605 qA_108 c16 ?_
      refine ev_iload dL_law_606 rfl ?_
      refine ev_i2l dL_law_608 ?_
      refine ev_lcmp dL_law_609 ?_
      refine ev_ifeq 615 dL_law_610 (by decide) (fun q17 => ?_) (fun q17 => ?_)
      · rw [if_pos q17] at hB
        refine ev_goto 2453 dL_law_615 (by decide) ?_
        exact ev_ls (u_L_law_2453 hk23 l4 S12 (cu + 1) (su + 6) (by omega) hB) (And.intro rfl (And.intro rfl (And.intro rfl (And.intro rfl (And.intro rfl trivial)))))
      · rw [if_neg q17] at hB
        refine ev_iconst 0 dL_law_613 (by decide) ?_
        cases hB
  · rw [if_neg q14] at hB
    refine ev_iconst 0 dL_law_596 (by decide) ?_
    cases hB
theorem u_L_law_c7 {G : am_G} {N n : Nat} {out : am_S} {k23 : Int32 → am_S → Option am_S} (hk23 : ∀ (l4 : Int32) (S : am_S) (cu su : Nat), (cu + n ≤ 601024 ∧ su + 6 * n ≤ 7293033) → k23 l4 S = some out → Ev G room_1 (LZ G) m_law cu su 23 [some (.float 1001), some (.ref 0), some (.ref 78), some (.ref 108), some (.int l4), none, none] [] (hp S)) (l4 : Int32) (S : am_S) (cu su : Nat) (hb : cu + (n + 1) ≤ 601024 ∧ su + 6 * (n + 1) ≤ 7293033) (hB : b_L_law_c7 N (gN G) (gX G) k23 l4 S = some out) : Ev G room_1 (LZ G) m_law cu su 618 [some (.float 1001), some (.ref 0), some (.ref 78), some (.ref 108), some (.int l4), none, none] [] (hp S) := by
  unfold b_L_law_c7 at hB
  refine ev_aload_n dL_law_618 rfl ?_
  refine ev_aload_nF dL_law_619 rfl ?_
  refine ev_iload dL_law_620 rfl ?_
  refine ev_iconst 1 dL_law_622 (by decide) ?_
  refine ev_iadd dL_law_623 ?_
  obtain ⟨c1, hB⟩ := ck_of hB
  refine ev_saload dL_law_624 (inb_in c1) ?_
  obtain ⟨r2, S3, e4, hB⟩ := bd_of hB
  refine es_callVi (As := [.int (gX G (Int32.toNatClampNeg (l4 + 1)))]) (t_X9_days q9_0 e4) dL_law_625 oX9_days w_648 rfl q9_0 rfl rfl (Nat.le_of_ble_eq_true rfl) rfl (fitL (by decide)) ⟨(by show cu ≤ 601024; omega), (by show su ≤ 7293033; omega)⟩ ?_
  refine ev_aload_n dL_law_628 rfl ?_
  refine ev_aload_nF dL_law_629 rfl ?_
  refine ev_iload dL_law_630 rfl ?_
  refine ev_iconst 1 dL_law_632 (by decide) ?_
  refine ev_iadd dL_law_633 ?_
  obtain ⟨c5, hB⟩ := ck_of hB
  refine ev_saload dL_law_634 (inb_in c5) ?_
  obtain ⟨r6, S7, e8, hB⟩ := bd_of hB
  refine es_callVi (As := [.int (gX G (Int32.toNatClampNeg (l4 + 1)))]) (t_X10_days q10_78 e8) dL_law_635 oX10_days w_1949 rfl q10_78 rfl rfl (Nat.le_of_ble_eq_true rfl) rfl (fitL (by decide)) ⟨(by show cu ≤ 601024; omega), (by show su ≤ 7293033; omega)⟩ ?_
  refine ev_icmpeq 2453 dL_law_638 (by decide) (fun q9 => ?_) (fun q9 => ?_)
  · rw [if_pos q9] at hB
    exact ev_ls (u_L_law_2453 hk23 l4 S7 cu su (by omega) hB) (And.intro rfl (And.intro rfl (And.intro rfl (And.intro rfl (And.intro rfl trivial)))))
  · rw [if_neg q9] at hB
    refine ev_iconst 0 dL_law_641 (by decide) ?_
    cases hB
theorem u_L_law_c8 {G : am_G} {N n : Nat} {out : am_S} {k23 : Int32 → am_S → Option am_S} (hk23 : ∀ (l4 : Int32) (S : am_S) (cu su : Nat), (cu + n ≤ 601024 ∧ su + 6 * n ≤ 7293033) → k23 l4 S = some out → Ev G room_1 (LZ G) m_law cu su 23 [some (.float 1001), some (.ref 0), some (.ref 78), some (.ref 108), some (.int l4), none, none] [] (hp S)) (l4 : Int32) (S : am_S) (cu su : Nat) (hb : cu + (n + 1) ≤ 601024 ∧ su + 6 * (n + 1) ≤ 7293033) (hB : b_L_law_c8 N (gN G) (gX G) k23 l4 S = some out) : Ev G room_1 (LZ G) m_law cu su 643 [some (.float 1001), some (.ref 0), some (.ref 78), some (.ref 108), some (.int l4), none, none] [] (hp S) := by
  unfold b_L_law_c8 at hB
  refine ev_aload_n dL_law_643 rfl ?_
  refine ev_aload_nF dL_law_644 rfl ?_
  refine ev_iload dL_law_645 rfl ?_
  refine ev_iconst 1 dL_law_647 (by decide) ?_
  refine ev_iadd dL_law_648 ?_
  obtain ⟨c1, hB⟩ := ck_of hB
  refine ev_saload dL_law_649 (inb_in c1) ?_
  refine ev_aload_n dL_law_650 rfl ?_
  obtain ⟨r2, S3, e4, hB⟩ := bd_of hB
  refine es_callW (As := [.ref 0, .int (gX G (Int32.toNatClampNeg (l4 + 1))), .ref 108]) (t_L_write q9_0 qA_108 e4) dL_law_651 oL_write w_1168 rfl (Nat.le_of_ble_eq_true rfl) rfl (fitL (by decide)) ⟨(by show cu + 1 ≤ 601024; omega), (by show su + 6 ≤ 7293033; omega)⟩ ?_
  refine ev_istore dL_law_654 (by decide) rfl ?_
  refine ev_aload_n dL_law_656 rfl ?_
  refine ev_aload_nF dL_law_657 rfl ?_
  refine ev_iload dL_law_658 rfl ?_
  refine ev_iconst 1 dL_law_660 (by decide) ?_
  refine ev_iadd dL_law_661 ?_
  obtain ⟨c5, hB⟩ := ck_of hB
  refine ev_saload dL_law_662 (inb_in c5) ?_
  obtain ⟨r6, S7, e8, hB⟩ := bd_of hB
  refine es_callVi (As := [.int (gX G (Int32.toNatClampNeg (l4 + 1)))]) (t_X10_write q10_78 e8) dL_law_663 oX10_write w_1998 rfl q10_78 rfl rfl (Nat.le_of_ble_eq_true rfl) rfl (fitL (by decide)) ⟨(by show (cu + 1) ≤ 601024; omega), (by show (su + 6) ≤ 7293033; omega)⟩ ?_
  refine ev_istore dL_law_666 (by decide) rfl ?_
  refine ev_aload_n dL_law_668 rfl ?_
  obtain ⟨r9, S10, e11, hB⟩ := bd_of hB
  refine es_callVi (As := []) (t_X10_thrown q10_78 e11) dL_law_669 oX10_thrown w_1728 rfl q10_78 rfl rfl (Nat.le_of_ble_eq_true rfl) rfl (fitL (by decide)) ⟨(by show (cu + 1) ≤ 601024; omega), (by show (su + 6) ≤ 7293033; omega)⟩ ?_
  refine ev_iload dL_law_672 rfl ?_
  refine ev_icmpeq 679 dL_law_674 (by decide) (fun q12 => ?_) (fun q12 => ?_)
  · rw [if_pos q12] at hB
    refine ev_iload dL_law_679 rfl ?_
    refine ev_ifne 696 dL_law_681 (by decide) (fun q13 => ?_) (fun q13 => ?_)
    · rw [if_neg q13] at hB
      refine ev_goto 2453 dL_law_696 (by decide) ?_
      exact ev_ls (u_L_law_2453 hk23 l4 S10 (cu + 1) (su + 6) (by omega) hB) (And.intro rfl (And.intro rfl (And.intro rfl (And.intro rfl (And.intro rfl trivial)))))
    · rw [if_pos q13] at hB
      refine ev_aload_n dL_law_684 rfl ?_
      refine ev_iconst 0 dL_law_685 (by decide) ?_
      obtain ⟨c14, hB⟩ := ck_of hB
      refine es_lald dL_law_686 qA_108 c14 ?_
      refine ev_iload dL_law_687 rfl ?_
      refine ev_i2l dL_law_689 ?_
      refine ev_lcmp dL_law_690 ?_
      refine ev_ifeq 696 dL_law_691 (by decide) (fun q15 => ?_) (fun q15 => ?_)
      · rw [if_pos q15] at hB
        refine ev_goto 2453 dL_law_696 (by decide) ?_
        exact ev_ls (u_L_law_2453 hk23 l4 S10 (cu + 1) (su + 6) (by omega) hB) (And.intro rfl (And.intro rfl (And.intro rfl (And.intro rfl (And.intro rfl trivial)))))
      · rw [if_neg q15] at hB
        refine ev_iconst 0 dL_law_694 (by decide) ?_
        cases hB
  · rw [if_neg q12] at hB
    refine ev_iconst 0 dL_law_677 (by decide) ?_
    cases hB
theorem u_L_law_c9 {G : am_G} {N n : Nat} {out : am_S} {k23 : Int32 → am_S → Option am_S} (hk23 : ∀ (l4 : Int32) (S : am_S) (cu su : Nat), (cu + n ≤ 601024 ∧ su + 6 * n ≤ 7293033) → k23 l4 S = some out → Ev G room_1 (LZ G) m_law cu su 23 [some (.float 1001), some (.ref 0), some (.ref 78), some (.ref 108), some (.int l4), none, none] [] (hp S)) (l4 : Int32) (S : am_S) (cu su : Nat) (hb : cu + (n + 1) ≤ 601024 ∧ su + 6 * (n + 1) ≤ 7293033) (hB : b_L_law_c9 N (gN G) (gX G) k23 l4 S = some out) : Ev G room_1 (LZ G) m_law cu su 699 [some (.float 1001), some (.ref 0), some (.ref 78), some (.ref 108), some (.int l4), none, none] [] (hp S) := by
  unfold b_L_law_c9 at hB
  refine ev_aload_n dL_law_699 rfl ?_
  refine ev_aload_nF dL_law_700 rfl ?_
  refine ev_iload dL_law_701 rfl ?_
  refine ev_iconst 1 dL_law_703 (by decide) ?_
  refine ev_iadd dL_law_704 ?_
  obtain ⟨c1, hB⟩ := ck_of hB
  refine ev_saload dL_law_705 (inb_in c1) ?_
  refine ev_aload_n dL_law_706 rfl ?_
  obtain ⟨r2, S3, e4, hB⟩ := bd_of hB
  refine es_callW (As := [.ref 0, .int (gX G (Int32.toNatClampNeg (l4 + 1))), .ref 108]) (t_L_paint q9_0 qA_108 e4) dL_law_707 oL_paint w_1182 rfl (Nat.le_of_ble_eq_true rfl) rfl (fitL (by decide)) ⟨(by show cu + 1 ≤ 601024; omega), (by show su + 6 ≤ 7293033; omega)⟩ ?_
  refine ev_istore dL_law_710 (by decide) rfl ?_
  refine ev_aload_n dL_law_712 rfl ?_
  refine ev_aload_nF dL_law_713 rfl ?_
  refine ev_iload dL_law_714 rfl ?_
  refine ev_iconst 1 dL_law_716 (by decide) ?_
  refine ev_iadd dL_law_717 ?_
  obtain ⟨c5, hB⟩ := ck_of hB
  refine ev_saload dL_law_718 (inb_in c5) ?_
  obtain ⟨r6, S7, e8, hB⟩ := bd_of hB
  refine es_callVi (As := [.int (gX G (Int32.toNatClampNeg (l4 + 1)))]) (t_X10_paint q10_78 e8) dL_law_719 oX10_paint w_2010 rfl q10_78 rfl rfl (Nat.le_of_ble_eq_true rfl) rfl (fitL (by decide)) ⟨(by show (cu + 1) ≤ 601024; omega), (by show (su + 6) ≤ 7293033; omega)⟩ ?_
  refine ev_istore dL_law_722 (by decide) rfl ?_
  refine ev_aload_n dL_law_724 rfl ?_
  obtain ⟨r9, S10, e11, hB⟩ := bd_of hB
  refine es_callVi (As := []) (t_X10_thrown q10_78 e11) dL_law_725 oX10_thrown w_1728 rfl q10_78 rfl rfl (Nat.le_of_ble_eq_true rfl) rfl (fitL (by decide)) ⟨(by show (cu + 1) ≤ 601024; omega), (by show (su + 6) ≤ 7293033; omega)⟩ ?_
  refine ev_iload dL_law_728 rfl ?_
  refine ev_icmpeq 735 dL_law_730 (by decide) (fun q12 => ?_) (fun q12 => ?_)
  · rw [if_pos q12] at hB
    refine ev_iload dL_law_735 rfl ?_
    refine ev_ifne 752 dL_law_737 (by decide) (fun q13 => ?_) (fun q13 => ?_)
    · rw [if_neg q13] at hB
      refine ev_goto 2453 dL_law_752 (by decide) ?_
      exact ev_ls (u_L_law_2453 hk23 l4 S10 (cu + 1) (su + 6) (by omega) hB) (And.intro rfl (And.intro rfl (And.intro rfl (And.intro rfl (And.intro rfl trivial)))))
    · rw [if_pos q13] at hB
      refine ev_aload_n dL_law_740 rfl ?_
      refine ev_iconst 0 dL_law_741 (by decide) ?_
      obtain ⟨c14, hB⟩ := ck_of hB
      refine es_lald dL_law_742 qA_108 c14 ?_
      refine ev_iload dL_law_743 rfl ?_
      refine ev_i2l dL_law_745 ?_
      refine ev_lcmp dL_law_746 ?_
      refine ev_ifeq 752 dL_law_747 (by decide) (fun q15 => ?_) (fun q15 => ?_)
      · rw [if_pos q15] at hB
        refine ev_goto 2453 dL_law_752 (by decide) ?_
        exact ev_ls (u_L_law_2453 hk23 l4 S10 (cu + 1) (su + 6) (by omega) hB) (And.intro rfl (And.intro rfl (And.intro rfl (And.intro rfl (And.intro rfl trivial)))))
      · rw [if_neg q15] at hB
        refine ev_iconst 0 dL_law_750 (by decide) ?_
        cases hB
  · rw [if_neg q12] at hB
    refine ev_iconst 0 dL_law_733 (by decide) ?_
    cases hB
theorem u_L_law_c10 {G : am_G} {N n : Nat} {out : am_S} {k23 : Int32 → am_S → Option am_S} (hk23 : ∀ (l4 : Int32) (S : am_S) (cu su : Nat), (cu + n ≤ 601024 ∧ su + 6 * n ≤ 7293033) → k23 l4 S = some out → Ev G room_1 (LZ G) m_law cu su 23 [some (.float 1001), some (.ref 0), some (.ref 78), some (.ref 108), some (.int l4), none, none] [] (hp S)) (l4 : Int32) (S : am_S) (cu su : Nat) (hb : cu + (n + 1) ≤ 601024 ∧ su + 6 * (n + 1) ≤ 7293033) (hB : b_L_law_c10 N (gN G) (gX G) k23 l4 S = some out) : Ev G room_1 (LZ G) m_law cu su 755 [some (.float 1001), some (.ref 0), some (.ref 78), some (.ref 108), some (.int l4), none, none] [] (hp S) := by
  unfold b_L_law_c10 at hB
  refine ev_aload_n dL_law_755 rfl ?_
  refine ev_aload_nF dL_law_756 rfl ?_
  refine ev_iload dL_law_757 rfl ?_
  refine ev_iconst 1 dL_law_759 (by decide) ?_
  refine ev_iadd dL_law_760 ?_
  obtain ⟨c1, hB⟩ := ck_of hB
  refine ev_saload dL_law_761 (inb_in c1) ?_
  refine ev_aload_nF dL_law_762 rfl ?_
  refine ev_iload dL_law_763 rfl ?_
  refine ev_iconst 2 dL_law_765 (by decide) ?_
  refine ev_iadd dL_law_766 ?_
  obtain ⟨c2, hB⟩ := ck_of hB
  refine ev_saload dL_law_767 (inb_in c2) ?_
  refine ev_aload_n dL_law_768 rfl ?_
  obtain ⟨r3, S4, e5, hB⟩ := bd_of hB
  refine es_callW (As := [.ref 0, .int (gX G (Int32.toNatClampNeg (l4 + 1))), .int (gX G (Int32.toNatClampNeg (l4 + 2))), .ref 108]) (t_L_turn q9_0 qA_108 e5) dL_law_769 oL_turn w_1190 rfl (Nat.le_of_ble_eq_true rfl) rfl (fitL (by decide)) ⟨(by show cu + 1 ≤ 601024; omega), (by show su + 6 ≤ 7293033; omega)⟩ ?_
  refine ev_istore dL_law_772 (by decide) rfl ?_
  refine ev_aload_n dL_law_774 rfl ?_
  refine ev_aload_nF dL_law_775 rfl ?_
  refine ev_iload dL_law_776 rfl ?_
  refine ev_iconst 1 dL_law_778 (by decide) ?_
  refine ev_iadd dL_law_779 ?_
  obtain ⟨c6, hB⟩ := ck_of hB
  refine ev_saload dL_law_780 (inb_in c6) ?_
  refine ev_aload_nF dL_law_781 rfl ?_
  refine ev_iload dL_law_782 rfl ?_
  refine ev_iconst 2 dL_law_784 (by decide) ?_
  refine ev_iadd dL_law_785 ?_
  obtain ⟨c7, hB⟩ := ck_of hB
  refine ev_saload dL_law_786 (inb_in c7) ?_
  obtain ⟨r8, S9, e10, hB⟩ := bd_of hB
  refine es_callVi (As := [.int (gX G (Int32.toNatClampNeg (l4 + 1))), .int (gX G (Int32.toNatClampNeg (l4 + 2)))]) (t_X10_turn q10_78 e10) dL_law_787 oX10_turn w_2014 rfl q10_78 rfl rfl (Nat.le_of_ble_eq_true rfl) rfl (fitL (by decide)) ⟨(by show (cu + 1) ≤ 601024; omega), (by show (su + 6) ≤ 7293033; omega)⟩ ?_
  refine ev_istore dL_law_790 (by decide) rfl ?_
  refine ev_aload_n dL_law_792 rfl ?_
  obtain ⟨r11, S12, e13, hB⟩ := bd_of hB
  refine es_callVi (As := []) (t_X10_thrown q10_78 e13) dL_law_793 oX10_thrown w_1728 rfl q10_78 rfl rfl (Nat.le_of_ble_eq_true rfl) rfl (fitL (by decide)) ⟨(by show (cu + 1) ≤ 601024; omega), (by show (su + 6) ≤ 7293033; omega)⟩ ?_
  refine ev_iload dL_law_796 rfl ?_
  refine ev_icmpeq 803 dL_law_798 (by decide) (fun q14 => ?_) (fun q14 => ?_)
  · rw [if_pos q14] at hB
    refine ev_iload dL_law_803 rfl ?_
    refine ev_ifne 820 dL_law_805 (by decide) (fun q15 => ?_) (fun q15 => ?_)
    · rw [if_neg q15] at hB
      refine ev_goto 2453 dL_law_820 (by decide) ?_
      exact ev_ls (u_L_law_2453 hk23 l4 S12 (cu + 1) (su + 6) (by omega) hB) (And.intro rfl (And.intro rfl (And.intro rfl (And.intro rfl (And.intro rfl trivial)))))
    · rw [if_pos q15] at hB
      refine ev_aload_n dL_law_808 rfl ?_
      refine ev_iconst 0 dL_law_809 (by decide) ?_
      obtain ⟨c16, hB⟩ := ck_of hB
      refine es_lald dL_law_810 qA_108 c16 ?_
      refine ev_iload dL_law_811 rfl ?_
      refine ev_i2l dL_law_813 ?_
      refine ev_lcmp dL_law_814 ?_
      refine ev_ifeq 820 dL_law_815 (by decide) (fun q17 => ?_) (fun q17 => ?_)
      · rw [if_pos q17] at hB
        refine ev_goto 2453 dL_law_820 (by decide) ?_
        exact ev_ls (u_L_law_2453 hk23 l4 S12 (cu + 1) (su + 6) (by omega) hB) (And.intro rfl (And.intro rfl (And.intro rfl (And.intro rfl (And.intro rfl trivial)))))
      · rw [if_neg q17] at hB
        refine ev_iconst 0 dL_law_818 (by decide) ?_
        cases hB
  · rw [if_neg q14] at hB
    refine ev_iconst 0 dL_law_801 (by decide) ?_
    cases hB
theorem u_L_law_c11 {G : am_G} {N n : Nat} {out : am_S} {k23 : Int32 → am_S → Option am_S} (hk23 : ∀ (l4 : Int32) (S : am_S) (cu su : Nat), (cu + n ≤ 601024 ∧ su + 6 * n ≤ 7293033) → k23 l4 S = some out → Ev G room_1 (LZ G) m_law cu su 23 [some (.float 1001), some (.ref 0), some (.ref 78), some (.ref 108), some (.int l4), none, none] [] (hp S)) (l4 : Int32) (S : am_S) (cu su : Nat) (hb : cu + (n + 1) ≤ 601024 ∧ su + 6 * (n + 1) ≤ 7293033) (hB : b_L_law_c11 N (gN G) (gX G) k23 l4 S = some out) : Ev G room_1 (LZ G) m_law cu su 823 [some (.float 1001), some (.ref 0), some (.ref 78), some (.ref 108), some (.int l4), none, none] [] (hp S) := by
  unfold b_L_law_c11 at hB
  refine ev_aload_n dL_law_823 rfl ?_
  refine ev_aload_nF dL_law_824 rfl ?_
  refine ev_iload dL_law_825 rfl ?_
  refine ev_iconst 1 dL_law_827 (by decide) ?_
  refine ev_iadd dL_law_828 ?_
  obtain ⟨c1, hB⟩ := ck_of hB
  refine ev_saload dL_law_829 (inb_in c1) ?_
  refine ev_ifeq 837 dL_law_830 (by decide) (fun q2 => ?_) (fun q2 => ?_)
  · rw [if_pos q2] at hB
    refine ev_iconst 0 dL_law_837 (by decide) ?_
    obtain ⟨r3, S4, e5, hB⟩ := bd_of hB
    refine es_callVi (As := [.int 0]) (t_X9_strike q9_0 e5) dL_law_838 oX9_strike w_761 rfl q9_0 rfl rfl (Nat.le_of_ble_eq_true rfl) rfl (fitL (by decide)) ⟨(by show cu ≤ 601024; omega), (by show su ≤ 7293033; omega)⟩ ?_
    refine ev_aload_n dL_law_841 rfl ?_
    refine ev_aload_nF dL_law_842 rfl ?_
    refine ev_iload dL_law_843 rfl ?_
    refine ev_iconst 1 dL_law_845 (by decide) ?_
    refine ev_iadd dL_law_846 ?_
    obtain ⟨c6, hB⟩ := ck_of hB
    refine ev_saload dL_law_847 (inb_in c6) ?_
    refine ev_ifeq 855 dL_law_848 (by decide) (fun q7 => ?_) (fun q7 => ?_)
    · rw [if_pos q7] at hB
      refine ev_iconst 0 dL_law_855 (by decide) ?_
      obtain ⟨r8, S9, e10, hB⟩ := bd_of hB
      refine es_callVi (As := [.int 0]) (t_X10_strike q10_78 e10) dL_law_856 oX10_strike w_2018 rfl q10_78 rfl rfl (Nat.le_of_ble_eq_true rfl) rfl (fitL (by decide)) ⟨(by show cu ≤ 601024; omega), (by show su ≤ 7293033; omega)⟩ ?_
      refine ev_icmpeq 2453 dL_law_859 (by decide) (fun q11 => ?_) (fun q11 => ?_)
      · rw [if_pos q11] at hB
        exact ev_ls (u_L_law_2453 hk23 l4 S9 cu su (by omega) hB) (And.intro rfl (And.intro rfl (And.intro rfl (And.intro rfl (And.intro rfl trivial)))))
      · rw [if_neg q11] at hB
        refine ev_iconst 0 dL_law_862 (by decide) ?_
        cases hB
    · rw [if_neg q7] at hB
      refine ev_iconst 1 dL_law_851 (by decide) ?_
      refine ev_goto 856 dL_law_852 (by decide) ?_
      obtain ⟨r12, S13, e14, hB⟩ := bd_of hB
      refine es_callVi (As := [.int 1]) (t_X10_strike q10_78 e14) dL_law_856 oX10_strike w_2018 rfl q10_78 rfl rfl (Nat.le_of_ble_eq_true rfl) rfl (fitL (by decide)) ⟨(by show cu ≤ 601024; omega), (by show su ≤ 7293033; omega)⟩ ?_
      refine ev_icmpeq 2453 dL_law_859 (by decide) (fun q15 => ?_) (fun q15 => ?_)
      · rw [if_pos q15] at hB
        exact ev_ls (u_L_law_2453 hk23 l4 S13 cu su (by omega) hB) (And.intro rfl (And.intro rfl (And.intro rfl (And.intro rfl (And.intro rfl trivial)))))
      · rw [if_neg q15] at hB
        refine ev_iconst 0 dL_law_862 (by decide) ?_
        cases hB
  · rw [if_neg q2] at hB
    refine ev_iconst 1 dL_law_833 (by decide) ?_
    refine ev_goto 838 dL_law_834 (by decide) ?_
    obtain ⟨r16, S17, e18, hB⟩ := bd_of hB
    refine es_callVi (As := [.int 1]) (t_X9_strike q9_0 e18) dL_law_838 oX9_strike w_761 rfl q9_0 rfl rfl (Nat.le_of_ble_eq_true rfl) rfl (fitL (by decide)) ⟨(by show cu ≤ 601024; omega), (by show su ≤ 7293033; omega)⟩ ?_
    refine ev_aload_n dL_law_841 rfl ?_
    refine ev_aload_nF dL_law_842 rfl ?_
    refine ev_iload dL_law_843 rfl ?_
    refine ev_iconst 1 dL_law_845 (by decide) ?_
    refine ev_iadd dL_law_846 ?_
    obtain ⟨c19, hB⟩ := ck_of hB
    refine ev_saload dL_law_847 (inb_in c19) ?_
    refine ev_ifeq 855 dL_law_848 (by decide) (fun q20 => ?_) (fun q20 => ?_)
    · rw [if_pos q20] at hB
      refine ev_iconst 0 dL_law_855 (by decide) ?_
      obtain ⟨r21, S22, e23, hB⟩ := bd_of hB
      refine es_callVi (As := [.int 0]) (t_X10_strike q10_78 e23) dL_law_856 oX10_strike w_2018 rfl q10_78 rfl rfl (Nat.le_of_ble_eq_true rfl) rfl (fitL (by decide)) ⟨(by show cu ≤ 601024; omega), (by show su ≤ 7293033; omega)⟩ ?_
      refine ev_icmpeq 2453 dL_law_859 (by decide) (fun q24 => ?_) (fun q24 => ?_)
      · rw [if_pos q24] at hB
        exact ev_ls (u_L_law_2453 hk23 l4 S22 cu su (by omega) hB) (And.intro rfl (And.intro rfl (And.intro rfl (And.intro rfl (And.intro rfl trivial)))))
      · rw [if_neg q24] at hB
        refine ev_iconst 0 dL_law_862 (by decide) ?_
        cases hB
    · rw [if_neg q20] at hB
      refine ev_iconst 1 dL_law_851 (by decide) ?_
      refine ev_goto 856 dL_law_852 (by decide) ?_
      obtain ⟨r25, S26, e27, hB⟩ := bd_of hB
      refine es_callVi (As := [.int 1]) (t_X10_strike q10_78 e27) dL_law_856 oX10_strike w_2018 rfl q10_78 rfl rfl (Nat.le_of_ble_eq_true rfl) rfl (fitL (by decide)) ⟨(by show cu ≤ 601024; omega), (by show su ≤ 7293033; omega)⟩ ?_
      refine ev_icmpeq 2453 dL_law_859 (by decide) (fun q28 => ?_) (fun q28 => ?_)
      · rw [if_pos q28] at hB
        exact ev_ls (u_L_law_2453 hk23 l4 S26 cu su (by omega) hB) (And.intro rfl (And.intro rfl (And.intro rfl (And.intro rfl (And.intro rfl trivial)))))
      · rw [if_neg q28] at hB
        refine ev_iconst 0 dL_law_862 (by decide) ?_
        cases hB
theorem u_L_law_c12 {G : am_G} {N n : Nat} {out : am_S} {k23 : Int32 → am_S → Option am_S} (hk23 : ∀ (l4 : Int32) (S : am_S) (cu su : Nat), (cu + n ≤ 601024 ∧ su + 6 * n ≤ 7293033) → k23 l4 S = some out → Ev G room_1 (LZ G) m_law cu su 23 [some (.float 1001), some (.ref 0), some (.ref 78), some (.ref 108), some (.int l4), none, none] [] (hp S)) (l4 : Int32) (S : am_S) (cu su : Nat) (hb : cu + (n + 1) ≤ 601024 ∧ su + 6 * (n + 1) ≤ 7293033) (hB : b_L_law_c12 N (gN G) (gX G) k23 l4 S = some out) : Ev G room_1 (LZ G) m_law cu su 864 [some (.float 1001), some (.ref 0), some (.ref 78), some (.ref 108), some (.int l4), none, none] [] (hp S) := by
  unfold b_L_law_c12 at hB
  refine ev_aload_n dL_law_864 rfl ?_
  obtain ⟨r1, S2, e3, hB⟩ := bd_of hB
  refine es_callVi (As := []) (t_X9_undo q9_0 e3) dL_law_865 oX9_undo w_770 rfl q9_0 rfl rfl (Nat.le_of_ble_eq_true rfl) rfl (fitL (by decide)) ⟨(by show cu ≤ 601024; omega), (by show su ≤ 7293033; omega)⟩ ?_
  refine ev_aload_n dL_law_868 rfl ?_
  obtain ⟨r4, S5, e6, hB⟩ := bd_of hB
  refine es_callVi (As := []) (t_X10_undo q10_78 e6) dL_law_869 oX10_undo w_1867 rfl q10_78 rfl rfl (Nat.le_of_ble_eq_true rfl) rfl (fitL (by decide)) ⟨(by show cu ≤ 601024; omega), (by show su ≤ 7293033; omega)⟩ ?_
  refine ev_icmpeq 2453 dL_law_872 (by decide) (fun q7 => ?_) (fun q7 => ?_)
  · rw [if_pos q7] at hB
    exact ev_ls (u_L_law_2453 hk23 l4 S5 cu su (by omega) hB) (And.intro rfl (And.intro rfl (And.intro rfl (And.intro rfl (And.intro rfl trivial)))))
  · rw [if_neg q7] at hB
    refine ev_iconst 0 dL_law_875 (by decide) ?_
    cases hB
theorem u_L_law_c13 {G : am_G} {N n : Nat} {out : am_S} {k23 : Int32 → am_S → Option am_S} (hk23 : ∀ (l4 : Int32) (S : am_S) (cu su : Nat), (cu + n ≤ 601024 ∧ su + 6 * n ≤ 7293033) → k23 l4 S = some out → Ev G room_1 (LZ G) m_law cu su 23 [some (.float 1001), some (.ref 0), some (.ref 78), some (.ref 108), some (.int l4), none, none] [] (hp S)) (l4 : Int32) (S : am_S) (cu su : Nat) (hb : cu + (n + 1) ≤ 601024 ∧ su + 6 * (n + 1) ≤ 7293033) (hB : b_L_law_c13 N (gN G) (gX G) k23 l4 S = some out) : Ev G room_1 (LZ G) m_law cu su 877 [some (.float 1001), some (.ref 0), some (.ref 78), some (.ref 108), some (.int l4), none, none] [] (hp S) := by
  unfold b_L_law_c13 at hB
  refine ev_aload_n dL_law_877 rfl ?_
  refine ev_aload_nF dL_law_878 rfl ?_
  refine ev_iload dL_law_879 rfl ?_
  refine ev_iconst 1 dL_law_881 (by decide) ?_
  refine ev_iadd dL_law_882 ?_
  obtain ⟨c1, hB⟩ := ck_of hB
  refine ev_saload dL_law_883 (inb_in c1) ?_
  refine ev_aload_nF dL_law_884 rfl ?_
  refine ev_iload dL_law_885 rfl ?_
  refine ev_iconst 2 dL_law_887 (by decide) ?_
  refine ev_iadd dL_law_888 ?_
  obtain ⟨c2, hB⟩ := ck_of hB
  refine ev_saload dL_law_889 (inb_in c2) ?_
  refine ev_aload_nF dL_law_890 rfl ?_
  refine ev_iload dL_law_891 rfl ?_
  refine ev_iconst 3 dL_law_893 (by decide) ?_
  refine ev_iadd dL_law_894 ?_
  obtain ⟨c3, hB⟩ := ck_of hB
  refine ev_saload dL_law_895 (inb_in c3) ?_
  refine ev_aload_n dL_law_896 rfl ?_
  obtain ⟨r4, S5, e6, hB⟩ := bd_of hB
  refine es_callW (As := [.ref 0, .int (gX G (Int32.toNatClampNeg (l4 + 1))), .int (gX G (Int32.toNatClampNeg (l4 + 2))), .int (gX G (Int32.toNatClampNeg (l4 + 3))), .ref 108]) (t_L_then q9_0 qA_108 e6) dL_law_897 oL_then w_1201 rfl (Nat.le_of_ble_eq_true rfl) rfl (fitL (by decide)) ⟨(by show cu + 1 ≤ 601024; omega), (by show su + 6 ≤ 7293033; omega)⟩ ?_
  refine ev_istore dL_law_900 (by decide) rfl ?_
  refine ev_aload_n dL_law_902 rfl ?_
  refine ev_aload_nF dL_law_903 rfl ?_
  refine ev_iload dL_law_904 rfl ?_
  refine ev_iconst 1 dL_law_906 (by decide) ?_
  refine ev_iadd dL_law_907 ?_
  obtain ⟨c7, hB⟩ := ck_of hB
  refine ev_saload dL_law_908 (inb_in c7) ?_
  refine ev_aload_nF dL_law_909 rfl ?_
  refine ev_iload dL_law_910 rfl ?_
  refine ev_iconst 2 dL_law_912 (by decide) ?_
  refine ev_iadd dL_law_913 ?_
  obtain ⟨c8, hB⟩ := ck_of hB
  refine ev_saload dL_law_914 (inb_in c8) ?_
  refine ev_aload_nF dL_law_915 rfl ?_
  refine ev_iload dL_law_916 rfl ?_
  refine ev_iconst 3 dL_law_918 (by decide) ?_
  refine ev_iadd dL_law_919 ?_
  obtain ⟨c9, hB⟩ := ck_of hB
  refine ev_saload dL_law_920 (inb_in c9) ?_
  obtain ⟨r10, S11, e12, hB⟩ := bd_of hB
  refine es_callVi (As := [.int (gX G (Int32.toNatClampNeg (l4 + 1))), .int (gX G (Int32.toNatClampNeg (l4 + 2))), .int (gX G (Int32.toNatClampNeg (l4 + 3)))]) (t_X10_then q10_78 e12) dL_law_921 oX10_then w_2022 rfl q10_78 rfl rfl (Nat.le_of_ble_eq_true rfl) rfl (fitL (by decide)) ⟨(by show (cu + 1) ≤ 601024; omega), (by show (su + 6) ≤ 7293033; omega)⟩ ?_
  refine ev_istore dL_law_924 (by decide) rfl ?_
  refine ev_aload_n dL_law_926 rfl ?_
  obtain ⟨r13, S14, e15, hB⟩ := bd_of hB
  refine es_callVi (As := []) (t_X10_thrown q10_78 e15) dL_law_927 oX10_thrown w_1728 rfl q10_78 rfl rfl (Nat.le_of_ble_eq_true rfl) rfl (fitL (by decide)) ⟨(by show (cu + 1) ≤ 601024; omega), (by show (su + 6) ≤ 7293033; omega)⟩ ?_
  refine ev_iload dL_law_930 rfl ?_
  refine ev_icmpeq 937 dL_law_932 (by decide) (fun q16 => ?_) (fun q16 => ?_)
  · rw [if_pos q16] at hB
    refine ev_iload dL_law_937 rfl ?_
    refine ev_ifne 954 dL_law_939 (by decide) (fun q17 => ?_) (fun q17 => ?_)
    · rw [if_neg q17] at hB
      refine ev_goto 2453 dL_law_954 (by decide) ?_
      exact ev_ls (u_L_law_2453 hk23 l4 S14 (cu + 1) (su + 6) (by omega) hB) (And.intro rfl (And.intro rfl (And.intro rfl (And.intro rfl (And.intro rfl trivial)))))
    · rw [if_pos q17] at hB
      refine ev_aload_n dL_law_942 rfl ?_
      refine ev_iconst 0 dL_law_943 (by decide) ?_
      obtain ⟨c18, hB⟩ := ck_of hB
      refine es_lald dL_law_944 qA_108 c18 ?_
      refine ev_iload dL_law_945 rfl ?_
      refine ev_i2l dL_law_947 ?_
      refine ev_lcmp dL_law_948 ?_
      refine ev_ifeq 954 dL_law_949 (by decide) (fun q19 => ?_) (fun q19 => ?_)
      · rw [if_pos q19] at hB
        refine ev_goto 2453 dL_law_954 (by decide) ?_
        exact ev_ls (u_L_law_2453 hk23 l4 S14 (cu + 1) (su + 6) (by omega) hB) (And.intro rfl (And.intro rfl (And.intro rfl (And.intro rfl (And.intro rfl trivial)))))
      · rw [if_neg q19] at hB
        refine ev_iconst 0 dL_law_952 (by decide) ?_
        cases hB
  · rw [if_neg q16] at hB
    refine ev_iconst 0 dL_law_935 (by decide) ?_
    cases hB
theorem u_L_law_c14 {G : am_G} {N n : Nat} {out : am_S} {k23 : Int32 → am_S → Option am_S} (hk23 : ∀ (l4 : Int32) (S : am_S) (cu su : Nat), (cu + n ≤ 601024 ∧ su + 6 * n ≤ 7293033) → k23 l4 S = some out → Ev G room_1 (LZ G) m_law cu su 23 [some (.float 1001), some (.ref 0), some (.ref 78), some (.ref 108), some (.int l4), none, none] [] (hp S)) (l4 : Int32) (S : am_S) (cu su : Nat) (hb : cu + (n + 1) ≤ 601024 ∧ su + 6 * (n + 1) ≤ 7293033) (hB : b_L_law_c14 N (gN G) (gX G) k23 l4 S = some out) : Ev G room_1 (LZ G) m_law cu su 957 [some (.float 1001), some (.ref 0), some (.ref 78), some (.ref 108), some (.int l4), none, none] [] (hp S) := by
  unfold b_L_law_c14 at hB
  refine ev_aload_n dL_law_957 rfl ?_
  refine ev_aload_nF dL_law_958 rfl ?_
  refine ev_iload dL_law_959 rfl ?_
  refine ev_iconst 1 dL_law_961 (by decide) ?_
  refine ev_iadd dL_law_962 ?_
  obtain ⟨c1, hB⟩ := ck_of hB
  refine ev_saload dL_law_963 (inb_in c1) ?_
  refine ev_aload_nF dL_law_964 rfl ?_
  refine ev_iload dL_law_965 rfl ?_
  refine ev_iconst 2 dL_law_967 (by decide) ?_
  refine ev_iadd dL_law_968 ?_
  obtain ⟨c2, hB⟩ := ck_of hB
  refine ev_saload dL_law_969 (inb_in c2) ?_
  refine ev_aload_nF dL_law_970 rfl ?_
  refine ev_iload dL_law_971 rfl ?_
  refine ev_iconst 3 dL_law_973 (by decide) ?_
  refine ev_iadd dL_law_974 ?_
  obtain ⟨c3, hB⟩ := ck_of hB
  refine ev_saload dL_law_975 (inb_in c3) ?_
  refine ev_aload_n dL_law_976 rfl ?_
  obtain ⟨r4, S5, e6, hB⟩ := bd_of hB
  refine es_callW (As := [.ref 0, .int (gX G (Int32.toNatClampNeg (l4 + 1))), .int (gX G (Int32.toNatClampNeg (l4 + 2))), .int (gX G (Int32.toNatClampNeg (l4 + 3))), .ref 108]) (t_L_later q9_0 qA_108 e6) dL_law_977 oL_later w_1219 rfl (Nat.le_of_ble_eq_true rfl) rfl (fitL (by decide)) ⟨(by show cu + 1 ≤ 601024; omega), (by show su + 6 ≤ 7293033; omega)⟩ ?_
  refine ev_istore dL_law_980 (by decide) rfl ?_
  refine ev_aload_n dL_law_982 rfl ?_
  refine ev_aload_nF dL_law_983 rfl ?_
  refine ev_iload dL_law_984 rfl ?_
  refine ev_iconst 1 dL_law_986 (by decide) ?_
  refine ev_iadd dL_law_987 ?_
  obtain ⟨c7, hB⟩ := ck_of hB
  refine ev_saload dL_law_988 (inb_in c7) ?_
  refine ev_aload_nF dL_law_989 rfl ?_
  refine ev_iload dL_law_990 rfl ?_
  refine ev_iconst 2 dL_law_992 (by decide) ?_
  refine ev_iadd dL_law_993 ?_
  obtain ⟨c8, hB⟩ := ck_of hB
  refine ev_saload dL_law_994 (inb_in c8) ?_
  refine ev_aload_nF dL_law_995 rfl ?_
  refine ev_iload dL_law_996 rfl ?_
  refine ev_iconst 3 dL_law_998 (by decide) ?_
  refine ev_iadd dL_law_999 ?_
  obtain ⟨c9, hB⟩ := ck_of hB
  refine ev_saload dL_law_1000 (inb_in c9) ?_
  obtain ⟨r10, S11, e12, hB⟩ := bd_of hB
  refine es_callVi (As := [.int (gX G (Int32.toNatClampNeg (l4 + 1))), .int (gX G (Int32.toNatClampNeg (l4 + 2))), .int (gX G (Int32.toNatClampNeg (l4 + 3)))]) (t_X10_later q10_78 e12) dL_law_1001 oX10_later w_2042 rfl q10_78 rfl rfl (Nat.le_of_ble_eq_true rfl) rfl (fitL (by decide)) ⟨(by show (cu + 1) ≤ 601024; omega), (by show (su + 6) ≤ 7293033; omega)⟩ ?_
  refine ev_istore dL_law_1004 (by decide) rfl ?_
  refine ev_aload_n dL_law_1006 rfl ?_
  obtain ⟨r13, S14, e15, hB⟩ := bd_of hB
  refine es_callVi (As := []) (t_X10_thrown q10_78 e15) dL_law_1007 oX10_thrown w_1728 rfl q10_78 rfl rfl (Nat.le_of_ble_eq_true rfl) rfl (fitL (by decide)) ⟨(by show (cu + 1) ≤ 601024; omega), (by show (su + 6) ≤ 7293033; omega)⟩ ?_
  refine ev_iload dL_law_1010 rfl ?_
  refine ev_icmpeq 1017 dL_law_1012 (by decide) (fun q16 => ?_) (fun q16 => ?_)
  · rw [if_pos q16] at hB
    refine ev_iload dL_law_1017 rfl ?_
    refine ev_ifne 1034 dL_law_1019 (by decide) (fun q17 => ?_) (fun q17 => ?_)
    · rw [if_neg q17] at hB
      refine ev_goto 2453 dL_law_1034 (by decide) ?_
      exact ev_ls (u_L_law_2453 hk23 l4 S14 (cu + 1) (su + 6) (by omega) hB) (And.intro rfl (And.intro rfl (And.intro rfl (And.intro rfl (And.intro rfl trivial)))))
    · rw [if_pos q17] at hB
      refine ev_aload_n dL_law_1022 rfl ?_
      refine ev_iconst 0 dL_law_1023 (by decide) ?_
      obtain ⟨c18, hB⟩ := ck_of hB
      refine es_lald dL_law_1024 qA_108 c18 ?_
      refine ev_iload dL_law_1025 rfl ?_
      refine ev_i2l dL_law_1027 ?_
      refine ev_lcmp dL_law_1028 ?_
      refine ev_ifeq 1034 dL_law_1029 (by decide) (fun q19 => ?_) (fun q19 => ?_)
      · rw [if_pos q19] at hB
        refine ev_goto 2453 dL_law_1034 (by decide) ?_
        exact ev_ls (u_L_law_2453 hk23 l4 S14 (cu + 1) (su + 6) (by omega) hB) (And.intro rfl (And.intro rfl (And.intro rfl (And.intro rfl (And.intro rfl trivial)))))
      · rw [if_neg q19] at hB
        refine ev_iconst 0 dL_law_1032 (by decide) ?_
        cases hB
  · rw [if_neg q16] at hB
    refine ev_iconst 0 dL_law_1015 (by decide) ?_
    cases hB
theorem u_L_law_c15 {G : am_G} {N n : Nat} {out : am_S} {k23 : Int32 → am_S → Option am_S} (hk23 : ∀ (l4 : Int32) (S : am_S) (cu su : Nat), (cu + n ≤ 601024 ∧ su + 6 * n ≤ 7293033) → k23 l4 S = some out → Ev G room_1 (LZ G) m_law cu su 23 [some (.float 1001), some (.ref 0), some (.ref 78), some (.ref 108), some (.int l4), none, none] [] (hp S)) (l4 : Int32) (S : am_S) (cu su : Nat) (hb : cu + (n + 1) ≤ 601024 ∧ su + 6 * (n + 1) ≤ 7293033) (hB : b_L_law_c15 N (gN G) (gX G) k23 l4 S = some out) : Ev G room_1 (LZ G) m_law cu su 1037 [some (.float 1001), some (.ref 0), some (.ref 78), some (.ref 108), some (.int l4), none, none] [] (hp S) := by
  unfold b_L_law_c15 at hB
  refine ev_aload_n dL_law_1037 rfl ?_
  refine ev_aload_nF dL_law_1038 rfl ?_
  refine ev_iload dL_law_1039 rfl ?_
  refine ev_iconst 1 dL_law_1041 (by decide) ?_
  refine ev_iadd dL_law_1042 ?_
  obtain ⟨c1, hB⟩ := ck_of hB
  refine ev_saload dL_law_1043 (inb_in c1) ?_
  refine ev_aload_n dL_law_1044 rfl ?_
  obtain ⟨r2, S3, e4, hB⟩ := bd_of hB
  refine es_callW (As := [.ref 0, .int (gX G (Int32.toNatClampNeg (l4 + 1))), .ref 108]) (t_L_first q9_0 qA_108 e4) dL_law_1045 oL_first w_1226 rfl (Nat.le_of_ble_eq_true rfl) rfl (fitL (by decide)) ⟨(by show cu + 1 ≤ 601024; omega), (by show su + 6 ≤ 7293033; omega)⟩ ?_
  refine ev_istore dL_law_1048 (by decide) rfl ?_
  refine ev_aload_n dL_law_1050 rfl ?_
  refine ev_aload_nF dL_law_1051 rfl ?_
  refine ev_iload dL_law_1052 rfl ?_
  refine ev_iconst 1 dL_law_1054 (by decide) ?_
  refine ev_iadd dL_law_1055 ?_
  obtain ⟨c5, hB⟩ := ck_of hB
  refine ev_saload dL_law_1056 (inb_in c5) ?_
  obtain ⟨r6, S7, e8, hB⟩ := bd_of hB
  refine es_callVi (As := [.int (gX G (Int32.toNatClampNeg (l4 + 1)))]) (t_X10_first q10_78 e8) dL_law_1057 oX10_first w_2046 rfl q10_78 rfl rfl (Nat.le_of_ble_eq_true rfl) rfl (fitL (by decide)) ⟨(by show (cu + 1) ≤ 601024; omega), (by show (su + 6) ≤ 7293033; omega)⟩ ?_
  refine ev_istore dL_law_1060 (by decide) rfl ?_
  refine ev_aload_n dL_law_1062 rfl ?_
  obtain ⟨r9, S10, e11, hB⟩ := bd_of hB
  refine es_callVi (As := []) (t_X10_thrown q10_78 e11) dL_law_1063 oX10_thrown w_1728 rfl q10_78 rfl rfl (Nat.le_of_ble_eq_true rfl) rfl (fitL (by decide)) ⟨(by show (cu + 1) ≤ 601024; omega), (by show (su + 6) ≤ 7293033; omega)⟩ ?_
  refine ev_iload dL_law_1066 rfl ?_
  refine ev_icmpeq 1073 dL_law_1068 (by decide) (fun q12 => ?_) (fun q12 => ?_)
  · rw [if_pos q12] at hB
    refine ev_iload dL_law_1073 rfl ?_
    refine ev_ifne 1090 dL_law_1075 (by decide) (fun q13 => ?_) (fun q13 => ?_)
    · rw [if_neg q13] at hB
      refine ev_goto 2453 dL_law_1090 (by decide) ?_
      exact ev_ls (u_L_law_2453 hk23 l4 S10 (cu + 1) (su + 6) (by omega) hB) (And.intro rfl (And.intro rfl (And.intro rfl (And.intro rfl (And.intro rfl trivial)))))
    · rw [if_pos q13] at hB
      refine ev_aload_n dL_law_1078 rfl ?_
      refine ev_iconst 0 dL_law_1079 (by decide) ?_
      obtain ⟨c14, hB⟩ := ck_of hB
      refine es_lald dL_law_1080 qA_108 c14 ?_
      refine ev_iload dL_law_1081 rfl ?_
      refine ev_i2l dL_law_1083 ?_
      refine ev_lcmp dL_law_1084 ?_
      refine ev_ifeq 1090 dL_law_1085 (by decide) (fun q15 => ?_) (fun q15 => ?_)
      · rw [if_pos q15] at hB
        refine ev_goto 2453 dL_law_1090 (by decide) ?_
        exact ev_ls (u_L_law_2453 hk23 l4 S10 (cu + 1) (su + 6) (by omega) hB) (And.intro rfl (And.intro rfl (And.intro rfl (And.intro rfl (And.intro rfl trivial)))))
      · rw [if_neg q15] at hB
        refine ev_iconst 0 dL_law_1088 (by decide) ?_
        cases hB
  · rw [if_neg q12] at hB
    refine ev_iconst 0 dL_law_1071 (by decide) ?_
    cases hB
theorem u_L_law_c16 {G : am_G} {N n : Nat} {out : am_S} {k23 : Int32 → am_S → Option am_S} (hk23 : ∀ (l4 : Int32) (S : am_S) (cu su : Nat), (cu + n ≤ 601024 ∧ su + 6 * n ≤ 7293033) → k23 l4 S = some out → Ev G room_1 (LZ G) m_law cu su 23 [some (.float 1001), some (.ref 0), some (.ref 78), some (.ref 108), some (.int l4), none, none] [] (hp S)) (l4 : Int32) (S : am_S) (cu su : Nat) (hb : cu + (n + 1) ≤ 601024 ∧ su + 6 * (n + 1) ≤ 7293033) (hB : b_L_law_c16 N (gN G) (gX G) k23 l4 S = some out) : Ev G room_1 (LZ G) m_law cu su 1093 [some (.float 1001), some (.ref 0), some (.ref 78), some (.ref 108), some (.int l4), none, none] [] (hp S) := by
  unfold b_L_law_c16 at hB
  refine ev_aload_n dL_law_1093 rfl ?_
  refine ev_aload_nF dL_law_1094 rfl ?_
  refine ev_iload dL_law_1095 rfl ?_
  refine ev_iconst 1 dL_law_1097 (by decide) ?_
  refine ev_iadd dL_law_1098 ?_
  obtain ⟨c1, hB⟩ := ck_of hB
  refine ev_saload dL_law_1099 (inb_in c1) ?_
  refine ev_aload_nF dL_law_1100 rfl ?_
  refine ev_iload dL_law_1101 rfl ?_
  refine ev_iconst 2 dL_law_1103 (by decide) ?_
  refine ev_iadd dL_law_1104 ?_
  obtain ⟨c2, hB⟩ := ck_of hB
  refine ev_saload dL_law_1105 (inb_in c2) ?_
  refine ev_aload_n dL_law_1106 rfl ?_
  obtain ⟨r3, S4, e5, hB⟩ := bd_of hB
  refine es_callW (As := [.ref 0, .int (gX G (Int32.toNatClampNeg (l4 + 1))), .int (gX G (Int32.toNatClampNeg (l4 + 2))), .ref 108]) (t_L_full q9_0 qA_108 e5) dL_law_1107 oL_full w_1233 rfl (Nat.le_of_ble_eq_true rfl) rfl (fitL (by decide)) ⟨(by show cu + 1 ≤ 601024; omega), (by show su + 6 ≤ 7293033; omega)⟩ ?_
  refine ev_istore dL_law_1110 (by decide) rfl ?_
  refine ev_aload_n dL_law_1112 rfl ?_
  refine ev_aload_nF dL_law_1113 rfl ?_
  refine ev_iload dL_law_1114 rfl ?_
  refine ev_iconst 1 dL_law_1116 (by decide) ?_
  refine ev_iadd dL_law_1117 ?_
  obtain ⟨c6, hB⟩ := ck_of hB
  refine ev_saload dL_law_1118 (inb_in c6) ?_
  refine ev_aload_nF dL_law_1119 rfl ?_
  refine ev_iload dL_law_1120 rfl ?_
  refine ev_iconst 2 dL_law_1122 (by decide) ?_
  refine ev_iadd dL_law_1123 ?_
  obtain ⟨c7, hB⟩ := ck_of hB
  refine ev_saload dL_law_1124 (inb_in c7) ?_
  obtain ⟨r8, S9, e10, hB⟩ := bd_of hB
  refine es_callVi (As := [.int (gX G (Int32.toNatClampNeg (l4 + 1))), .int (gX G (Int32.toNatClampNeg (l4 + 2)))]) (t_X10_full q10_78 e10) dL_law_1125 oX10_full w_2050 rfl q10_78 rfl rfl (Nat.le_of_ble_eq_true rfl) rfl (fitL (by decide)) ⟨(by show (cu + 1) ≤ 601024; omega), (by show (su + 6) ≤ 7293033; omega)⟩ ?_
  refine ev_istore dL_law_1128 (by decide) rfl ?_
  refine ev_aload_n dL_law_1130 rfl ?_
  obtain ⟨r11, S12, e13, hB⟩ := bd_of hB
  refine es_callVi (As := []) (t_X10_thrown q10_78 e13) dL_law_1131 oX10_thrown w_1728 rfl q10_78 rfl rfl (Nat.le_of_ble_eq_true rfl) rfl (fitL (by decide)) ⟨(by show (cu + 1) ≤ 601024; omega), (by show (su + 6) ≤ 7293033; omega)⟩ ?_
  refine ev_iload dL_law_1134 rfl ?_
  refine ev_icmpeq 1141 dL_law_1136 (by decide) (fun q14 => ?_) (fun q14 => ?_)
  · rw [if_pos q14] at hB
    refine ev_iload dL_law_1141 rfl ?_
    refine ev_ifne 1158 dL_law_1143 (by decide) (fun q15 => ?_) (fun q15 => ?_)
    · rw [if_neg q15] at hB
      refine ev_goto 2453 dL_law_1158 (by decide) ?_
      exact ev_ls (u_L_law_2453 hk23 l4 S12 (cu + 1) (su + 6) (by omega) hB) (And.intro rfl (And.intro rfl (And.intro rfl (And.intro rfl (And.intro rfl trivial)))))
    · rw [if_pos q15] at hB
      refine ev_aload_n dL_law_1146 rfl ?_
      refine ev_iconst 0 dL_law_1147 (by decide) ?_
      obtain ⟨c16, hB⟩ := ck_of hB
      refine es_lald dL_law_1148 qA_108 c16 ?_
      refine ev_iload dL_law_1149 rfl ?_
      refine ev_i2l dL_law_1151 ?_
      refine ev_lcmp dL_law_1152 ?_
      refine ev_ifeq 1158 dL_law_1153 (by decide) (fun q17 => ?_) (fun q17 => ?_)
      · rw [if_pos q17] at hB
        refine ev_goto 2453 dL_law_1158 (by decide) ?_
        exact ev_ls (u_L_law_2453 hk23 l4 S12 (cu + 1) (su + 6) (by omega) hB) (And.intro rfl (And.intro rfl (And.intro rfl (And.intro rfl (And.intro rfl trivial)))))
      · rw [if_neg q17] at hB
        refine ev_iconst 0 dL_law_1156 (by decide) ?_
        cases hB
  · rw [if_neg q14] at hB
    refine ev_iconst 0 dL_law_1139 (by decide) ?_
    cases hB
theorem u_L_law_c17 {G : am_G} {N n : Nat} {out : am_S} {k23 : Int32 → am_S → Option am_S} (hk23 : ∀ (l4 : Int32) (S : am_S) (cu su : Nat), (cu + n ≤ 601024 ∧ su + 6 * n ≤ 7293033) → k23 l4 S = some out → Ev G room_1 (LZ G) m_law cu su 23 [some (.float 1001), some (.ref 0), some (.ref 78), some (.ref 108), some (.int l4), none, none] [] (hp S)) (l4 : Int32) (S : am_S) (cu su : Nat) (hb : cu + (n + 1) ≤ 601024 ∧ su + 6 * (n + 1) ≤ 7293033) (hB : b_L_law_c17 N (gN G) (gX G) k23 l4 S = some out) : Ev G room_1 (LZ G) m_law cu su 1161 [some (.float 1001), some (.ref 0), some (.ref 78), some (.ref 108), some (.int l4), none, none] [] (hp S) := by
  unfold b_L_law_c17 at hB
  refine ev_aload_n dL_law_1161 rfl ?_
  refine ev_aload_nF dL_law_1162 rfl ?_
  refine ev_iload dL_law_1163 rfl ?_
  refine ev_iconst 1 dL_law_1165 (by decide) ?_
  refine ev_iadd dL_law_1166 ?_
  obtain ⟨c1, hB⟩ := ck_of hB
  refine ev_saload dL_law_1167 (inb_in c1) ?_
  refine ev_aload_nF dL_law_1168 rfl ?_
  refine ev_iload dL_law_1169 rfl ?_
  refine ev_iconst 2 dL_law_1171 (by decide) ?_
  refine ev_iadd dL_law_1172 ?_
  obtain ⟨c2, hB⟩ := ck_of hB
  refine ev_saload dL_law_1173 (inb_in c2) ?_
  refine ev_aload_n dL_law_1174 rfl ?_
  obtain ⟨r3, S4, e5, hB⟩ := bd_of hB
  refine es_callW (As := [.ref 0, .int (gX G (Int32.toNatClampNeg (l4 + 1))), .int (gX G (Int32.toNatClampNeg (l4 + 2))), .ref 108]) (t_L_most q9_0 qA_108 e5) dL_law_1175 oL_most w_1240 rfl (Nat.le_of_ble_eq_true rfl) rfl (fitL (by decide)) ⟨(by show cu + 1 ≤ 601024; omega), (by show su + 6 ≤ 7293033; omega)⟩ ?_
  refine ev_istore dL_law_1178 (by decide) rfl ?_
  refine ev_aload_n dL_law_1180 rfl ?_
  refine ev_aload_nF dL_law_1181 rfl ?_
  refine ev_iload dL_law_1182 rfl ?_
  refine ev_iconst 1 dL_law_1184 (by decide) ?_
  refine ev_iadd dL_law_1185 ?_
  obtain ⟨c6, hB⟩ := ck_of hB
  refine ev_saload dL_law_1186 (inb_in c6) ?_
  refine ev_aload_nF dL_law_1187 rfl ?_
  refine ev_iload dL_law_1188 rfl ?_
  refine ev_iconst 2 dL_law_1190 (by decide) ?_
  refine ev_iadd dL_law_1191 ?_
  obtain ⟨c7, hB⟩ := ck_of hB
  refine ev_saload dL_law_1192 (inb_in c7) ?_
  obtain ⟨r8, S9, e10, hB⟩ := bd_of hB
  refine es_callVi (As := [.int (gX G (Int32.toNatClampNeg (l4 + 1))), .int (gX G (Int32.toNatClampNeg (l4 + 2)))]) (t_X10_most q10_78 e10) dL_law_1193 oX10_most w_2054 rfl q10_78 rfl rfl (Nat.le_of_ble_eq_true rfl) rfl (fitL (by decide)) ⟨(by show (cu + 1) ≤ 601024; omega), (by show (su + 6) ≤ 7293033; omega)⟩ ?_
  refine ev_istore dL_law_1196 (by decide) rfl ?_
  refine ev_aload_n dL_law_1198 rfl ?_
  obtain ⟨r11, S12, e13, hB⟩ := bd_of hB
  refine es_callVi (As := []) (t_X10_thrown q10_78 e13) dL_law_1199 oX10_thrown w_1728 rfl q10_78 rfl rfl (Nat.le_of_ble_eq_true rfl) rfl (fitL (by decide)) ⟨(by show (cu + 1) ≤ 601024; omega), (by show (su + 6) ≤ 7293033; omega)⟩ ?_
  refine ev_iload dL_law_1202 rfl ?_
  refine ev_icmpeq 1209 dL_law_1204 (by decide) (fun q14 => ?_) (fun q14 => ?_)
  · rw [if_pos q14] at hB
    refine ev_iload dL_law_1209 rfl ?_
    refine ev_ifne 1226 dL_law_1211 (by decide) (fun q15 => ?_) (fun q15 => ?_)
    · rw [if_neg q15] at hB
      refine ev_goto 2453 dL_law_1226 (by decide) ?_
      exact ev_ls (u_L_law_2453 hk23 l4 S12 (cu + 1) (su + 6) (by omega) hB) (And.intro rfl (And.intro rfl (And.intro rfl (And.intro rfl (And.intro rfl trivial)))))
    · rw [if_pos q15] at hB
      refine ev_aload_n dL_law_1214 rfl ?_
      refine ev_iconst 0 dL_law_1215 (by decide) ?_
      obtain ⟨c16, hB⟩ := ck_of hB
      refine es_lald dL_law_1216 qA_108 c16 ?_
      refine ev_iload dL_law_1217 rfl ?_
      refine ev_i2l dL_law_1219 ?_
      refine ev_lcmp dL_law_1220 ?_
      refine ev_ifeq 1226 dL_law_1221 (by decide) (fun q17 => ?_) (fun q17 => ?_)
      · rw [if_pos q17] at hB
        refine ev_goto 2453 dL_law_1226 (by decide) ?_
        exact ev_ls (u_L_law_2453 hk23 l4 S12 (cu + 1) (su + 6) (by omega) hB) (And.intro rfl (And.intro rfl (And.intro rfl (And.intro rfl (And.intro rfl trivial)))))
      · rw [if_neg q17] at hB
        refine ev_iconst 0 dL_law_1224 (by decide) ?_
        cases hB
  · rw [if_neg q14] at hB
    refine ev_iconst 0 dL_law_1207 (by decide) ?_
    cases hB
theorem u_L_law_c18 {G : am_G} {N n : Nat} {out : am_S} {k23 : Int32 → am_S → Option am_S} (hk23 : ∀ (l4 : Int32) (S : am_S) (cu su : Nat), (cu + n ≤ 601024 ∧ su + 6 * n ≤ 7293033) → k23 l4 S = some out → Ev G room_1 (LZ G) m_law cu su 23 [some (.float 1001), some (.ref 0), some (.ref 78), some (.ref 108), some (.int l4), none, none] [] (hp S)) (l4 : Int32) (S : am_S) (cu su : Nat) (hb : cu + (n + 1) ≤ 601024 ∧ su + 6 * (n + 1) ≤ 7293033) (hB : b_L_law_c18 N (gN G) (gX G) k23 l4 S = some out) : Ev G room_1 (LZ G) m_law cu su 1229 [some (.float 1001), some (.ref 0), some (.ref 78), some (.ref 108), some (.int l4), none, none] [] (hp S) := by
  unfold b_L_law_c18 at hB
  refine ev_aload_n dL_law_1229 rfl ?_
  refine ev_aload_nF dL_law_1230 rfl ?_
  refine ev_iload dL_law_1231 rfl ?_
  refine ev_iconst 1 dL_law_1233 (by decide) ?_
  refine ev_iadd dL_law_1234 ?_
  obtain ⟨c1, hB⟩ := ck_of hB
  refine ev_saload dL_law_1235 (inb_in c1) ?_
  refine ev_aload_n dL_law_1236 rfl ?_
  obtain ⟨r2, S3, e4, hB⟩ := bd_of hB
  refine es_callW (As := [.ref 0, .int (gX G (Int32.toNatClampNeg (l4 + 1))), .ref 108]) (t_L_ring q9_0 qA_108 e4) dL_law_1237 oL_ring w_1263 rfl (Nat.le_of_ble_eq_true rfl) rfl (fitL (by decide)) ⟨(by show cu + 1 ≤ 601024; omega), (by show su + 6 ≤ 7293033; omega)⟩ ?_
  refine ev_istore dL_law_1240 (by decide) rfl ?_
  refine ev_aload_n dL_law_1242 rfl ?_
  refine ev_aload_nF dL_law_1243 rfl ?_
  refine ev_iload dL_law_1244 rfl ?_
  refine ev_iconst 1 dL_law_1246 (by decide) ?_
  refine ev_iadd dL_law_1247 ?_
  obtain ⟨c5, hB⟩ := ck_of hB
  refine ev_saload dL_law_1248 (inb_in c5) ?_
  obtain ⟨r6, S7, e8, hB⟩ := bd_of hB
  refine es_callVi (As := [.int (gX G (Int32.toNatClampNeg (l4 + 1)))]) (t_X10_ring q10_78 e8) dL_law_1249 oX10_ring w_2090 rfl q10_78 rfl rfl (Nat.le_of_ble_eq_true rfl) rfl (fitL (by decide)) ⟨(by show (cu + 1) ≤ 601024; omega), (by show (su + 6) ≤ 7293033; omega)⟩ ?_
  refine ev_istore dL_law_1252 (by decide) rfl ?_
  refine ev_aload_n dL_law_1254 rfl ?_
  obtain ⟨r9, S10, e11, hB⟩ := bd_of hB
  refine es_callVi (As := []) (t_X10_thrown q10_78 e11) dL_law_1255 oX10_thrown w_1728 rfl q10_78 rfl rfl (Nat.le_of_ble_eq_true rfl) rfl (fitL (by decide)) ⟨(by show (cu + 1) ≤ 601024; omega), (by show (su + 6) ≤ 7293033; omega)⟩ ?_
  refine ev_iload dL_law_1258 rfl ?_
  refine ev_icmpeq 1265 dL_law_1260 (by decide) (fun q12 => ?_) (fun q12 => ?_)
  · rw [if_pos q12] at hB
    refine ev_iload dL_law_1265 rfl ?_
    refine ev_ifne 1282 dL_law_1267 (by decide) (fun q13 => ?_) (fun q13 => ?_)
    · rw [if_neg q13] at hB
      refine ev_goto 2453 dL_law_1282 (by decide) ?_
      exact ev_ls (u_L_law_2453 hk23 l4 S10 (cu + 1) (su + 6) (by omega) hB) (And.intro rfl (And.intro rfl (And.intro rfl (And.intro rfl (And.intro rfl trivial)))))
    · rw [if_pos q13] at hB
      refine ev_aload_n dL_law_1270 rfl ?_
      refine ev_iconst 0 dL_law_1271 (by decide) ?_
      obtain ⟨c14, hB⟩ := ck_of hB
      refine es_lald dL_law_1272 qA_108 c14 ?_
      refine ev_iload dL_law_1273 rfl ?_
      refine ev_i2l dL_law_1275 ?_
      refine ev_lcmp dL_law_1276 ?_
      refine ev_ifeq 1282 dL_law_1277 (by decide) (fun q15 => ?_) (fun q15 => ?_)
      · rw [if_pos q15] at hB
        refine ev_goto 2453 dL_law_1282 (by decide) ?_
        exact ev_ls (u_L_law_2453 hk23 l4 S10 (cu + 1) (su + 6) (by omega) hB) (And.intro rfl (And.intro rfl (And.intro rfl (And.intro rfl (And.intro rfl trivial)))))
      · rw [if_neg q15] at hB
        refine ev_iconst 0 dL_law_1280 (by decide) ?_
        cases hB
  · rw [if_neg q12] at hB
    refine ev_iconst 0 dL_law_1263 (by decide) ?_
    cases hB
theorem u_L_law_c19 {G : am_G} {N n : Nat} {out : am_S} {k23 : Int32 → am_S → Option am_S} (hk23 : ∀ (l4 : Int32) (S : am_S) (cu su : Nat), (cu + n ≤ 601024 ∧ su + 6 * n ≤ 7293033) → k23 l4 S = some out → Ev G room_1 (LZ G) m_law cu su 23 [some (.float 1001), some (.ref 0), some (.ref 78), some (.ref 108), some (.int l4), none, none] [] (hp S)) (l4 : Int32) (S : am_S) (cu su : Nat) (hb : cu + (n + 1) ≤ 601024 ∧ su + 6 * (n + 1) ≤ 7293033) (hB : b_L_law_c19 N (gN G) (gX G) k23 l4 S = some out) : Ev G room_1 (LZ G) m_law cu su 1285 [some (.float 1001), some (.ref 0), some (.ref 78), some (.ref 108), some (.int l4), none, none] [] (hp S) := by
  unfold b_L_law_c19 at hB
  refine ev_aload_n dL_law_1285 rfl ?_
  refine ev_aload_nF dL_law_1286 rfl ?_
  refine ev_iload dL_law_1287 rfl ?_
  refine ev_iconst 1 dL_law_1289 (by decide) ?_
  refine ev_iadd dL_law_1290 ?_
  obtain ⟨c1, hB⟩ := ck_of hB
  refine ev_saload dL_law_1291 (inb_in c1) ?_
  refine ev_aload_n dL_law_1292 rfl ?_
  obtain ⟨r2, S3, e4, hB⟩ := bd_of hB
  refine es_callW (As := [.ref 0, .int (gX G (Int32.toNatClampNeg (l4 + 1))), .ref 108]) (t_L_comesTo q9_0 qA_108 e4) dL_law_1293 oL_comesTo w_1274 rfl (Nat.le_of_ble_eq_true rfl) rfl (fitL (by decide)) ⟨(by show cu + 1 ≤ 601024; omega), (by show su + 6 ≤ 7293033; omega)⟩ ?_
  refine ev_istore dL_law_1296 (by decide) rfl ?_
  refine ev_aload_n dL_law_1298 rfl ?_
  refine ev_aload_nF dL_law_1299 rfl ?_
  refine ev_iload dL_law_1300 rfl ?_
  refine ev_iconst 1 dL_law_1302 (by decide) ?_
  refine ev_iadd dL_law_1303 ?_
  obtain ⟨c5, hB⟩ := ck_of hB
  refine ev_saload dL_law_1304 (inb_in c5) ?_
  obtain ⟨r6, S7, e8, hB⟩ := bd_of hB
  refine es_callVi (As := [.int (gX G (Int32.toNatClampNeg (l4 + 1)))]) (t_X10_comesTo q10_78 e8) dL_law_1305 oX10_comesTo w_2098 rfl q10_78 rfl rfl (Nat.le_of_ble_eq_true rfl) rfl (fitL (by decide)) ⟨(by show (cu + 1) ≤ 601024; omega), (by show (su + 6) ≤ 7293033; omega)⟩ ?_
  refine ev_istore dL_law_1308 (by decide) rfl ?_
  refine ev_aload_n dL_law_1310 rfl ?_
  obtain ⟨r9, S10, e11, hB⟩ := bd_of hB
  refine es_callVi (As := []) (t_X10_thrown q10_78 e11) dL_law_1311 oX10_thrown w_1728 rfl q10_78 rfl rfl (Nat.le_of_ble_eq_true rfl) rfl (fitL (by decide)) ⟨(by show (cu + 1) ≤ 601024; omega), (by show (su + 6) ≤ 7293033; omega)⟩ ?_
  refine ev_iload dL_law_1314 rfl ?_
  refine ev_icmpeq 1321 dL_law_1316 (by decide) (fun q12 => ?_) (fun q12 => ?_)
  · rw [if_pos q12] at hB
    refine ev_iload dL_law_1321 rfl ?_
    refine ev_ifne 1338 dL_law_1323 (by decide) (fun q13 => ?_) (fun q13 => ?_)
    · rw [if_neg q13] at hB
      refine ev_goto 2453 dL_law_1338 (by decide) ?_
      exact ev_ls (u_L_law_2453 hk23 l4 S10 (cu + 1) (su + 6) (by omega) hB) (And.intro rfl (And.intro rfl (And.intro rfl (And.intro rfl (And.intro rfl trivial)))))
    · rw [if_pos q13] at hB
      refine ev_aload_n dL_law_1326 rfl ?_
      refine ev_iconst 0 dL_law_1327 (by decide) ?_
      obtain ⟨c14, hB⟩ := ck_of hB
      refine es_lald dL_law_1328 qA_108 c14 ?_
      refine ev_iload dL_law_1329 rfl ?_
      refine ev_i2l dL_law_1331 ?_
      refine ev_lcmp dL_law_1332 ?_
      refine ev_ifeq 1338 dL_law_1333 (by decide) (fun q15 => ?_) (fun q15 => ?_)
      · rw [if_pos q15] at hB
        refine ev_goto 2453 dL_law_1338 (by decide) ?_
        exact ev_ls (u_L_law_2453 hk23 l4 S10 (cu + 1) (su + 6) (by omega) hB) (And.intro rfl (And.intro rfl (And.intro rfl (And.intro rfl (And.intro rfl trivial)))))
      · rw [if_neg q15] at hB
        refine ev_iconst 0 dL_law_1336 (by decide) ?_
        cases hB
  · rw [if_neg q12] at hB
    refine ev_iconst 0 dL_law_1319 (by decide) ?_
    cases hB
theorem u_L_law_c20 {G : am_G} {N n : Nat} {out : am_S} {k23 : Int32 → am_S → Option am_S} (hk23 : ∀ (l4 : Int32) (S : am_S) (cu su : Nat), (cu + n ≤ 601024 ∧ su + 6 * n ≤ 7293033) → k23 l4 S = some out → Ev G room_1 (LZ G) m_law cu su 23 [some (.float 1001), some (.ref 0), some (.ref 78), some (.ref 108), some (.int l4), none, none] [] (hp S)) (l4 : Int32) (S : am_S) (cu su : Nat) (hb : cu + (n + 1) ≤ 601024 ∧ su + 6 * (n + 1) ≤ 7293033) (hB : b_L_law_c20 N (gN G) (gX G) k23 l4 S = some out) : Ev G room_1 (LZ G) m_law cu su 1341 [some (.float 1001), some (.ref 0), some (.ref 78), some (.ref 108), some (.int l4), none, none] [] (hp S) := by
  unfold b_L_law_c20 at hB
  refine ev_aload_n dL_law_1341 rfl ?_
  refine ev_aload_nF dL_law_1342 rfl ?_
  refine ev_iload dL_law_1343 rfl ?_
  refine ev_iconst 1 dL_law_1345 (by decide) ?_
  refine ev_iadd dL_law_1346 ?_
  obtain ⟨c1, hB⟩ := ck_of hB
  refine ev_saload dL_law_1347 (inb_in c1) ?_
  refine ev_aload_n dL_law_1348 rfl ?_
  obtain ⟨r2, S3, e4, hB⟩ := bd_of hB
  refine es_callW (As := [.ref 0, .int (gX G (Int32.toNatClampNeg (l4 + 1))), .ref 108]) (t_L_toCover q9_0 qA_108 e4) dL_law_1349 oL_toCover w_1281 rfl (Nat.le_of_ble_eq_true rfl) rfl (fitL (by decide)) ⟨(by show cu + 1 ≤ 601024; omega), (by show su + 6 ≤ 7293033; omega)⟩ ?_
  refine ev_istore dL_law_1352 (by decide) rfl ?_
  refine ev_aload_n dL_law_1354 rfl ?_
  refine ev_aload_nF dL_law_1355 rfl ?_
  refine ev_iload dL_law_1356 rfl ?_
  refine ev_iconst 1 dL_law_1358 (by decide) ?_
  refine ev_iadd dL_law_1359 ?_
  obtain ⟨c5, hB⟩ := ck_of hB
  refine ev_saload dL_law_1360 (inb_in c5) ?_
  obtain ⟨r6, S7, e8, hB⟩ := bd_of hB
  refine es_callVi (As := [.int (gX G (Int32.toNatClampNeg (l4 + 1)))]) (t_X10_toCover q10_78 e8) dL_law_1361 oX10_toCover w_2110 rfl q10_78 rfl rfl (Nat.le_of_ble_eq_true rfl) rfl (fitL (by decide)) ⟨(by show (cu + 1) ≤ 601024; omega), (by show (su + 6) ≤ 7293033; omega)⟩ ?_
  refine ev_istore dL_law_1364 (by decide) rfl ?_
  refine ev_aload_n dL_law_1366 rfl ?_
  obtain ⟨r9, S10, e11, hB⟩ := bd_of hB
  refine es_callVi (As := []) (t_X10_thrown q10_78 e11) dL_law_1367 oX10_thrown w_1728 rfl q10_78 rfl rfl (Nat.le_of_ble_eq_true rfl) rfl (fitL (by decide)) ⟨(by show (cu + 1) ≤ 601024; omega), (by show (su + 6) ≤ 7293033; omega)⟩ ?_
  refine ev_iload dL_law_1370 rfl ?_
  refine ev_icmpeq 1377 dL_law_1372 (by decide) (fun q12 => ?_) (fun q12 => ?_)
  · rw [if_pos q12] at hB
    refine ev_iload dL_law_1377 rfl ?_
    refine ev_ifne 1394 dL_law_1379 (by decide) (fun q13 => ?_) (fun q13 => ?_)
    · rw [if_neg q13] at hB
      refine ev_goto 2453 dL_law_1394 (by decide) ?_
      exact ev_ls (u_L_law_2453 hk23 l4 S10 (cu + 1) (su + 6) (by omega) hB) (And.intro rfl (And.intro rfl (And.intro rfl (And.intro rfl (And.intro rfl trivial)))))
    · rw [if_pos q13] at hB
      refine ev_aload_n dL_law_1382 rfl ?_
      refine ev_iconst 0 dL_law_1383 (by decide) ?_
      obtain ⟨c14, hB⟩ := ck_of hB
      refine es_lald dL_law_1384 qA_108 c14 ?_
      refine ev_iload dL_law_1385 rfl ?_
      refine ev_i2l dL_law_1387 ?_
      refine ev_lcmp dL_law_1388 ?_
      refine ev_ifeq 1394 dL_law_1389 (by decide) (fun q15 => ?_) (fun q15 => ?_)
      · rw [if_pos q15] at hB
        refine ev_goto 2453 dL_law_1394 (by decide) ?_
        exact ev_ls (u_L_law_2453 hk23 l4 S10 (cu + 1) (su + 6) (by omega) hB) (And.intro rfl (And.intro rfl (And.intro rfl (And.intro rfl (And.intro rfl trivial)))))
      · rw [if_neg q15] at hB
        refine ev_iconst 0 dL_law_1392 (by decide) ?_
        cases hB
  · rw [if_neg q12] at hB
    refine ev_iconst 0 dL_law_1375 (by decide) ?_
    cases hB
theorem u_L_law_c21 {G : am_G} {N n : Nat} {out : am_S} {k23 : Int32 → am_S → Option am_S} (hk23 : ∀ (l4 : Int32) (S : am_S) (cu su : Nat), (cu + n ≤ 601024 ∧ su + 6 * n ≤ 7293033) → k23 l4 S = some out → Ev G room_1 (LZ G) m_law cu su 23 [some (.float 1001), some (.ref 0), some (.ref 78), some (.ref 108), some (.int l4), none, none] [] (hp S)) (l4 : Int32) (S : am_S) (cu su : Nat) (hb : cu + (n + 1) ≤ 601024 ∧ su + 6 * (n + 1) ≤ 7293033) (hB : b_L_law_c21 N (gN G) (gX G) k23 l4 S = some out) : Ev G room_1 (LZ G) m_law cu su 1397 [some (.float 1001), some (.ref 0), some (.ref 78), some (.ref 108), some (.int l4), none, none] [] (hp S) := by
  unfold b_L_law_c21 at hB
  refine ev_aload_n dL_law_1397 rfl ?_
  refine ev_aload_nF dL_law_1398 rfl ?_
  refine ev_iload dL_law_1399 rfl ?_
  refine ev_iconst 1 dL_law_1401 (by decide) ?_
  refine ev_iadd dL_law_1402 ?_
  obtain ⟨c1, hB⟩ := ck_of hB
  refine ev_saload dL_law_1403 (inb_in c1) ?_
  refine ev_aload_n dL_law_1404 rfl ?_
  obtain ⟨r2, S3, e4, hB⟩ := bd_of hB
  refine es_callW (As := [.ref 0, .int (gX G (Int32.toNatClampNeg (l4 + 1))), .ref 108]) (t_L_oneMore q9_0 qA_108 e4) dL_law_1405 oL_oneMore w_1306 rfl (Nat.le_of_ble_eq_true rfl) rfl (fitL (by decide)) ⟨(by show cu + 1 ≤ 601024; omega), (by show su + 6 ≤ 7293033; omega)⟩ ?_
  refine ev_istore dL_law_1408 (by decide) rfl ?_
  refine ev_aload_n dL_law_1410 rfl ?_
  refine ev_aload_nF dL_law_1411 rfl ?_
  refine ev_iload dL_law_1412 rfl ?_
  refine ev_iconst 1 dL_law_1414 (by decide) ?_
  refine ev_iadd dL_law_1415 ?_
  obtain ⟨c5, hB⟩ := ck_of hB
  refine ev_saload dL_law_1416 (inb_in c5) ?_
  obtain ⟨r6, S7, e8, hB⟩ := bd_of hB
  refine es_callVi (As := [.int (gX G (Int32.toNatClampNeg (l4 + 1)))]) (t_X10_oneMore q10_78 e8) dL_law_1417 oX10_oneMore w_2117 rfl q10_78 rfl rfl (Nat.le_of_ble_eq_true rfl) rfl (fitL (by decide)) ⟨(by show (cu + 1) ≤ 601024; omega), (by show (su + 6) ≤ 7293033; omega)⟩ ?_
  refine ev_istore dL_law_1420 (by decide) rfl ?_
  refine ev_aload_n dL_law_1422 rfl ?_
  obtain ⟨r9, S10, e11, hB⟩ := bd_of hB
  refine es_callVi (As := []) (t_X10_thrown q10_78 e11) dL_law_1423 oX10_thrown w_1728 rfl q10_78 rfl rfl (Nat.le_of_ble_eq_true rfl) rfl (fitL (by decide)) ⟨(by show (cu + 1) ≤ 601024; omega), (by show (su + 6) ≤ 7293033; omega)⟩ ?_
  refine ev_iload dL_law_1426 rfl ?_
  refine ev_icmpeq 1433 dL_law_1428 (by decide) (fun q12 => ?_) (fun q12 => ?_)
  · rw [if_pos q12] at hB
    refine ev_iload dL_law_1433 rfl ?_
    refine ev_ifne 1450 dL_law_1435 (by decide) (fun q13 => ?_) (fun q13 => ?_)
    · rw [if_neg q13] at hB
      refine ev_goto 2453 dL_law_1450 (by decide) ?_
      exact ev_ls (u_L_law_2453 hk23 l4 S10 (cu + 1) (su + 6) (by omega) hB) (And.intro rfl (And.intro rfl (And.intro rfl (And.intro rfl (And.intro rfl trivial)))))
    · rw [if_pos q13] at hB
      refine ev_aload_n dL_law_1438 rfl ?_
      refine ev_iconst 0 dL_law_1439 (by decide) ?_
      obtain ⟨c14, hB⟩ := ck_of hB
      refine es_lald dL_law_1440 qA_108 c14 ?_
      refine ev_iload dL_law_1441 rfl ?_
      refine ev_i2l dL_law_1443 ?_
      refine ev_lcmp dL_law_1444 ?_
      refine ev_ifeq 1450 dL_law_1445 (by decide) (fun q15 => ?_) (fun q15 => ?_)
      · rw [if_pos q15] at hB
        refine ev_goto 2453 dL_law_1450 (by decide) ?_
        exact ev_ls (u_L_law_2453 hk23 l4 S10 (cu + 1) (su + 6) (by omega) hB) (And.intro rfl (And.intro rfl (And.intro rfl (And.intro rfl (And.intro rfl trivial)))))
      · rw [if_neg q15] at hB
        refine ev_iconst 0 dL_law_1448 (by decide) ?_
        cases hB
  · rw [if_neg q12] at hB
    refine ev_iconst 0 dL_law_1431 (by decide) ?_
    cases hB
theorem u_L_law_c22 {G : am_G} {N n : Nat} {out : am_S} {k23 : Int32 → am_S → Option am_S} (hk23 : ∀ (l4 : Int32) (S : am_S) (cu su : Nat), (cu + n ≤ 601024 ∧ su + 6 * n ≤ 7293033) → k23 l4 S = some out → Ev G room_1 (LZ G) m_law cu su 23 [some (.float 1001), some (.ref 0), some (.ref 78), some (.ref 108), some (.int l4), none, none] [] (hp S)) (l4 : Int32) (S : am_S) (cu su : Nat) (hb : cu + (n + 1) ≤ 601024 ∧ su + 6 * (n + 1) ≤ 7293033) (hB : b_L_law_c22 N (gN G) (gX G) k23 l4 S = some out) : Ev G room_1 (LZ G) m_law cu su 1453 [some (.float 1001), some (.ref 0), some (.ref 78), some (.ref 108), some (.int l4), none, none] [] (hp S) := by
  unfold b_L_law_c22 at hB
  refine ev_aload_n dL_law_1453 rfl ?_
  refine ev_aload_nF dL_law_1454 rfl ?_
  refine ev_iload dL_law_1455 rfl ?_
  refine ev_iconst 1 dL_law_1457 (by decide) ?_
  refine ev_iadd dL_law_1458 ?_
  obtain ⟨c1, hB⟩ := ck_of hB
  refine ev_saload dL_law_1459 (inb_in c1) ?_
  refine ev_aload_n dL_law_1460 rfl ?_
  obtain ⟨r2, S3, e4, hB⟩ := bd_of hB
  refine es_callW (As := [.ref 0, .int (gX G (Int32.toNatClampNeg (l4 + 1))), .ref 108]) (t_L_order q9_0 qA_108 e4) dL_law_1461 oL_order w_1314 rfl (Nat.le_of_ble_eq_true rfl) rfl (fitL (by decide)) ⟨(by show cu + 1 ≤ 601024; omega), (by show su + 6 ≤ 7293033; omega)⟩ ?_
  refine ev_istore dL_law_1464 (by decide) rfl ?_
  refine ev_aload_n dL_law_1466 rfl ?_
  refine ev_aload_nF dL_law_1467 rfl ?_
  refine ev_iload dL_law_1468 rfl ?_
  refine ev_iconst 1 dL_law_1470 (by decide) ?_
  refine ev_iadd dL_law_1471 ?_
  obtain ⟨c5, hB⟩ := ck_of hB
  refine ev_saload dL_law_1472 (inb_in c5) ?_
  obtain ⟨r6, S7, e8, hB⟩ := bd_of hB
  refine es_callVi (As := [.int (gX G (Int32.toNatClampNeg (l4 + 1)))]) (t_X10_order q10_78 e8) dL_law_1473 oX10_order w_2133 rfl q10_78 rfl rfl (Nat.le_of_ble_eq_true rfl) rfl (fitL (by decide)) ⟨(by show (cu + 1) ≤ 601024; omega), (by show (su + 6) ≤ 7293033; omega)⟩ ?_
  refine ev_istore dL_law_1476 (by decide) rfl ?_
  refine ev_aload_n dL_law_1478 rfl ?_
  obtain ⟨r9, S10, e11, hB⟩ := bd_of hB
  refine es_callVi (As := []) (t_X10_thrown q10_78 e11) dL_law_1479 oX10_thrown w_1728 rfl q10_78 rfl rfl (Nat.le_of_ble_eq_true rfl) rfl (fitL (by decide)) ⟨(by show (cu + 1) ≤ 601024; omega), (by show (su + 6) ≤ 7293033; omega)⟩ ?_
  refine ev_iload dL_law_1482 rfl ?_
  refine ev_icmpeq 1489 dL_law_1484 (by decide) (fun q12 => ?_) (fun q12 => ?_)
  · rw [if_pos q12] at hB
    refine ev_iload dL_law_1489 rfl ?_
    refine ev_ifne 1506 dL_law_1491 (by decide) (fun q13 => ?_) (fun q13 => ?_)
    · rw [if_neg q13] at hB
      refine ev_goto 2453 dL_law_1506 (by decide) ?_
      exact ev_ls (u_L_law_2453 hk23 l4 S10 (cu + 1) (su + 6) (by omega) hB) (And.intro rfl (And.intro rfl (And.intro rfl (And.intro rfl (And.intro rfl trivial)))))
    · rw [if_pos q13] at hB
      refine ev_aload_n dL_law_1494 rfl ?_
      refine ev_iconst 0 dL_law_1495 (by decide) ?_
      obtain ⟨c14, hB⟩ := ck_of hB
      refine es_lald dL_law_1496 qA_108 c14 ?_
      refine ev_iload dL_law_1497 rfl ?_
      refine ev_i2l dL_law_1499 ?_
      refine ev_lcmp dL_law_1500 ?_
      refine ev_ifeq 1506 dL_law_1501 (by decide) (fun q15 => ?_) (fun q15 => ?_)
      · rw [if_pos q15] at hB
        refine ev_goto 2453 dL_law_1506 (by decide) ?_
        exact ev_ls (u_L_law_2453 hk23 l4 S10 (cu + 1) (su + 6) (by omega) hB) (And.intro rfl (And.intro rfl (And.intro rfl (And.intro rfl (And.intro rfl trivial)))))
      · rw [if_neg q15] at hB
        refine ev_iconst 0 dL_law_1504 (by decide) ?_
        cases hB
  · rw [if_neg q12] at hB
    refine ev_iconst 0 dL_law_1487 (by decide) ?_
    cases hB
theorem u_L_law_c23 {G : am_G} {N n : Nat} {out : am_S} {k23 : Int32 → am_S → Option am_S} (hk23 : ∀ (l4 : Int32) (S : am_S) (cu su : Nat), (cu + n ≤ 601024 ∧ su + 6 * n ≤ 7293033) → k23 l4 S = some out → Ev G room_1 (LZ G) m_law cu su 23 [some (.float 1001), some (.ref 0), some (.ref 78), some (.ref 108), some (.int l4), none, none] [] (hp S)) (l4 : Int32) (S : am_S) (cu su : Nat) (hb : cu + (n + 1) ≤ 601024 ∧ su + 6 * (n + 1) ≤ 7293033) (hB : b_L_law_c23 N (gN G) (gX G) k23 l4 S = some out) : Ev G room_1 (LZ G) m_law cu su 1509 [some (.float 1001), some (.ref 0), some (.ref 78), some (.ref 108), some (.int l4), none, none] [] (hp S) := by
  unfold b_L_law_c23 at hB
  refine ev_aload_n dL_law_1509 rfl ?_
  refine ev_aload_nF dL_law_1510 rfl ?_
  refine ev_iload dL_law_1511 rfl ?_
  refine ev_iconst 1 dL_law_1513 (by decide) ?_
  refine ev_iadd dL_law_1514 ?_
  obtain ⟨c1, hB⟩ := ck_of hB
  refine ev_saload dL_law_1515 (inb_in c1) ?_
  refine ev_aload_nF dL_law_1516 rfl ?_
  refine ev_iload dL_law_1517 rfl ?_
  refine ev_iconst 2 dL_law_1519 (by decide) ?_
  refine ev_iadd dL_law_1520 ?_
  obtain ⟨c2, hB⟩ := ck_of hB
  refine ev_saload dL_law_1521 (inb_in c2) ?_
  refine ev_aload_nF dL_law_1522 rfl ?_
  refine ev_iload dL_law_1523 rfl ?_
  refine ev_iconst 3 dL_law_1525 (by decide) ?_
  refine ev_iadd dL_law_1526 ?_
  obtain ⟨c3, hB⟩ := ck_of hB
  refine ev_saload dL_law_1527 (inb_in c3) ?_
  refine ev_aload_n dL_law_1528 rfl ?_
  obtain ⟨r4, S5, e6, hB⟩ := bd_of hB
  refine es_callW (As := [.ref 0, .int (gX G (Int32.toNatClampNeg (l4 + 1))), .int (gX G (Int32.toNatClampNeg (l4 + 2))), .int (gX G (Int32.toNatClampNeg (l4 + 3))), .ref 108]) (t_L_note q9_0 qA_108 e6) dL_law_1529 oL_note w_1351 rfl (Nat.le_of_ble_eq_true rfl) rfl (fitL (by decide)) ⟨(by show cu + 1 ≤ 601024; omega), (by show su + 6 ≤ 7293033; omega)⟩ ?_
  refine ev_istore dL_law_1532 (by decide) rfl ?_
  refine ev_aload_n dL_law_1534 rfl ?_
  refine ev_aload_nF dL_law_1535 rfl ?_
  refine ev_iload dL_law_1536 rfl ?_
  refine ev_iconst 1 dL_law_1538 (by decide) ?_
  refine ev_iadd dL_law_1539 ?_
  obtain ⟨c7, hB⟩ := ck_of hB
  refine ev_saload dL_law_1540 (inb_in c7) ?_
  refine ev_aload_nF dL_law_1541 rfl ?_
  refine ev_iload dL_law_1542 rfl ?_
  refine ev_iconst 2 dL_law_1544 (by decide) ?_
  refine ev_iadd dL_law_1545 ?_
  obtain ⟨c8, hB⟩ := ck_of hB
  refine ev_saload dL_law_1546 (inb_in c8) ?_
  refine ev_aload_nF dL_law_1547 rfl ?_
  refine ev_iload dL_law_1548 rfl ?_
  refine ev_iconst 3 dL_law_1550 (by decide) ?_
  refine ev_iadd dL_law_1551 ?_
  obtain ⟨c9, hB⟩ := ck_of hB
  refine ev_saload dL_law_1552 (inb_in c9) ?_
  obtain ⟨r10, S11, e12, hB⟩ := bd_of hB
  refine es_callVi (As := [.int (gX G (Int32.toNatClampNeg (l4 + 1))), .int (gX G (Int32.toNatClampNeg (l4 + 2))), .int (gX G (Int32.toNatClampNeg (l4 + 3)))]) (t_X10_note q10_78 e12) dL_law_1553 oX10_note w_2145 rfl q10_78 rfl rfl (Nat.le_of_ble_eq_true rfl) rfl (fitL (by decide)) ⟨(by show (cu + 1) ≤ 601024; omega), (by show (su + 6) ≤ 7293033; omega)⟩ ?_
  refine ev_istore dL_law_1556 (by decide) rfl ?_
  refine ev_aload_n dL_law_1558 rfl ?_
  obtain ⟨r13, S14, e15, hB⟩ := bd_of hB
  refine es_callVi (As := []) (t_X10_thrown q10_78 e15) dL_law_1559 oX10_thrown w_1728 rfl q10_78 rfl rfl (Nat.le_of_ble_eq_true rfl) rfl (fitL (by decide)) ⟨(by show (cu + 1) ≤ 601024; omega), (by show (su + 6) ≤ 7293033; omega)⟩ ?_
  refine ev_iload dL_law_1562 rfl ?_
  refine ev_icmpeq 1569 dL_law_1564 (by decide) (fun q16 => ?_) (fun q16 => ?_)
  · rw [if_pos q16] at hB
    refine ev_iload dL_law_1569 rfl ?_
    refine ev_ifne 1586 dL_law_1571 (by decide) (fun q17 => ?_) (fun q17 => ?_)
    · rw [if_neg q17] at hB
      refine ev_goto 2453 dL_law_1586 (by decide) ?_
      exact ev_ls (u_L_law_2453 hk23 l4 S14 (cu + 1) (su + 6) (by omega) hB) (And.intro rfl (And.intro rfl (And.intro rfl (And.intro rfl (And.intro rfl trivial)))))
    · rw [if_pos q17] at hB
      refine ev_aload_n dL_law_1574 rfl ?_
      refine ev_iconst 0 dL_law_1575 (by decide) ?_
      obtain ⟨c18, hB⟩ := ck_of hB
      refine es_lald dL_law_1576 qA_108 c18 ?_
      refine ev_iload dL_law_1577 rfl ?_
      refine ev_i2l dL_law_1579 ?_
      refine ev_lcmp dL_law_1580 ?_
      refine ev_ifeq 1586 dL_law_1581 (by decide) (fun q19 => ?_) (fun q19 => ?_)
      · rw [if_pos q19] at hB
        refine ev_goto 2453 dL_law_1586 (by decide) ?_
        exact ev_ls (u_L_law_2453 hk23 l4 S14 (cu + 1) (su + 6) (by omega) hB) (And.intro rfl (And.intro rfl (And.intro rfl (And.intro rfl (And.intro rfl trivial)))))
      · rw [if_neg q19] at hB
        refine ev_iconst 0 dL_law_1584 (by decide) ?_
        cases hB
  · rw [if_neg q16] at hB
    refine ev_iconst 0 dL_law_1567 (by decide) ?_
    cases hB
theorem u_L_law_c24 {G : am_G} {N n : Nat} {out : am_S} {k23 : Int32 → am_S → Option am_S} (hk23 : ∀ (l4 : Int32) (S : am_S) (cu su : Nat), (cu + n ≤ 601024 ∧ su + 6 * n ≤ 7293033) → k23 l4 S = some out → Ev G room_1 (LZ G) m_law cu su 23 [some (.float 1001), some (.ref 0), some (.ref 78), some (.ref 108), some (.int l4), none, none] [] (hp S)) (l4 : Int32) (S : am_S) (cu su : Nat) (hb : cu + (n + 1) ≤ 601024 ∧ su + 6 * (n + 1) ≤ 7293033) (hB : b_L_law_c24 N (gN G) (gX G) k23 l4 S = some out) : Ev G room_1 (LZ G) m_law cu su 1589 [some (.float 1001), some (.ref 0), some (.ref 78), some (.ref 108), some (.int l4), none, none] [] (hp S) := by
  unfold b_L_law_c24 at hB
  refine ev_aload_n dL_law_1589 rfl ?_
  obtain ⟨S2, e3, hB⟩ := bv_of hB
  refine es_callVv (As := []) (t_X9_forget q9_0 e3) dL_law_1590 oX9_forget w_778 rfl q9_0 rfl rfl (Nat.le_of_ble_eq_true rfl) rfl (fitL (by decide)) ⟨(by show cu ≤ 601024; omega), (by show su ≤ 7293033; omega)⟩ ?_
  refine ev_aload_n dL_law_1593 rfl ?_
  obtain ⟨S5, e6, hB⟩ := bv_of hB
  refine es_callVv (As := []) (t_X10_forget q10_78 e6) dL_law_1594 oX10_forget w_2149 rfl q10_78 rfl rfl (Nat.le_of_ble_eq_true rfl) rfl (fitL (by decide)) ⟨(by show cu ≤ 601024; omega), (by show su ≤ 7293033; omega)⟩ ?_
  refine ev_goto 2453 dL_law_1597 (by decide) ?_
  exact ev_ls (u_L_law_2453 hk23 l4 S5 cu su (by omega) hB) (And.intro rfl (And.intro rfl (And.intro rfl (And.intro rfl (And.intro rfl trivial)))))
theorem u_L_law_c25 {G : am_G} {N n : Nat} {out : am_S} {k23 : Int32 → am_S → Option am_S} (hk23 : ∀ (l4 : Int32) (S : am_S) (cu su : Nat), (cu + n ≤ 601024 ∧ su + 6 * n ≤ 7293033) → k23 l4 S = some out → Ev G room_1 (LZ G) m_law cu su 23 [some (.float 1001), some (.ref 0), some (.ref 78), some (.ref 108), some (.int l4), none, none] [] (hp S)) (l4 : Int32) (S : am_S) (cu su : Nat) (hb : cu + (n + 1) ≤ 601024 ∧ su + 6 * (n + 1) ≤ 7293033) (hB : b_L_law_c25 N (gN G) (gX G) k23 l4 S = some out) : Ev G room_1 (LZ G) m_law cu su 1600 [some (.float 1001), some (.ref 0), some (.ref 78), some (.ref 108), some (.int l4), none, none] [] (hp S) := by
  unfold b_L_law_c25 at hB
  refine ev_aload_n dL_law_1600 rfl ?_
  refine ev_aload_nF dL_law_1601 rfl ?_
  refine ev_iload dL_law_1602 rfl ?_
  refine ev_iconst 1 dL_law_1604 (by decide) ?_
  refine ev_iadd dL_law_1605 ?_
  obtain ⟨c1, hB⟩ := ck_of hB
  refine ev_saload dL_law_1606 (inb_in c1) ?_
  refine ev_aload_n dL_law_1607 rfl ?_
  obtain ⟨r2, S3, e4, hB⟩ := bd_of hB
  refine es_callW (As := [.ref 0, .int (gX G (Int32.toNatClampNeg (l4 + 1))), .ref 108]) (t_L_thought q9_0 qA_108 e4) dL_law_1608 oL_thought w_1362 rfl (Nat.le_of_ble_eq_true rfl) rfl (fitL (by decide)) ⟨(by show cu + 1 ≤ 601024; omega), (by show su + 6 ≤ 7293033; omega)⟩ ?_
  refine ev_istore dL_law_1611 (by decide) rfl ?_
  refine ev_aload_n dL_law_1613 rfl ?_
  refine ev_aload_nF dL_law_1614 rfl ?_
  refine ev_iload dL_law_1615 rfl ?_
  refine ev_iconst 1 dL_law_1617 (by decide) ?_
  refine ev_iadd dL_law_1618 ?_
  obtain ⟨c5, hB⟩ := ck_of hB
  refine ev_saload dL_law_1619 (inb_in c5) ?_
  obtain ⟨r6, S7, e8, hB⟩ := bd_of hB
  refine es_callVi (As := [.int (gX G (Int32.toNatClampNeg (l4 + 1)))]) (t_X10_thought q10_78 e8) dL_law_1620 oX10_thought w_2153 rfl q10_78 rfl rfl (Nat.le_of_ble_eq_true rfl) rfl (fitL (by decide)) ⟨(by show (cu + 1) ≤ 601024; omega), (by show (su + 6) ≤ 7293033; omega)⟩ ?_
  refine ev_istore dL_law_1623 (by decide) rfl ?_
  refine ev_aload_n dL_law_1625 rfl ?_
  obtain ⟨r9, S10, e11, hB⟩ := bd_of hB
  refine es_callVi (As := []) (t_X10_thrown q10_78 e11) dL_law_1626 oX10_thrown w_1728 rfl q10_78 rfl rfl (Nat.le_of_ble_eq_true rfl) rfl (fitL (by decide)) ⟨(by show (cu + 1) ≤ 601024; omega), (by show (su + 6) ≤ 7293033; omega)⟩ ?_
  refine ev_iload dL_law_1629 rfl ?_
  refine ev_icmpeq 1636 dL_law_1631 (by decide) (fun q12 => ?_) (fun q12 => ?_)
  · rw [if_pos q12] at hB
    refine ev_iload dL_law_1636 rfl ?_
    refine ev_ifne 1653 dL_law_1638 (by decide) (fun q13 => ?_) (fun q13 => ?_)
    · rw [if_neg q13] at hB
      refine ev_goto 2453 dL_law_1653 (by decide) ?_
      exact ev_ls (u_L_law_2453 hk23 l4 S10 (cu + 1) (su + 6) (by omega) hB) (And.intro rfl (And.intro rfl (And.intro rfl (And.intro rfl (And.intro rfl trivial)))))
    · rw [if_pos q13] at hB
      refine ev_aload_n dL_law_1641 rfl ?_
      refine ev_iconst 0 dL_law_1642 (by decide) ?_
      obtain ⟨c14, hB⟩ := ck_of hB
      refine es_lald dL_law_1643 qA_108 c14 ?_
      refine ev_iload dL_law_1644 rfl ?_
      refine ev_i2l dL_law_1646 ?_
      refine ev_lcmp dL_law_1647 ?_
      refine ev_ifeq 1653 dL_law_1648 (by decide) (fun q15 => ?_) (fun q15 => ?_)
      · rw [if_pos q15] at hB
        refine ev_goto 2453 dL_law_1653 (by decide) ?_
        exact ev_ls (u_L_law_2453 hk23 l4 S10 (cu + 1) (su + 6) (by omega) hB) (And.intro rfl (And.intro rfl (And.intro rfl (And.intro rfl (And.intro rfl trivial)))))
      · rw [if_neg q15] at hB
        refine ev_iconst 0 dL_law_1651 (by decide) ?_
        cases hB
  · rw [if_neg q12] at hB
    refine ev_iconst 0 dL_law_1634 (by decide) ?_
    cases hB
theorem u_L_law_c26 {G : am_G} {N n : Nat} {out : am_S} {k23 : Int32 → am_S → Option am_S} (hk23 : ∀ (l4 : Int32) (S : am_S) (cu su : Nat), (cu + n ≤ 601024 ∧ su + 6 * n ≤ 7293033) → k23 l4 S = some out → Ev G room_1 (LZ G) m_law cu su 23 [some (.float 1001), some (.ref 0), some (.ref 78), some (.ref 108), some (.int l4), none, none] [] (hp S)) (l4 : Int32) (S : am_S) (cu su : Nat) (hb : cu + (n + 1) ≤ 601024 ∧ su + 6 * (n + 1) ≤ 7293033) (hB : b_L_law_c26 N (gN G) (gX G) k23 l4 S = some out) : Ev G room_1 (LZ G) m_law cu su 1656 [some (.float 1001), some (.ref 0), some (.ref 78), some (.ref 108), some (.int l4), none, none] [] (hp S) := by
  unfold b_L_law_c26 at hB
  refine ev_aload_n dL_law_1656 rfl ?_
  refine ev_aload_nF dL_law_1657 rfl ?_
  refine ev_iload dL_law_1658 rfl ?_
  refine ev_iconst 1 dL_law_1660 (by decide) ?_
  refine ev_iadd dL_law_1661 ?_
  obtain ⟨c1, hB⟩ := ck_of hB
  refine ev_saload dL_law_1662 (inb_in c1) ?_
  refine ev_aload_n dL_law_1663 rfl ?_
  obtain ⟨r2, S3, e4, hB⟩ := bd_of hB
  refine es_callW (As := [.ref 0, .int (gX G (Int32.toNatClampNeg (l4 + 1))), .ref 108]) (t_L_ask q9_0 qA_108 e4) dL_law_1664 oL_ask w_1387 rfl (Nat.le_of_ble_eq_true rfl) rfl (fitL (by decide)) ⟨(by show cu + 1 ≤ 601024; omega), (by show su + 6 ≤ 7293033; omega)⟩ ?_
  refine ev_istore dL_law_1667 (by decide) rfl ?_
  refine ev_aload_n dL_law_1669 rfl ?_
  refine ev_aload_nF dL_law_1670 rfl ?_
  refine ev_iload dL_law_1671 rfl ?_
  refine ev_iconst 1 dL_law_1673 (by decide) ?_
  refine ev_iadd dL_law_1674 ?_
  obtain ⟨c5, hB⟩ := ck_of hB
  refine ev_saload dL_law_1675 (inb_in c5) ?_
  obtain ⟨r6, S7, e8, hB⟩ := bd_of hB
  refine es_callVi (As := [.int (gX G (Int32.toNatClampNeg (l4 + 1)))]) (t_X10_ask q10_78 e8) dL_law_1676 oX10_ask w_2165 rfl q10_78 rfl rfl (Nat.le_of_ble_eq_true rfl) rfl (fitL (by decide)) ⟨(by show (cu + 1) ≤ 601024; omega), (by show (su + 6) ≤ 7293033; omega)⟩ ?_
  refine ev_istore dL_law_1679 (by decide) rfl ?_
  refine ev_aload_n dL_law_1681 rfl ?_
  obtain ⟨r9, S10, e11, hB⟩ := bd_of hB
  refine es_callVi (As := []) (t_X10_thrown q10_78 e11) dL_law_1682 oX10_thrown w_1728 rfl q10_78 rfl rfl (Nat.le_of_ble_eq_true rfl) rfl (fitL (by decide)) ⟨(by show (cu + 1) ≤ 601024; omega), (by show (su + 6) ≤ 7293033; omega)⟩ ?_
  refine ev_iload dL_law_1685 rfl ?_
  refine ev_icmpeq 1692 dL_law_1687 (by decide) (fun q12 => ?_) (fun q12 => ?_)
  · rw [if_pos q12] at hB
    refine ev_iload dL_law_1692 rfl ?_
    refine ev_ifne 1709 dL_law_1694 (by decide) (fun q13 => ?_) (fun q13 => ?_)
    · rw [if_neg q13] at hB
      refine ev_goto 2453 dL_law_1709 (by decide) ?_
      exact ev_ls (u_L_law_2453 hk23 l4 S10 (cu + 1) (su + 6) (by omega) hB) (And.intro rfl (And.intro rfl (And.intro rfl (And.intro rfl (And.intro rfl trivial)))))
    · rw [if_pos q13] at hB
      refine ev_aload_n dL_law_1697 rfl ?_
      refine ev_iconst 0 dL_law_1698 (by decide) ?_
      obtain ⟨c14, hB⟩ := ck_of hB
      refine es_lald dL_law_1699 qA_108 c14 ?_
      refine ev_iload dL_law_1700 rfl ?_
      refine ev_i2l dL_law_1702 ?_
      refine ev_lcmp dL_law_1703 ?_
      refine ev_ifeq 1709 dL_law_1704 (by decide) (fun q15 => ?_) (fun q15 => ?_)
      · rw [if_pos q15] at hB
        refine ev_goto 2453 dL_law_1709 (by decide) ?_
        exact ev_ls (u_L_law_2453 hk23 l4 S10 (cu + 1) (su + 6) (by omega) hB) (And.intro rfl (And.intro rfl (And.intro rfl (And.intro rfl (And.intro rfl trivial)))))
      · rw [if_neg q15] at hB
        refine ev_iconst 0 dL_law_1707 (by decide) ?_
        cases hB
  · rw [if_neg q12] at hB
    refine ev_iconst 0 dL_law_1690 (by decide) ?_
    cases hB
theorem u_L_law_c27 {G : am_G} {N n : Nat} {out : am_S} {k23 : Int32 → am_S → Option am_S} (hk23 : ∀ (l4 : Int32) (S : am_S) (cu su : Nat), (cu + n ≤ 601024 ∧ su + 6 * n ≤ 7293033) → k23 l4 S = some out → Ev G room_1 (LZ G) m_law cu su 23 [some (.float 1001), some (.ref 0), some (.ref 78), some (.ref 108), some (.int l4), none, none] [] (hp S)) (l4 : Int32) (S : am_S) (cu su : Nat) (hb : cu + (n + 1) ≤ 601024 ∧ su + 6 * (n + 1) ≤ 7293033) (hB : b_L_law_c27 N (gN G) (gX G) k23 l4 S = some out) : Ev G room_1 (LZ G) m_law cu su 1712 [some (.float 1001), some (.ref 0), some (.ref 78), some (.ref 108), some (.int l4), none, none] [] (hp S) := by
  unfold b_L_law_c27 at hB
  refine ev_aload_n dL_law_1712 rfl ?_
  refine ev_aload_nF dL_law_1713 rfl ?_
  refine ev_iload dL_law_1714 rfl ?_
  refine ev_iconst 1 dL_law_1716 (by decide) ?_
  refine ev_iadd dL_law_1717 ?_
  obtain ⟨c1, hB⟩ := ck_of hB
  refine ev_saload dL_law_1718 (inb_in c1) ?_
  refine ev_aload_nF dL_law_1719 rfl ?_
  refine ev_iload dL_law_1720 rfl ?_
  refine ev_iconst 2 dL_law_1722 (by decide) ?_
  refine ev_iadd dL_law_1723 ?_
  obtain ⟨c2, hB⟩ := ck_of hB
  refine ev_saload dL_law_1724 (inb_in c2) ?_
  refine ev_aload_nF dL_law_1725 rfl ?_
  refine ev_iload dL_law_1726 rfl ?_
  refine ev_iconst 3 dL_law_1728 (by decide) ?_
  refine ev_iadd dL_law_1729 ?_
  obtain ⟨c3, hB⟩ := ck_of hB
  refine ev_saload dL_law_1730 (inb_in c3) ?_
  refine ev_aload_nF dL_law_1731 rfl ?_
  refine ev_iload dL_law_1732 rfl ?_
  refine ev_iconst 4 dL_law_1734 (by decide) ?_
  refine ev_iadd dL_law_1735 ?_
  obtain ⟨c4, hB⟩ := ck_of hB
  refine ev_saload dL_law_1736 (inb_in c4) ?_
  refine ev_aload_n dL_law_1737 rfl ?_
  obtain ⟨r5, S6, e7, hB⟩ := bd_of hB
  refine es_callW (As := [.ref 0, .int (gX G (Int32.toNatClampNeg (l4 + 1))), .int (gX G (Int32.toNatClampNeg (l4 + 2))), .int (gX G (Int32.toNatClampNeg (l4 + 3))), .int (gX G (Int32.toNatClampNeg (l4 + 4))), .ref 108]) (t_L_wetNights q9_0 qA_108 e7) dL_law_1738 oL_wetNights w_1410 rfl (Nat.le_of_ble_eq_true rfl) rfl (fitL (by decide)) ⟨(by show cu + 1 ≤ 601024; omega), (by show su + 6 ≤ 7293033; omega)⟩ ?_
  refine ev_istore dL_law_1741 (by decide) rfl ?_
  refine ev_aload_n dL_law_1743 rfl ?_
  refine ev_aload_nF dL_law_1744 rfl ?_
  refine ev_iload dL_law_1745 rfl ?_
  refine ev_iconst 1 dL_law_1747 (by decide) ?_
  refine ev_iadd dL_law_1748 ?_
  obtain ⟨c8, hB⟩ := ck_of hB
  refine ev_saload dL_law_1749 (inb_in c8) ?_
  refine ev_aload_nF dL_law_1750 rfl ?_
  refine ev_iload dL_law_1751 rfl ?_
  refine ev_iconst 2 dL_law_1753 (by decide) ?_
  refine ev_iadd dL_law_1754 ?_
  obtain ⟨c9, hB⟩ := ck_of hB
  refine ev_saload dL_law_1755 (inb_in c9) ?_
  refine ev_aload_nF dL_law_1756 rfl ?_
  refine ev_iload dL_law_1757 rfl ?_
  refine ev_iconst 3 dL_law_1759 (by decide) ?_
  refine ev_iadd dL_law_1760 ?_
  obtain ⟨c10, hB⟩ := ck_of hB
  refine ev_saload dL_law_1761 (inb_in c10) ?_
  refine ev_aload_nF dL_law_1762 rfl ?_
  refine ev_iload dL_law_1763 rfl ?_
  refine ev_iconst 4 dL_law_1765 (by decide) ?_
  refine ev_iadd dL_law_1766 ?_
  obtain ⟨c11, hB⟩ := ck_of hB
  refine ev_saload dL_law_1767 (inb_in c11) ?_
  obtain ⟨r12, S13, e14, hB⟩ := bd_of hB
  refine es_callVi (As := [.int (gX G (Int32.toNatClampNeg (l4 + 1))), .int (gX G (Int32.toNatClampNeg (l4 + 2))), .int (gX G (Int32.toNatClampNeg (l4 + 3))), .int (gX G (Int32.toNatClampNeg (l4 + 4)))]) (t_X10_wetNights q10_78 e14) dL_law_1768 oX10_wetNights w_2169 rfl q10_78 rfl rfl (Nat.le_of_ble_eq_true rfl) rfl (fitL (by decide)) ⟨(by show (cu + 1) ≤ 601024; omega), (by show (su + 6) ≤ 7293033; omega)⟩ ?_
  refine ev_istore dL_law_1771 (by decide) rfl ?_
  refine ev_aload_n dL_law_1773 rfl ?_
  obtain ⟨r15, S16, e17, hB⟩ := bd_of hB
  refine es_callVi (As := []) (t_X10_thrown q10_78 e17) dL_law_1774 oX10_thrown w_1728 rfl q10_78 rfl rfl (Nat.le_of_ble_eq_true rfl) rfl (fitL (by decide)) ⟨(by show (cu + 1) ≤ 601024; omega), (by show (su + 6) ≤ 7293033; omega)⟩ ?_
  refine ev_iload dL_law_1777 rfl ?_
  refine ev_icmpeq 1784 dL_law_1779 (by decide) (fun q18 => ?_) (fun q18 => ?_)
  · rw [if_pos q18] at hB
    refine ev_iload dL_law_1784 rfl ?_
    refine ev_ifne 1801 dL_law_1786 (by decide) (fun q19 => ?_) (fun q19 => ?_)
    · rw [if_neg q19] at hB
      refine ev_goto 2453 dL_law_1801 (by decide) ?_
      exact ev_ls (u_L_law_2453 hk23 l4 S16 (cu + 1) (su + 6) (by omega) hB) (And.intro rfl (And.intro rfl (And.intro rfl (And.intro rfl (And.intro rfl trivial)))))
    · rw [if_pos q19] at hB
      refine ev_aload_n dL_law_1789 rfl ?_
      refine ev_iconst 0 dL_law_1790 (by decide) ?_
      obtain ⟨c20, hB⟩ := ck_of hB
      refine es_lald dL_law_1791 qA_108 c20 ?_
      refine ev_iload dL_law_1792 rfl ?_
      refine ev_i2l dL_law_1794 ?_
      refine ev_lcmp dL_law_1795 ?_
      refine ev_ifeq 1801 dL_law_1796 (by decide) (fun q21 => ?_) (fun q21 => ?_)
      · rw [if_pos q21] at hB
        refine ev_goto 2453 dL_law_1801 (by decide) ?_
        exact ev_ls (u_L_law_2453 hk23 l4 S16 (cu + 1) (su + 6) (by omega) hB) (And.intro rfl (And.intro rfl (And.intro rfl (And.intro rfl (And.intro rfl trivial)))))
      · rw [if_neg q21] at hB
        refine ev_iconst 0 dL_law_1799 (by decide) ?_
        cases hB
  · rw [if_neg q18] at hB
    refine ev_iconst 0 dL_law_1782 (by decide) ?_
    cases hB
theorem u_L_law_c28 {G : am_G} {N n : Nat} {out : am_S} {k23 : Int32 → am_S → Option am_S} (hk23 : ∀ (l4 : Int32) (S : am_S) (cu su : Nat), (cu + n ≤ 601024 ∧ su + 6 * n ≤ 7293033) → k23 l4 S = some out → Ev G room_1 (LZ G) m_law cu su 23 [some (.float 1001), some (.ref 0), some (.ref 78), some (.ref 108), some (.int l4), none, none] [] (hp S)) (l4 : Int32) (S : am_S) (cu su : Nat) (hb : cu + (n + 1) ≤ 601024 ∧ su + 6 * (n + 1) ≤ 7293033) (hB : b_L_law_c28 N (gN G) (gX G) k23 l4 S = some out) : Ev G room_1 (LZ G) m_law cu su 1804 [some (.float 1001), some (.ref 0), some (.ref 78), some (.ref 108), some (.int l4), none, none] [] (hp S) := by
  unfold b_L_law_c28 at hB
  refine ev_aload_n dL_law_1804 rfl ?_
  refine ev_aload_nF dL_law_1805 rfl ?_
  refine ev_iload dL_law_1806 rfl ?_
  refine ev_iconst 1 dL_law_1808 (by decide) ?_
  refine ev_iadd dL_law_1809 ?_
  obtain ⟨c1, hB⟩ := ck_of hB
  refine ev_saload dL_law_1810 (inb_in c1) ?_
  refine ev_aload_nF dL_law_1811 rfl ?_
  refine ev_iload dL_law_1812 rfl ?_
  refine ev_iconst 2 dL_law_1814 (by decide) ?_
  refine ev_iadd dL_law_1815 ?_
  obtain ⟨c2, hB⟩ := ck_of hB
  refine ev_saload dL_law_1816 (inb_in c2) ?_
  refine ev_aload_nF dL_law_1817 rfl ?_
  refine ev_iload dL_law_1818 rfl ?_
  refine ev_iconst 3 dL_law_1820 (by decide) ?_
  refine ev_iadd dL_law_1821 ?_
  obtain ⟨c3, hB⟩ := ck_of hB
  refine ev_saload dL_law_1822 (inb_in c3) ?_
  refine ev_aload_n dL_law_1823 rfl ?_
  obtain ⟨r4, S5, e6, hB⟩ := bd_of hB
  refine es_callW (As := [.ref 0, .int (gX G (Int32.toNatClampNeg (l4 + 1))), .int (gX G (Int32.toNatClampNeg (l4 + 2))), .int (gX G (Int32.toNatClampNeg (l4 + 3))), .ref 108]) (t_L_game q9_0 qA_108 e6) dL_law_1824 oL_game w_1425 rfl (Nat.le_of_ble_eq_true rfl) rfl (fitL (by decide)) ⟨(by show cu + 1 ≤ 601024; omega), (by show su + 6 ≤ 7293033; omega)⟩ ?_
  refine ev_istore dL_law_1827 (by decide) rfl ?_
  refine ev_aload_n dL_law_1829 rfl ?_
  refine ev_aload_nF dL_law_1830 rfl ?_
  refine ev_iload dL_law_1831 rfl ?_
  refine ev_iconst 1 dL_law_1833 (by decide) ?_
  refine ev_iadd dL_law_1834 ?_
  obtain ⟨c7, hB⟩ := ck_of hB
  refine ev_saload dL_law_1835 (inb_in c7) ?_
  refine ev_aload_nF dL_law_1836 rfl ?_
  refine ev_iload dL_law_1837 rfl ?_
  refine ev_iconst 2 dL_law_1839 (by decide) ?_
  refine ev_iadd dL_law_1840 ?_
  obtain ⟨c8, hB⟩ := ck_of hB
  refine ev_saload dL_law_1841 (inb_in c8) ?_
  refine ev_aload_nF dL_law_1842 rfl ?_
  refine ev_iload dL_law_1843 rfl ?_
  refine ev_iconst 3 dL_law_1845 (by decide) ?_
  refine ev_iadd dL_law_1846 ?_
  obtain ⟨c9, hB⟩ := ck_of hB
  refine ev_saload dL_law_1847 (inb_in c9) ?_
  obtain ⟨r10, S11, e12, hB⟩ := bd_of hB
  refine es_callVi (As := [.int (gX G (Int32.toNatClampNeg (l4 + 1))), .int (gX G (Int32.toNatClampNeg (l4 + 2))), .int (gX G (Int32.toNatClampNeg (l4 + 3)))]) (t_X10_game q10_78 e12) dL_law_1848 oX10_game w_2173 rfl q10_78 rfl rfl (Nat.le_of_ble_eq_true rfl) rfl (fitL (by decide)) ⟨(by show (cu + 1) ≤ 601024; omega), (by show (su + 6) ≤ 7293033; omega)⟩ ?_
  refine ev_istore dL_law_1851 (by decide) rfl ?_
  refine ev_aload_n dL_law_1853 rfl ?_
  obtain ⟨r13, S14, e15, hB⟩ := bd_of hB
  refine es_callVi (As := []) (t_X10_thrown q10_78 e15) dL_law_1854 oX10_thrown w_1728 rfl q10_78 rfl rfl (Nat.le_of_ble_eq_true rfl) rfl (fitL (by decide)) ⟨(by show (cu + 1) ≤ 601024; omega), (by show (su + 6) ≤ 7293033; omega)⟩ ?_
  refine ev_iload dL_law_1857 rfl ?_
  refine ev_icmpeq 1864 dL_law_1859 (by decide) (fun q16 => ?_) (fun q16 => ?_)
  · rw [if_pos q16] at hB
    refine ev_iload dL_law_1864 rfl ?_
    refine ev_ifne 1881 dL_law_1866 (by decide) (fun q17 => ?_) (fun q17 => ?_)
    · rw [if_neg q17] at hB
      refine ev_goto 2453 dL_law_1881 (by decide) ?_
      exact ev_ls (u_L_law_2453 hk23 l4 S14 (cu + 1) (su + 6) (by omega) hB) (And.intro rfl (And.intro rfl (And.intro rfl (And.intro rfl (And.intro rfl trivial)))))
    · rw [if_pos q17] at hB
      refine ev_aload_n dL_law_1869 rfl ?_
      refine ev_iconst 0 dL_law_1870 (by decide) ?_
      obtain ⟨c18, hB⟩ := ck_of hB
      refine es_lald dL_law_1871 qA_108 c18 ?_
      refine ev_iload dL_law_1872 rfl ?_
      refine ev_i2l dL_law_1874 ?_
      refine ev_lcmp dL_law_1875 ?_
      refine ev_ifeq 1881 dL_law_1876 (by decide) (fun q19 => ?_) (fun q19 => ?_)
      · rw [if_pos q19] at hB
        refine ev_goto 2453 dL_law_1881 (by decide) ?_
        exact ev_ls (u_L_law_2453 hk23 l4 S14 (cu + 1) (su + 6) (by omega) hB) (And.intro rfl (And.intro rfl (And.intro rfl (And.intro rfl (And.intro rfl trivial)))))
      · rw [if_neg q19] at hB
        refine ev_iconst 0 dL_law_1879 (by decide) ?_
        cases hB
  · rw [if_neg q16] at hB
    refine ev_iconst 0 dL_law_1862 (by decide) ?_
    cases hB
theorem u_L_law_c29 {G : am_G} {N n : Nat} {out : am_S} {k23 : Int32 → am_S → Option am_S} (hk23 : ∀ (l4 : Int32) (S : am_S) (cu su : Nat), (cu + n ≤ 601024 ∧ su + 6 * n ≤ 7293033) → k23 l4 S = some out → Ev G room_1 (LZ G) m_law cu su 23 [some (.float 1001), some (.ref 0), some (.ref 78), some (.ref 108), some (.int l4), none, none] [] (hp S)) (l4 : Int32) (S : am_S) (cu su : Nat) (hb : cu + (n + 1) ≤ 601024 ∧ su + 6 * (n + 1) ≤ 7293033) (hB : b_L_law_c29 N (gN G) (gX G) k23 l4 S = some out) : Ev G room_1 (LZ G) m_law cu su 1884 [some (.float 1001), some (.ref 0), some (.ref 78), some (.ref 108), some (.int l4), none, none] [] (hp S) := by
  unfold b_L_law_c29 at hB
  refine ev_aload_n dL_law_1884 rfl ?_
  refine ev_aload_nF dL_law_1885 rfl ?_
  refine ev_iload dL_law_1886 rfl ?_
  refine ev_iconst 1 dL_law_1888 (by decide) ?_
  refine ev_iadd dL_law_1889 ?_
  obtain ⟨c1, hB⟩ := ck_of hB
  refine ev_saload dL_law_1890 (inb_in c1) ?_
  refine ev_aload_nF dL_law_1891 rfl ?_
  refine ev_iload dL_law_1892 rfl ?_
  refine ev_iconst 2 dL_law_1894 (by decide) ?_
  refine ev_iadd dL_law_1895 ?_
  obtain ⟨c2, hB⟩ := ck_of hB
  refine ev_saload dL_law_1896 (inb_in c2) ?_
  refine ev_aload_nF dL_law_1897 rfl ?_
  refine ev_iload dL_law_1898 rfl ?_
  refine ev_iconst 3 dL_law_1900 (by decide) ?_
  refine ev_iadd dL_law_1901 ?_
  obtain ⟨c3, hB⟩ := ck_of hB
  refine ev_saload dL_law_1902 (inb_in c3) ?_
  refine ev_aload_n dL_law_1903 rfl ?_
  obtain ⟨r4, S5, e6, hB⟩ := bd_of hB
  refine es_callW (As := [.ref 0, .int (gX G (Int32.toNatClampNeg (l4 + 1))), .int (gX G (Int32.toNatClampNeg (l4 + 2))), .int (gX G (Int32.toNatClampNeg (l4 + 3))), .ref 108]) (t_L_years q9_0 qA_108 e6) dL_law_1904 oL_years w_1445 rfl (Nat.le_of_ble_eq_true rfl) rfl (fitL (by decide)) ⟨(by show cu + 1 ≤ 601024; omega), (by show su + 6 ≤ 7293033; omega)⟩ ?_
  refine ev_istore dL_law_1907 (by decide) rfl ?_
  refine ev_aload_n dL_law_1909 rfl ?_
  refine ev_aload_nF dL_law_1910 rfl ?_
  refine ev_iload dL_law_1911 rfl ?_
  refine ev_iconst 1 dL_law_1913 (by decide) ?_
  refine ev_iadd dL_law_1914 ?_
  obtain ⟨c7, hB⟩ := ck_of hB
  refine ev_saload dL_law_1915 (inb_in c7) ?_
  refine ev_aload_nF dL_law_1916 rfl ?_
  refine ev_iload dL_law_1917 rfl ?_
  refine ev_iconst 2 dL_law_1919 (by decide) ?_
  refine ev_iadd dL_law_1920 ?_
  obtain ⟨c8, hB⟩ := ck_of hB
  refine ev_saload dL_law_1921 (inb_in c8) ?_
  refine ev_aload_nF dL_law_1922 rfl ?_
  refine ev_iload dL_law_1923 rfl ?_
  refine ev_iconst 3 dL_law_1925 (by decide) ?_
  refine ev_iadd dL_law_1926 ?_
  obtain ⟨c9, hB⟩ := ck_of hB
  refine ev_saload dL_law_1927 (inb_in c9) ?_
  obtain ⟨r10, S11, e12, hB⟩ := bd_of hB
  refine es_callVi (As := [.int (gX G (Int32.toNatClampNeg (l4 + 1))), .int (gX G (Int32.toNatClampNeg (l4 + 2))), .int (gX G (Int32.toNatClampNeg (l4 + 3)))]) (t_X10_years q10_78 e12) dL_law_1928 oX10_years w_2181 rfl q10_78 rfl rfl (Nat.le_of_ble_eq_true rfl) rfl (fitL (by decide)) ⟨(by show (cu + 1) ≤ 601024; omega), (by show (su + 6) ≤ 7293033; omega)⟩ ?_
  refine ev_istore dL_law_1931 (by decide) rfl ?_
  refine ev_aload_n dL_law_1933 rfl ?_
  obtain ⟨r13, S14, e15, hB⟩ := bd_of hB
  refine es_callVi (As := []) (t_X10_thrown q10_78 e15) dL_law_1934 oX10_thrown w_1728 rfl q10_78 rfl rfl (Nat.le_of_ble_eq_true rfl) rfl (fitL (by decide)) ⟨(by show (cu + 1) ≤ 601024; omega), (by show (su + 6) ≤ 7293033; omega)⟩ ?_
  refine ev_iload dL_law_1937 rfl ?_
  refine ev_icmpeq 1944 dL_law_1939 (by decide) (fun q16 => ?_) (fun q16 => ?_)
  · rw [if_pos q16] at hB
    refine ev_iload dL_law_1944 rfl ?_
    refine ev_ifne 1961 dL_law_1946 (by decide) (fun q17 => ?_) (fun q17 => ?_)
    · rw [if_neg q17] at hB
      refine ev_goto 2453 dL_law_1961 (by decide) ?_
      exact ev_ls (u_L_law_2453 hk23 l4 S14 (cu + 1) (su + 6) (by omega) hB) (And.intro rfl (And.intro rfl (And.intro rfl (And.intro rfl (And.intro rfl trivial)))))
    · rw [if_pos q17] at hB
      refine ev_aload_n dL_law_1949 rfl ?_
      refine ev_iconst 0 dL_law_1950 (by decide) ?_
      obtain ⟨c18, hB⟩ := ck_of hB
      refine es_lald dL_law_1951 qA_108 c18 ?_
      refine ev_iload dL_law_1952 rfl ?_
      refine ev_i2l dL_law_1954 ?_
      refine ev_lcmp dL_law_1955 ?_
      refine ev_ifeq 1961 dL_law_1956 (by decide) (fun q19 => ?_) (fun q19 => ?_)
      · rw [if_pos q19] at hB
        refine ev_goto 2453 dL_law_1961 (by decide) ?_
        exact ev_ls (u_L_law_2453 hk23 l4 S14 (cu + 1) (su + 6) (by omega) hB) (And.intro rfl (And.intro rfl (And.intro rfl (And.intro rfl (And.intro rfl trivial)))))
      · rw [if_neg q19] at hB
        refine ev_iconst 0 dL_law_1959 (by decide) ?_
        cases hB
  · rw [if_neg q16] at hB
    refine ev_iconst 0 dL_law_1942 (by decide) ?_
    cases hB
theorem u_L_law_c30 {G : am_G} {N n : Nat} {out : am_S} {k23 : Int32 → am_S → Option am_S} (hk23 : ∀ (l4 : Int32) (S : am_S) (cu su : Nat), (cu + n ≤ 601024 ∧ su + 6 * n ≤ 7293033) → k23 l4 S = some out → Ev G room_1 (LZ G) m_law cu su 23 [some (.float 1001), some (.ref 0), some (.ref 78), some (.ref 108), some (.int l4), none, none] [] (hp S)) (l4 : Int32) (S : am_S) (cu su : Nat) (hb : cu + (n + 1) ≤ 601024 ∧ su + 6 * (n + 1) ≤ 7293033) (hB : b_L_law_c30 N (gN G) (gX G) k23 l4 S = some out) : Ev G room_1 (LZ G) m_law cu su 1964 [some (.float 1001), some (.ref 0), some (.ref 78), some (.ref 108), some (.int l4), none, none] [] (hp S) := by
  unfold b_L_law_c30 at hB
  refine ev_aload_n dL_law_1964 rfl ?_
  refine ev_aload_nF dL_law_1965 rfl ?_
  refine ev_iload dL_law_1966 rfl ?_
  refine ev_iconst 1 dL_law_1968 (by decide) ?_
  refine ev_iadd dL_law_1969 ?_
  obtain ⟨c1, hB⟩ := ck_of hB
  refine ev_saload dL_law_1970 (inb_in c1) ?_
  refine ev_aload_nF dL_law_1971 rfl ?_
  refine ev_iload dL_law_1972 rfl ?_
  refine ev_iconst 2 dL_law_1974 (by decide) ?_
  refine ev_iadd dL_law_1975 ?_
  obtain ⟨c2, hB⟩ := ck_of hB
  refine ev_saload dL_law_1976 (inb_in c2) ?_
  refine ev_aload_n dL_law_1977 rfl ?_
  obtain ⟨r3, S4, e5, hB⟩ := bd_of hB
  refine es_callW (As := [.ref 0, .int (gX G (Int32.toNatClampNeg (l4 + 1))), .int (gX G (Int32.toNatClampNeg (l4 + 2))), .ref 108]) (t_L_pale q9_0 qA_108 e5) dL_law_1978 oL_pale w_1465 rfl (Nat.le_of_ble_eq_true rfl) rfl (fitL (by decide)) ⟨(by show cu + 1 ≤ 601024; omega), (by show su + 6 ≤ 7293033; omega)⟩ ?_
  refine ev_istore dL_law_1981 (by decide) rfl ?_
  refine ev_aload_n dL_law_1983 rfl ?_
  refine ev_aload_nF dL_law_1984 rfl ?_
  refine ev_iload dL_law_1985 rfl ?_
  refine ev_iconst 1 dL_law_1987 (by decide) ?_
  refine ev_iadd dL_law_1988 ?_
  obtain ⟨c6, hB⟩ := ck_of hB
  refine ev_saload dL_law_1989 (inb_in c6) ?_
  refine ev_aload_nF dL_law_1990 rfl ?_
  refine ev_iload dL_law_1991 rfl ?_
  refine ev_iconst 2 dL_law_1993 (by decide) ?_
  refine ev_iadd dL_law_1994 ?_
  obtain ⟨c7, hB⟩ := ck_of hB
  refine ev_saload dL_law_1995 (inb_in c7) ?_
  obtain ⟨r8, S9, e10, hB⟩ := bd_of hB
  refine es_callVi (As := [.int (gX G (Int32.toNatClampNeg (l4 + 1))), .int (gX G (Int32.toNatClampNeg (l4 + 2)))]) (t_X10_pale q10_78 e10) dL_law_1996 oX10_pale w_2070 rfl q10_78 rfl rfl (Nat.le_of_ble_eq_true rfl) rfl (fitL (by decide)) ⟨(by show (cu + 1) ≤ 601024; omega), (by show (su + 6) ≤ 7293033; omega)⟩ ?_
  refine ev_istore dL_law_1999 (by decide) rfl ?_
  refine ev_aload_n dL_law_2001 rfl ?_
  obtain ⟨r11, S12, e13, hB⟩ := bd_of hB
  refine es_callVi (As := []) (t_X10_thrown q10_78 e13) dL_law_2002 oX10_thrown w_1728 rfl q10_78 rfl rfl (Nat.le_of_ble_eq_true rfl) rfl (fitL (by decide)) ⟨(by show (cu + 1) ≤ 601024; omega), (by show (su + 6) ≤ 7293033; omega)⟩ ?_
  refine ev_iload dL_law_2005 rfl ?_
  refine ev_icmpeq 2012 dL_law_2007 (by decide) (fun q14 => ?_) (fun q14 => ?_)
  · rw [if_pos q14] at hB
    refine ev_iload dL_law_2012 rfl ?_
    refine ev_ifne 2029 dL_law_2014 (by decide) (fun q15 => ?_) (fun q15 => ?_)
    · rw [if_neg q15] at hB
      refine ev_goto 2453 dL_law_2029 (by decide) ?_
      exact ev_ls (u_L_law_2453 hk23 l4 S12 (cu + 1) (su + 6) (by omega) hB) (And.intro rfl (And.intro rfl (And.intro rfl (And.intro rfl (And.intro rfl trivial)))))
    · rw [if_pos q15] at hB
      refine ev_aload_n dL_law_2017 rfl ?_
      refine ev_iconst 0 dL_law_2018 (by decide) ?_
      obtain ⟨c16, hB⟩ := ck_of hB
      refine es_lald dL_law_2019 qA_108 c16 ?_
      refine ev_iload dL_law_2020 rfl ?_
      refine ev_i2l dL_law_2022 ?_
      refine ev_lcmp dL_law_2023 ?_
      refine ev_ifeq 2029 dL_law_2024 (by decide) (fun q17 => ?_) (fun q17 => ?_)
      · rw [if_pos q17] at hB
        refine ev_goto 2453 dL_law_2029 (by decide) ?_
        exact ev_ls (u_L_law_2453 hk23 l4 S12 (cu + 1) (su + 6) (by omega) hB) (And.intro rfl (And.intro rfl (And.intro rfl (And.intro rfl (And.intro rfl trivial)))))
      · rw [if_neg q17] at hB
        refine ev_iconst 0 dL_law_2027 (by decide) ?_
        cases hB
  · rw [if_neg q14] at hB
    refine ev_iconst 0 dL_law_2010 (by decide) ?_
    cases hB
theorem u_L_law_c31 {G : am_G} {N n : Nat} {out : am_S} {k23 : Int32 → am_S → Option am_S} (hk23 : ∀ (l4 : Int32) (S : am_S) (cu su : Nat), (cu + n ≤ 601024 ∧ su + 6 * n ≤ 7293033) → k23 l4 S = some out → Ev G room_1 (LZ G) m_law cu su 23 [some (.float 1001), some (.ref 0), some (.ref 78), some (.ref 108), some (.int l4), none, none] [] (hp S)) (l4 : Int32) (S : am_S) (cu su : Nat) (hb : cu + (n + 1) ≤ 601024 ∧ su + 6 * (n + 1) ≤ 7293033) (hB : b_L_law_c31 N (gN G) (gX G) k23 l4 S = some out) : Ev G room_1 (LZ G) m_law cu su 2032 [some (.float 1001), some (.ref 0), some (.ref 78), some (.ref 108), some (.int l4), none, none] [] (hp S) := by
  unfold b_L_law_c31 at hB
  refine ev_aload_n dL_law_2032 rfl ?_
  refine ev_aload_nF dL_law_2033 rfl ?_
  refine ev_iload dL_law_2034 rfl ?_
  refine ev_iconst 1 dL_law_2036 (by decide) ?_
  refine ev_iadd dL_law_2037 ?_
  obtain ⟨c1, hB⟩ := ck_of hB
  refine ev_saload dL_law_2038 (inb_in c1) ?_
  refine ev_aload_nF dL_law_2039 rfl ?_
  refine ev_iload dL_law_2040 rfl ?_
  refine ev_iconst 2 dL_law_2042 (by decide) ?_
  refine ev_iadd dL_law_2043 ?_
  obtain ⟨c2, hB⟩ := ck_of hB
  refine ev_saload dL_law_2044 (inb_in c2) ?_
  refine ev_aload_n dL_law_2045 rfl ?_
  obtain ⟨r3, S4, e5, hB⟩ := bd_of hB
  refine es_callW (As := [.ref 0, .int (gX G (Int32.toNatClampNeg (l4 + 1))), .int (gX G (Int32.toNatClampNeg (l4 + 2))), .ref 108]) (t_L_visits q9_0 qA_108 e5) dL_law_2046 oL_visits w_1472 rfl (Nat.le_of_ble_eq_true rfl) rfl (fitL (by decide)) ⟨(by show cu + 1 ≤ 601024; omega), (by show su + 6 ≤ 7293033; omega)⟩ ?_
  refine ev_istore dL_law_2049 (by decide) rfl ?_
  refine ev_aload_n dL_law_2051 rfl ?_
  refine ev_aload_nF dL_law_2052 rfl ?_
  refine ev_iload dL_law_2053 rfl ?_
  refine ev_iconst 1 dL_law_2055 (by decide) ?_
  refine ev_iadd dL_law_2056 ?_
  obtain ⟨c6, hB⟩ := ck_of hB
  refine ev_saload dL_law_2057 (inb_in c6) ?_
  refine ev_aload_nF dL_law_2058 rfl ?_
  refine ev_iload dL_law_2059 rfl ?_
  refine ev_iconst 2 dL_law_2061 (by decide) ?_
  refine ev_iadd dL_law_2062 ?_
  obtain ⟨c7, hB⟩ := ck_of hB
  refine ev_saload dL_law_2063 (inb_in c7) ?_
  obtain ⟨r8, S9, e10, hB⟩ := bd_of hB
  refine es_callVi (As := [.int (gX G (Int32.toNatClampNeg (l4 + 1))), .int (gX G (Int32.toNatClampNeg (l4 + 2)))]) (t_X10_visits q10_78 e10) dL_law_2064 oX10_visits w_2074 rfl q10_78 rfl rfl (Nat.le_of_ble_eq_true rfl) rfl (fitL (by decide)) ⟨(by show (cu + 1) ≤ 601024; omega), (by show (su + 6) ≤ 7293033; omega)⟩ ?_
  refine ev_istore dL_law_2067 (by decide) rfl ?_
  refine ev_aload_n dL_law_2069 rfl ?_
  obtain ⟨r11, S12, e13, hB⟩ := bd_of hB
  refine es_callVi (As := []) (t_X10_thrown q10_78 e13) dL_law_2070 oX10_thrown w_1728 rfl q10_78 rfl rfl (Nat.le_of_ble_eq_true rfl) rfl (fitL (by decide)) ⟨(by show (cu + 1) ≤ 601024; omega), (by show (su + 6) ≤ 7293033; omega)⟩ ?_
  refine ev_iload dL_law_2073 rfl ?_
  refine ev_icmpeq 2080 dL_law_2075 (by decide) (fun q14 => ?_) (fun q14 => ?_)
  · rw [if_pos q14] at hB
    refine ev_iload dL_law_2080 rfl ?_
    refine ev_ifne 2097 dL_law_2082 (by decide) (fun q15 => ?_) (fun q15 => ?_)
    · rw [if_neg q15] at hB
      refine ev_goto 2453 dL_law_2097 (by decide) ?_
      exact ev_ls (u_L_law_2453 hk23 l4 S12 (cu + 1) (su + 6) (by omega) hB) (And.intro rfl (And.intro rfl (And.intro rfl (And.intro rfl (And.intro rfl trivial)))))
    · rw [if_pos q15] at hB
      refine ev_aload_n dL_law_2085 rfl ?_
      refine ev_iconst 0 dL_law_2086 (by decide) ?_
      obtain ⟨c16, hB⟩ := ck_of hB
      refine es_lald dL_law_2087 qA_108 c16 ?_
      refine ev_iload dL_law_2088 rfl ?_
      refine ev_i2l dL_law_2090 ?_
      refine ev_lcmp dL_law_2091 ?_
      refine ev_ifeq 2097 dL_law_2092 (by decide) (fun q17 => ?_) (fun q17 => ?_)
      · rw [if_pos q17] at hB
        refine ev_goto 2453 dL_law_2097 (by decide) ?_
        exact ev_ls (u_L_law_2453 hk23 l4 S12 (cu + 1) (su + 6) (by omega) hB) (And.intro rfl (And.intro rfl (And.intro rfl (And.intro rfl (And.intro rfl trivial)))))
      · rw [if_neg q17] at hB
        refine ev_iconst 0 dL_law_2095 (by decide) ?_
        cases hB
  · rw [if_neg q14] at hB
    refine ev_iconst 0 dL_law_2078 (by decide) ?_
    cases hB
theorem u_L_law_c32 {G : am_G} {N n : Nat} {out : am_S} {k23 : Int32 → am_S → Option am_S} (hk23 : ∀ (l4 : Int32) (S : am_S) (cu su : Nat), (cu + n ≤ 601024 ∧ su + 6 * n ≤ 7293033) → k23 l4 S = some out → Ev G room_1 (LZ G) m_law cu su 23 [some (.float 1001), some (.ref 0), some (.ref 78), some (.ref 108), some (.int l4), none, none] [] (hp S)) (l4 : Int32) (S : am_S) (cu su : Nat) (hb : cu + (n + 1) ≤ 601024 ∧ su + 6 * (n + 1) ≤ 7293033) (hB : b_L_law_c32 N (gN G) (gX G) k23 l4 S = some out) : Ev G room_1 (LZ G) m_law cu su 2100 [some (.float 1001), some (.ref 0), some (.ref 78), some (.ref 108), some (.int l4), none, none] [] (hp S) := by
  unfold b_L_law_c32 at hB
  refine ev_aload_n dL_law_2100 rfl ?_
  refine ev_aload_nF dL_law_2101 rfl ?_
  refine ev_iload dL_law_2102 rfl ?_
  refine ev_iconst 1 dL_law_2104 (by decide) ?_
  refine ev_iadd dL_law_2105 ?_
  obtain ⟨c1, hB⟩ := ck_of hB
  refine ev_saload dL_law_2106 (inb_in c1) ?_
  refine ev_aload_nF dL_law_2107 rfl ?_
  refine ev_iload dL_law_2108 rfl ?_
  refine ev_iconst 2 dL_law_2110 (by decide) ?_
  refine ev_iadd dL_law_2111 ?_
  obtain ⟨c2, hB⟩ := ck_of hB
  refine ev_saload dL_law_2112 (inb_in c2) ?_
  refine ev_aload_n dL_law_2113 rfl ?_
  obtain ⟨r3, S4, e5, hB⟩ := bd_of hB
  refine es_callW (As := [.ref 0, .int (gX G (Int32.toNatClampNeg (l4 + 1))), .int (gX G (Int32.toNatClampNeg (l4 + 2))), .ref 108]) (t_L_steps q9_0 qA_108 e5) dL_law_2114 oL_steps w_1479 rfl (Nat.le_of_ble_eq_true rfl) rfl (fitL (by decide)) ⟨(by show cu + 1 ≤ 601024; omega), (by show su + 6 ≤ 7293033; omega)⟩ ?_
  refine ev_istore dL_law_2117 (by decide) rfl ?_
  refine ev_aload_n dL_law_2119 rfl ?_
  refine ev_aload_nF dL_law_2120 rfl ?_
  refine ev_iload dL_law_2121 rfl ?_
  refine ev_iconst 1 dL_law_2123 (by decide) ?_
  refine ev_iadd dL_law_2124 ?_
  obtain ⟨c6, hB⟩ := ck_of hB
  refine ev_saload dL_law_2125 (inb_in c6) ?_
  refine ev_aload_nF dL_law_2126 rfl ?_
  refine ev_iload dL_law_2127 rfl ?_
  refine ev_iconst 2 dL_law_2129 (by decide) ?_
  refine ev_iadd dL_law_2130 ?_
  obtain ⟨c7, hB⟩ := ck_of hB
  refine ev_saload dL_law_2131 (inb_in c7) ?_
  obtain ⟨r8, S9, e10, hB⟩ := bd_of hB
  refine es_callVi (As := [.int (gX G (Int32.toNatClampNeg (l4 + 1))), .int (gX G (Int32.toNatClampNeg (l4 + 2)))]) (t_X10_steps q10_78 e10) dL_law_2132 oX10_steps w_2102 rfl q10_78 rfl rfl (Nat.le_of_ble_eq_true rfl) rfl (fitL (by decide)) ⟨(by show (cu + 1) ≤ 601024; omega), (by show (su + 6) ≤ 7293033; omega)⟩ ?_
  refine ev_istore dL_law_2135 (by decide) rfl ?_
  refine ev_aload_n dL_law_2137 rfl ?_
  obtain ⟨r11, S12, e13, hB⟩ := bd_of hB
  refine es_callVi (As := []) (t_X10_thrown q10_78 e13) dL_law_2138 oX10_thrown w_1728 rfl q10_78 rfl rfl (Nat.le_of_ble_eq_true rfl) rfl (fitL (by decide)) ⟨(by show (cu + 1) ≤ 601024; omega), (by show (su + 6) ≤ 7293033; omega)⟩ ?_
  refine ev_iload dL_law_2141 rfl ?_
  refine ev_icmpeq 2148 dL_law_2143 (by decide) (fun q14 => ?_) (fun q14 => ?_)
  · rw [if_pos q14] at hB
    refine ev_iload dL_law_2148 rfl ?_
    refine ev_ifne 2165 dL_law_2150 (by decide) (fun q15 => ?_) (fun q15 => ?_)
    · rw [if_neg q15] at hB
      refine ev_goto 2453 dL_law_2165 (by decide) ?_
      exact ev_ls (u_L_law_2453 hk23 l4 S12 (cu + 1) (su + 6) (by omega) hB) (And.intro rfl (And.intro rfl (And.intro rfl (And.intro rfl (And.intro rfl trivial)))))
    · rw [if_pos q15] at hB
      refine ev_aload_n dL_law_2153 rfl ?_
      refine ev_iconst 0 dL_law_2154 (by decide) ?_
      obtain ⟨c16, hB⟩ := ck_of hB
      refine es_lald dL_law_2155 qA_108 c16 ?_
      refine ev_iload dL_law_2156 rfl ?_
      refine ev_i2l dL_law_2158 ?_
      refine ev_lcmp dL_law_2159 ?_
      refine ev_ifeq 2165 dL_law_2160 (by decide) (fun q17 => ?_) (fun q17 => ?_)
      · rw [if_pos q17] at hB
        refine ev_goto 2453 dL_law_2165 (by decide) ?_
        exact ev_ls (u_L_law_2453 hk23 l4 S12 (cu + 1) (su + 6) (by omega) hB) (And.intro rfl (And.intro rfl (And.intro rfl (And.intro rfl (And.intro rfl trivial)))))
      · rw [if_neg q17] at hB
        refine ev_iconst 0 dL_law_2163 (by decide) ?_
        cases hB
  · rw [if_neg q14] at hB
    refine ev_iconst 0 dL_law_2146 (by decide) ?_
    cases hB
theorem u_L_law_c33 {G : am_G} {N n : Nat} {out : am_S} {k23 : Int32 → am_S → Option am_S} (hk23 : ∀ (l4 : Int32) (S : am_S) (cu su : Nat), (cu + n ≤ 601024 ∧ su + 6 * n ≤ 7293033) → k23 l4 S = some out → Ev G room_1 (LZ G) m_law cu su 23 [some (.float 1001), some (.ref 0), some (.ref 78), some (.ref 108), some (.int l4), none, none] [] (hp S)) (l4 : Int32) (S : am_S) (cu su : Nat) (hb : cu + (n + 1) ≤ 601024 ∧ su + 6 * (n + 1) ≤ 7293033) (hB : b_L_law_c33 N (gN G) (gX G) k23 l4 S = some out) : Ev G room_1 (LZ G) m_law cu su 2168 [some (.float 1001), some (.ref 0), some (.ref 78), some (.ref 108), some (.int l4), none, none] [] (hp S) := by
  unfold b_L_law_c33 at hB
  refine ev_aload_n dL_law_2168 rfl ?_
  refine ev_aload_nF dL_law_2169 rfl ?_
  refine ev_iload dL_law_2170 rfl ?_
  refine ev_iconst 1 dL_law_2172 (by decide) ?_
  refine ev_iadd dL_law_2173 ?_
  obtain ⟨c1, hB⟩ := ck_of hB
  refine ev_saload dL_law_2174 (inb_in c1) ?_
  refine ev_aload_nF dL_law_2175 rfl ?_
  refine ev_iload dL_law_2176 rfl ?_
  refine ev_iconst 2 dL_law_2178 (by decide) ?_
  refine ev_iadd dL_law_2179 ?_
  obtain ⟨c2, hB⟩ := ck_of hB
  refine ev_saload dL_law_2180 (inb_in c2) ?_
  refine ev_aload_n dL_law_2181 rfl ?_
  obtain ⟨r3, S4, e5, hB⟩ := bd_of hB
  refine es_callW (As := [.ref 0, .int (gX G (Int32.toNatClampNeg (l4 + 1))), .int (gX G (Int32.toNatClampNeg (l4 + 2))), .ref 108]) (t_L_quiet q9_0 qA_108 e5) dL_law_2182 oL_quiet w_1486 rfl (Nat.le_of_ble_eq_true rfl) rfl (fitL (by decide)) ⟨(by show cu + 1 ≤ 601024; omega), (by show su + 6 ≤ 7293033; omega)⟩ ?_
  refine ev_istore dL_law_2185 (by decide) rfl ?_
  refine ev_aload_n dL_law_2187 rfl ?_
  refine ev_aload_nF dL_law_2188 rfl ?_
  refine ev_iload dL_law_2189 rfl ?_
  refine ev_iconst 1 dL_law_2191 (by decide) ?_
  refine ev_iadd dL_law_2192 ?_
  obtain ⟨c6, hB⟩ := ck_of hB
  refine ev_saload dL_law_2193 (inb_in c6) ?_
  refine ev_aload_nF dL_law_2194 rfl ?_
  refine ev_iload dL_law_2195 rfl ?_
  refine ev_iconst 2 dL_law_2197 (by decide) ?_
  refine ev_iadd dL_law_2198 ?_
  obtain ⟨c7, hB⟩ := ck_of hB
  refine ev_saload dL_law_2199 (inb_in c7) ?_
  obtain ⟨r8, S9, e10, hB⟩ := bd_of hB
  refine es_callVi (As := [.int (gX G (Int32.toNatClampNeg (l4 + 1))), .int (gX G (Int32.toNatClampNeg (l4 + 2)))]) (t_X10_quiet q10_78 e10) dL_law_2200 oX10_quiet w_2082 rfl q10_78 rfl rfl (Nat.le_of_ble_eq_true rfl) rfl (fitL (by decide)) ⟨(by show (cu + 1) ≤ 601024; omega), (by show (su + 6) ≤ 7293033; omega)⟩ ?_
  refine ev_istore dL_law_2203 (by decide) rfl ?_
  refine ev_aload_n dL_law_2205 rfl ?_
  obtain ⟨r11, S12, e13, hB⟩ := bd_of hB
  refine es_callVi (As := []) (t_X10_thrown q10_78 e13) dL_law_2206 oX10_thrown w_1728 rfl q10_78 rfl rfl (Nat.le_of_ble_eq_true rfl) rfl (fitL (by decide)) ⟨(by show (cu + 1) ≤ 601024; omega), (by show (su + 6) ≤ 7293033; omega)⟩ ?_
  refine ev_iload dL_law_2209 rfl ?_
  refine ev_icmpeq 2216 dL_law_2211 (by decide) (fun q14 => ?_) (fun q14 => ?_)
  · rw [if_pos q14] at hB
    refine ev_iload dL_law_2216 rfl ?_
    refine ev_ifne 2233 dL_law_2218 (by decide) (fun q15 => ?_) (fun q15 => ?_)
    · rw [if_neg q15] at hB
      refine ev_goto 2453 dL_law_2233 (by decide) ?_
      exact ev_ls (u_L_law_2453 hk23 l4 S12 (cu + 1) (su + 6) (by omega) hB) (And.intro rfl (And.intro rfl (And.intro rfl (And.intro rfl (And.intro rfl trivial)))))
    · rw [if_pos q15] at hB
      refine ev_aload_n dL_law_2221 rfl ?_
      refine ev_iconst 0 dL_law_2222 (by decide) ?_
      obtain ⟨c16, hB⟩ := ck_of hB
      refine es_lald dL_law_2223 qA_108 c16 ?_
      refine ev_iload dL_law_2224 rfl ?_
      refine ev_i2l dL_law_2226 ?_
      refine ev_lcmp dL_law_2227 ?_
      refine ev_ifeq 2233 dL_law_2228 (by decide) (fun q17 => ?_) (fun q17 => ?_)
      · rw [if_pos q17] at hB
        refine ev_goto 2453 dL_law_2233 (by decide) ?_
        exact ev_ls (u_L_law_2453 hk23 l4 S12 (cu + 1) (su + 6) (by omega) hB) (And.intro rfl (And.intro rfl (And.intro rfl (And.intro rfl (And.intro rfl trivial)))))
      · rw [if_neg q17] at hB
        refine ev_iconst 0 dL_law_2231 (by decide) ?_
        cases hB
  · rw [if_neg q14] at hB
    refine ev_iconst 0 dL_law_2214 (by decide) ?_
    cases hB
theorem u_L_law_c34 {G : am_G} {N n : Nat} {out : am_S} {k23 : Int32 → am_S → Option am_S} (hk23 : ∀ (l4 : Int32) (S : am_S) (cu su : Nat), (cu + n ≤ 601024 ∧ su + 6 * n ≤ 7293033) → k23 l4 S = some out → Ev G room_1 (LZ G) m_law cu su 23 [some (.float 1001), some (.ref 0), some (.ref 78), some (.ref 108), some (.int l4), none, none] [] (hp S)) (l4 : Int32) (S : am_S) (cu su : Nat) (hb : cu + (n + 1) ≤ 601024 ∧ su + 6 * (n + 1) ≤ 7293033) (hB : b_L_law_c34 N (gN G) (gX G) k23 l4 S = some out) : Ev G room_1 (LZ G) m_law cu su 2236 [some (.float 1001), some (.ref 0), some (.ref 78), some (.ref 108), some (.int l4), none, none] [] (hp S) := by
  unfold b_L_law_c34 at hB
  refine ev_aload_n dL_law_2236 rfl ?_
  obtain ⟨r1, S2, e3, hB⟩ := bd_of hB
  refine es_callVi (As := []) (t_X9_middle q9_0 e3) dL_law_2237 oX9_middle w_786 rfl q9_0 rfl rfl (Nat.le_of_ble_eq_true rfl) rfl (fitL (by decide)) ⟨(by show cu ≤ 601024; omega), (by show su ≤ 7293033; omega)⟩ ?_
  refine ev_aload_n dL_law_2240 rfl ?_
  obtain ⟨r4, S5, e6, hB⟩ := bd_of hB
  refine es_callVi (As := []) (t_X10_middle q10_78 e6) dL_law_2241 oX10_middle w_2129 rfl q10_78 rfl rfl (Nat.le_of_ble_eq_true rfl) rfl (fitL (by decide)) ⟨(by show cu ≤ 601024; omega), (by show su ≤ 7293033; omega)⟩ ?_
  refine ev_icmpeq 2453 dL_law_2244 (by decide) (fun q7 => ?_) (fun q7 => ?_)
  · rw [if_pos q7] at hB
    exact ev_ls (u_L_law_2453 hk23 l4 S5 cu su (by omega) hB) (And.intro rfl (And.intro rfl (And.intro rfl (And.intro rfl (And.intro rfl trivial)))))
  · rw [if_neg q7] at hB
    refine ev_iconst 0 dL_law_2247 (by decide) ?_
    cases hB
theorem u_L_law_c35 {G : am_G} {N n : Nat} {out : am_S} {k23 : Int32 → am_S → Option am_S} (hk23 : ∀ (l4 : Int32) (S : am_S) (cu su : Nat), (cu + n ≤ 601024 ∧ su + 6 * n ≤ 7293033) → k23 l4 S = some out → Ev G room_1 (LZ G) m_law cu su 23 [some (.float 1001), some (.ref 0), some (.ref 78), some (.ref 108), some (.int l4), none, none] [] (hp S)) (l4 : Int32) (S : am_S) (cu su : Nat) (hb : cu + (n + 1) ≤ 601024 ∧ su + 6 * (n + 1) ≤ 7293033) (hB : b_L_law_c35 N (gN G) (gX G) k23 l4 S = some out) : Ev G room_1 (LZ G) m_law cu su 2249 [some (.float 1001), some (.ref 0), some (.ref 78), some (.ref 108), some (.int l4), none, none] [] (hp S) := by
  unfold b_L_law_c35 at hB
  refine ev_aload_n dL_law_2249 rfl ?_
  refine ev_aload_nF dL_law_2250 rfl ?_
  refine ev_iload dL_law_2251 rfl ?_
  refine ev_iconst 1 dL_law_2253 (by decide) ?_
  refine ev_iadd dL_law_2254 ?_
  obtain ⟨c1, hB⟩ := ck_of hB
  refine ev_saload dL_law_2255 (inb_in c1) ?_
  refine ev_aload_nF dL_law_2256 rfl ?_
  refine ev_iload dL_law_2257 rfl ?_
  refine ev_iconst 2 dL_law_2259 (by decide) ?_
  refine ev_iadd dL_law_2260 ?_
  obtain ⟨c2, hB⟩ := ck_of hB
  refine ev_saload dL_law_2261 (inb_in c2) ?_
  refine ev_aload_n dL_law_2262 rfl ?_
  obtain ⟨r3, S4, e5, hB⟩ := bd_of hB
  refine es_callW (As := [.ref 0, .int (gX G (Int32.toNatClampNeg (l4 + 1))), .int (gX G (Int32.toNatClampNeg (l4 + 2))), .ref 108]) (t_L_bestAt q9_0 qA_108 e5) dL_law_2263 oL_bestAt w_1494 rfl (Nat.le_of_ble_eq_true rfl) rfl (fitL (by decide)) ⟨(by show cu + 1 ≤ 601024; omega), (by show su + 6 ≤ 7293033; omega)⟩ ?_
  refine ev_istore dL_law_2266 (by decide) rfl ?_
  refine ev_aload_n dL_law_2268 rfl ?_
  refine ev_aload_nF dL_law_2269 rfl ?_
  refine ev_iload dL_law_2270 rfl ?_
  refine ev_iconst 1 dL_law_2272 (by decide) ?_
  refine ev_iadd dL_law_2273 ?_
  obtain ⟨c6, hB⟩ := ck_of hB
  refine ev_saload dL_law_2274 (inb_in c6) ?_
  refine ev_aload_nF dL_law_2275 rfl ?_
  refine ev_iload dL_law_2276 rfl ?_
  refine ev_iconst 2 dL_law_2278 (by decide) ?_
  refine ev_iadd dL_law_2279 ?_
  obtain ⟨c7, hB⟩ := ck_of hB
  refine ev_saload dL_law_2280 (inb_in c7) ?_
  obtain ⟨r8, S9, e10, hB⟩ := bd_of hB
  refine es_callVi (As := [.int (gX G (Int32.toNatClampNeg (l4 + 1))), .int (gX G (Int32.toNatClampNeg (l4 + 2)))]) (t_X10_bestAt q10_78 e10) dL_law_2281 oX10_bestAt w_2106 rfl q10_78 rfl rfl (Nat.le_of_ble_eq_true rfl) rfl (fitL (by decide)) ⟨(by show (cu + 1) ≤ 601024; omega), (by show (su + 6) ≤ 7293033; omega)⟩ ?_
  refine ev_istore dL_law_2284 (by decide) rfl ?_
  refine ev_aload_n dL_law_2286 rfl ?_
  obtain ⟨r11, S12, e13, hB⟩ := bd_of hB
  refine es_callVi (As := []) (t_X10_thrown q10_78 e13) dL_law_2287 oX10_thrown w_1728 rfl q10_78 rfl rfl (Nat.le_of_ble_eq_true rfl) rfl (fitL (by decide)) ⟨(by show (cu + 1) ≤ 601024; omega), (by show (su + 6) ≤ 7293033; omega)⟩ ?_
  refine ev_iload dL_law_2290 rfl ?_
  refine ev_icmpeq 2297 dL_law_2292 (by decide) (fun q14 => ?_) (fun q14 => ?_)
  · rw [if_pos q14] at hB
    refine ev_iload dL_law_2297 rfl ?_
    refine ev_ifne 2314 dL_law_2299 (by decide) (fun q15 => ?_) (fun q15 => ?_)
    · rw [if_neg q15] at hB
      refine ev_goto 2453 dL_law_2314 (by decide) ?_
      exact ev_ls (u_L_law_2453 hk23 l4 S12 (cu + 1) (su + 6) (by omega) hB) (And.intro rfl (And.intro rfl (And.intro rfl (And.intro rfl (And.intro rfl trivial)))))
    · rw [if_pos q15] at hB
      refine ev_aload_n dL_law_2302 rfl ?_
      refine ev_iconst 0 dL_law_2303 (by decide) ?_
      obtain ⟨c16, hB⟩ := ck_of hB
      refine es_lald dL_law_2304 qA_108 c16 ?_
      refine ev_iload dL_law_2305 rfl ?_
      refine ev_i2l dL_law_2307 ?_
      refine ev_lcmp dL_law_2308 ?_
      refine ev_ifeq 2314 dL_law_2309 (by decide) (fun q17 => ?_) (fun q17 => ?_)
      · rw [if_pos q17] at hB
        refine ev_goto 2453 dL_law_2314 (by decide) ?_
        exact ev_ls (u_L_law_2453 hk23 l4 S12 (cu + 1) (su + 6) (by omega) hB) (And.intro rfl (And.intro rfl (And.intro rfl (And.intro rfl (And.intro rfl trivial)))))
      · rw [if_neg q17] at hB
        refine ev_iconst 0 dL_law_2312 (by decide) ?_
        cases hB
  · rw [if_neg q14] at hB
    refine ev_iconst 0 dL_law_2295 (by decide) ?_
    cases hB
theorem u_L_law_c36 {G : am_G} {N n : Nat} {out : am_S} {k23 : Int32 → am_S → Option am_S} (hk23 : ∀ (l4 : Int32) (S : am_S) (cu su : Nat), (cu + n ≤ 601024 ∧ su + 6 * n ≤ 7293033) → k23 l4 S = some out → Ev G room_1 (LZ G) m_law cu su 23 [some (.float 1001), some (.ref 0), some (.ref 78), some (.ref 108), some (.int l4), none, none] [] (hp S)) (l4 : Int32) (S : am_S) (cu su : Nat) (hb : cu + (n + 1) ≤ 601024 ∧ su + 6 * (n + 1) ≤ 7293033) (hB : b_L_law_c36 N (gN G) (gX G) k23 l4 S = some out) : Ev G room_1 (LZ G) m_law cu su 2317 [some (.float 1001), some (.ref 0), some (.ref 78), some (.ref 108), some (.int l4), none, none] [] (hp S) := by
  unfold b_L_law_c36 at hB
  refine ev_aload_n dL_law_2317 rfl ?_
  refine ev_aload_nF dL_law_2318 rfl ?_
  refine ev_iload dL_law_2319 rfl ?_
  refine ev_iconst 1 dL_law_2321 (by decide) ?_
  refine ev_iadd dL_law_2322 ?_
  obtain ⟨c1, hB⟩ := ck_of hB
  refine ev_saload dL_law_2323 (inb_in c1) ?_
  refine ev_aload_n dL_law_2324 rfl ?_
  obtain ⟨r2, S3, e4, hB⟩ := bd_of hB
  refine es_callW (As := [.ref 0, .int (gX G (Int32.toNatClampNeg (l4 + 1))), .ref 108]) (t_L_reds q9_0 qA_108 e4) dL_law_2325 oL_reds w_1501 rfl (Nat.le_of_ble_eq_true rfl) rfl (fitL (by decide)) ⟨(by show cu + 1 ≤ 601024; omega), (by show su + 6 ≤ 7293033; omega)⟩ ?_
  refine ev_istore dL_law_2328 (by decide) rfl ?_
  refine ev_aload_n dL_law_2330 rfl ?_
  refine ev_aload_nF dL_law_2331 rfl ?_
  refine ev_iload dL_law_2332 rfl ?_
  refine ev_iconst 1 dL_law_2334 (by decide) ?_
  refine ev_iadd dL_law_2335 ?_
  obtain ⟨c5, hB⟩ := ck_of hB
  refine ev_saload dL_law_2336 (inb_in c5) ?_
  obtain ⟨r6, S7, e8, hB⟩ := bd_of hB
  refine es_callVi (As := [.int (gX G (Int32.toNatClampNeg (l4 + 1)))]) (t_X10_reds q10_78 e8) dL_law_2337 oX10_reds w_2078 rfl q10_78 rfl rfl (Nat.le_of_ble_eq_true rfl) rfl (fitL (by decide)) ⟨(by show (cu + 1) ≤ 601024; omega), (by show (su + 6) ≤ 7293033; omega)⟩ ?_
  refine ev_istore dL_law_2340 (by decide) rfl ?_
  refine ev_aload_n dL_law_2342 rfl ?_
  obtain ⟨r9, S10, e11, hB⟩ := bd_of hB
  refine es_callVi (As := []) (t_X10_thrown q10_78 e11) dL_law_2343 oX10_thrown w_1728 rfl q10_78 rfl rfl (Nat.le_of_ble_eq_true rfl) rfl (fitL (by decide)) ⟨(by show (cu + 1) ≤ 601024; omega), (by show (su + 6) ≤ 7293033; omega)⟩ ?_
  refine ev_iload dL_law_2346 rfl ?_
  refine ev_icmpeq 2353 dL_law_2348 (by decide) (fun q12 => ?_) (fun q12 => ?_)
  · rw [if_pos q12] at hB
    refine ev_iload dL_law_2353 rfl ?_
    refine ev_ifne 2370 dL_law_2355 (by decide) (fun q13 => ?_) (fun q13 => ?_)
    · rw [if_neg q13] at hB
      refine ev_goto 2453 dL_law_2370 (by decide) ?_
      exact ev_ls (u_L_law_2453 hk23 l4 S10 (cu + 1) (su + 6) (by omega) hB) (And.intro rfl (And.intro rfl (And.intro rfl (And.intro rfl (And.intro rfl trivial)))))
    · rw [if_pos q13] at hB
      refine ev_aload_n dL_law_2358 rfl ?_
      refine ev_iconst 0 dL_law_2359 (by decide) ?_
      obtain ⟨c14, hB⟩ := ck_of hB
      refine es_lald dL_law_2360 qA_108 c14 ?_
      refine ev_iload dL_law_2361 rfl ?_
      refine ev_i2l dL_law_2363 ?_
      refine ev_lcmp dL_law_2364 ?_
      refine ev_ifeq 2370 dL_law_2365 (by decide) (fun q15 => ?_) (fun q15 => ?_)
      · rw [if_pos q15] at hB
        refine ev_goto 2453 dL_law_2370 (by decide) ?_
        exact ev_ls (u_L_law_2453 hk23 l4 S10 (cu + 1) (su + 6) (by omega) hB) (And.intro rfl (And.intro rfl (And.intro rfl (And.intro rfl (And.intro rfl trivial)))))
      · rw [if_neg q15] at hB
        refine ev_iconst 0 dL_law_2368 (by decide) ?_
        cases hB
  · rw [if_neg q12] at hB
    refine ev_iconst 0 dL_law_2351 (by decide) ?_
    cases hB
theorem u_L_law_c37 {G : am_G} {N n : Nat} {out : am_S} {k23 : Int32 → am_S → Option am_S} (hk23 : ∀ (l4 : Int32) (S : am_S) (cu su : Nat), (cu + n ≤ 601024 ∧ su + 6 * n ≤ 7293033) → k23 l4 S = some out → Ev G room_1 (LZ G) m_law cu su 23 [some (.float 1001), some (.ref 0), some (.ref 78), some (.ref 108), some (.int l4), none, none] [] (hp S)) (l4 : Int32) (S : am_S) (cu su : Nat) (hb : cu + (n + 1) ≤ 601024 ∧ su + 6 * (n + 1) ≤ 7293033) (hB : b_L_law_c37 N (gN G) (gX G) k23 l4 S = some out) : Ev G room_1 (LZ G) m_law cu su 2373 [some (.float 1001), some (.ref 0), some (.ref 78), some (.ref 108), some (.int l4), none, none] [] (hp S) := by
  unfold b_L_law_c37 at hB
  refine ev_aload_n dL_law_2373 rfl ?_
  refine ev_aload_nF dL_law_2374 rfl ?_
  refine ev_iload dL_law_2375 rfl ?_
  refine ev_iconst 1 dL_law_2377 (by decide) ?_
  refine ev_iadd dL_law_2378 ?_
  obtain ⟨c1, hB⟩ := ck_of hB
  refine ev_saload dL_law_2379 (inb_in c1) ?_
  refine ev_aload_n dL_law_2380 rfl ?_
  obtain ⟨r2, S3, e4, hB⟩ := bd_of hB
  refine es_callW (As := [.ref 0, .int (gX G (Int32.toNatClampNeg (l4 + 1))), .ref 108]) (t_L_whose q9_0 qA_108 e4) dL_law_2381 oL_whose w_1512 rfl (Nat.le_of_ble_eq_true rfl) rfl (fitL (by decide)) ⟨(by show cu + 1 ≤ 601024; omega), (by show su + 6 ≤ 7293033; omega)⟩ ?_
  refine ev_istore dL_law_2384 (by decide) rfl ?_
  refine ev_aload_n dL_law_2386 rfl ?_
  refine ev_aload_nF dL_law_2387 rfl ?_
  refine ev_iload dL_law_2388 rfl ?_
  refine ev_iconst 1 dL_law_2390 (by decide) ?_
  refine ev_iadd dL_law_2391 ?_
  obtain ⟨c5, hB⟩ := ck_of hB
  refine ev_saload dL_law_2392 (inb_in c5) ?_
  obtain ⟨r6, S7, e8, hB⟩ := bd_of hB
  refine es_callVi (As := [.int (gX G (Int32.toNatClampNeg (l4 + 1)))]) (t_X10_whose q10_78 e8) dL_law_2393 oX10_whose w_2086 rfl q10_78 rfl rfl (Nat.le_of_ble_eq_true rfl) rfl (fitL (by decide)) ⟨(by show (cu + 1) ≤ 601024; omega), (by show (su + 6) ≤ 7293033; omega)⟩ ?_
  refine ev_istore dL_law_2396 (by decide) rfl ?_
  refine ev_aload_n dL_law_2398 rfl ?_
  obtain ⟨r9, S10, e11, hB⟩ := bd_of hB
  refine es_callVi (As := []) (t_X10_thrown q10_78 e11) dL_law_2399 oX10_thrown w_1728 rfl q10_78 rfl rfl (Nat.le_of_ble_eq_true rfl) rfl (fitL (by decide)) ⟨(by show (cu + 1) ≤ 601024; omega), (by show (su + 6) ≤ 7293033; omega)⟩ ?_
  refine ev_iload dL_law_2402 rfl ?_
  refine ev_icmpeq 2409 dL_law_2404 (by decide) (fun q12 => ?_) (fun q12 => ?_)
  · rw [if_pos q12] at hB
    refine ev_iload dL_law_2409 rfl ?_
    refine ev_ifne 2426 dL_law_2411 (by decide) (fun q13 => ?_) (fun q13 => ?_)
    · rw [if_neg q13] at hB
      refine ev_goto 2453 dL_law_2426 (by decide) ?_
      exact ev_ls (u_L_law_2453 hk23 l4 S10 (cu + 1) (su + 6) (by omega) hB) (And.intro rfl (And.intro rfl (And.intro rfl (And.intro rfl (And.intro rfl trivial)))))
    · rw [if_pos q13] at hB
      refine ev_aload_n dL_law_2414 rfl ?_
      refine ev_iconst 0 dL_law_2415 (by decide) ?_
      obtain ⟨c14, hB⟩ := ck_of hB
      refine es_lald dL_law_2416 qA_108 c14 ?_
      refine ev_iload dL_law_2417 rfl ?_
      refine ev_i2l dL_law_2419 ?_
      refine ev_lcmp dL_law_2420 ?_
      refine ev_ifeq 2426 dL_law_2421 (by decide) (fun q15 => ?_) (fun q15 => ?_)
      · rw [if_pos q15] at hB
        refine ev_goto 2453 dL_law_2426 (by decide) ?_
        exact ev_ls (u_L_law_2453 hk23 l4 S10 (cu + 1) (su + 6) (by omega) hB) (And.intro rfl (And.intro rfl (And.intro rfl (And.intro rfl (And.intro rfl trivial)))))
      · rw [if_neg q15] at hB
        refine ev_iconst 0 dL_law_2424 (by decide) ?_
        cases hB
  · rw [if_neg q12] at hB
    refine ev_iconst 0 dL_law_2407 (by decide) ?_
    cases hB
theorem u_L_law_c38 {G : am_G} {N n : Nat} {out : am_S} {k23 : Int32 → am_S → Option am_S} (hk23 : ∀ (l4 : Int32) (S : am_S) (cu su : Nat), (cu + n ≤ 601024 ∧ su + 6 * n ≤ 7293033) → k23 l4 S = some out → Ev G room_1 (LZ G) m_law cu su 23 [some (.float 1001), some (.ref 0), some (.ref 78), some (.ref 108), some (.int l4), none, none] [] (hp S)) (l4 : Int32) (S : am_S) (cu su : Nat) (hb : cu + (n + 1) ≤ 601024 ∧ su + 6 * (n + 1) ≤ 7293033) (hB : b_L_law_c38 N (gN G) (gX G) k23 l4 S = some out) : Ev G room_1 (LZ G) m_law cu su 2429 [some (.float 1001), some (.ref 0), some (.ref 78), some (.ref 108), some (.int l4), none, none] [] (hp S) := by
  unfold b_L_law_c38 at hB
  refine ev_aload_n dL_law_2429 rfl ?_
  obtain ⟨S2, e3, hB⟩ := bv_of hB
  refine es_callVv (As := []) (t_X9_image q9_0 e3) dL_law_2430 oX9_image w_799 rfl q9_0 rfl rfl (Nat.le_of_ble_eq_true rfl) rfl (fitL (by decide)) ⟨(by show cu ≤ 601024; omega), (by show su ≤ 7293033; omega)⟩ ?_
  refine ev_aload_n dL_law_2433 rfl ?_
  obtain ⟨S5, e6, hB⟩ := bv_of hB
  refine es_callVv (As := []) (t_X10_image q10_78 e6) dL_law_2434 oX10_image w_2194 rfl q10_78 rfl rfl (Nat.le_of_ble_eq_true rfl) rfl (fitL (by decide)) ⟨(by show cu ≤ 601024; omega), (by show su ≤ 7293033; omega)⟩ ?_
  refine ev_goto 2453 dL_law_2437 (by decide) ?_
  exact ev_ls (u_L_law_2453 hk23 l4 S5 cu su (by omega) hB) (And.intro rfl (And.intro rfl (And.intro rfl (And.intro rfl (And.intro rfl trivial)))))
theorem u_L_law_c39 {G : am_G} {N n : Nat} {out : am_S} {k23 : Int32 → am_S → Option am_S} (hk23 : ∀ (l4 : Int32) (S : am_S) (cu su : Nat), (cu + n ≤ 601024 ∧ su + 6 * n ≤ 7293033) → k23 l4 S = some out → Ev G room_1 (LZ G) m_law cu su 23 [some (.float 1001), some (.ref 0), some (.ref 78), some (.ref 108), some (.int l4), none, none] [] (hp S)) (l4 : Int32) (S : am_S) (cu su : Nat) (hb : cu + (n + 1) ≤ 601024 ∧ su + 6 * (n + 1) ≤ 7293033) (hB : b_L_law_c39 N (gN G) (gX G) k23 l4 S = some out) : Ev G room_1 (LZ G) m_law cu su 2440 [some (.float 1001), some (.ref 0), some (.ref 78), some (.ref 108), some (.int l4), none, none] [] (hp S) := by
  unfold b_L_law_c39 at hB
  refine ev_aload_n dL_law_2440 rfl ?_
  obtain ⟨r1, S2, e3, hB⟩ := bd_of hB
  refine es_callVi (As := []) (t_X9_restore q9_0 e3) dL_law_2441 oX9_restore w_817 rfl q9_0 rfl rfl (Nat.le_of_ble_eq_true rfl) rfl (fitL (by decide)) ⟨(by show cu ≤ 601024; omega), (by show su ≤ 7293033; omega)⟩ ?_
  refine ev_aload_n dL_law_2444 rfl ?_
  obtain ⟨r4, S5, e6, hB⟩ := bd_of hB
  refine es_callVi (As := []) (t_X10_restore q10_78 e6) dL_law_2445 oX10_restore w_2198 rfl q10_78 rfl rfl (Nat.le_of_ble_eq_true rfl) rfl (fitL (by decide)) ⟨(by show cu ≤ 601024; omega), (by show su ≤ 7293033; omega)⟩ ?_
  refine ev_icmpeq 2453 dL_law_2448 (by decide) (fun q7 => ?_) (fun q7 => ?_)
  · rw [if_pos q7] at hB
    exact ev_ls (u_L_law_2453 hk23 l4 S5 cu su (by omega) hB) (And.intro rfl (And.intro rfl (And.intro rfl (And.intro rfl (And.intro rfl trivial)))))
  · rw [if_neg q7] at hB
    refine ev_iconst 0 dL_law_2451 (by decide) ?_
    cases hB
theorem u_L_law_23 {G : am_G} {N : Nat} {out : am_S} : ∀ (n : Nat) (l4 : Int32) (S : am_S) (cu su : Nat), (cu + n ≤ 601024 ∧ su + 6 * n ≤ 7293033) → b_L_law_23 N (gN G) (gX G) n l4 S = some out → Ev G room_1 (LZ G) m_law cu su 23 [some (.float 1001), some (.ref 0), some (.ref 78), some (.ref 108), some (.int l4), none, none] [] (hp S) := by
  intro n
  induction n with
  | zero =>
    intro l4 S cu su hb hB
    exact absurd (show none = some out from hB) (fun q => by cases q)
  | succ n ih =>
    intro l4 S cu su hb hB
    unfold b_L_law_23 at hB
    refine ev_iload dL_law_23 rfl ?_
    refine ev_aload_nF dL_law_25 rfl ?_
    refine ev_slen dL_law_26 ?_
    refine ev_bipush 6 dL_law_27 (by decide) ?_
    refine ev_isub dL_law_29 ?_
    refine ev_icmpgt 2459 dL_law_30 (by decide) (fun q1 => ?_) (fun q1 => ?_)
    · rw [if_pos q1] at hB
      refine ev_iconst 1 dL_law_2459 (by decide) ?_
      obtain rfl := Option.some.inj hB
      exact ev_lawret dL_law_2460 (by omega) (by omega)
    · rw [if_neg q1] at hB
      refine ev_aload_nF dL_law_33 rfl ?_
      refine ev_iload dL_law_34 rfl ?_
      obtain ⟨c2, hB⟩ := ck_of hB
      refine ev_saload dL_law_36 (inb_in c2) ?_
      refine ev_bipush 63 dL_law_37 (by decide) ?_
      refine ev_iand dL_law_39 ?_
      by_cases q_0 : ((gX G (Int32.toNatClampNeg l4)) &&& 63) = 0
      · rw [if_pos q_0] at hB
        refine ev_tableIn (off := 176) 216 dL_law_40 (by rw [q_0]; decide) (by rw [q_0]; decide) (by rw [q_0]; rfl) (by decide) ?_
        exact u_L_law_c0 ih l4 S cu su hb hB
      rw [if_neg q_0] at hB
      have t_0 := am_nt (k := 0) q_0 (by decide)
      by_cases q_1 : ((gX G (Int32.toNatClampNeg l4)) &&& 63) = 1
      · rw [if_pos q_1] at hB
        refine ev_tableIn (off := 249) 289 dL_law_40 (by rw [q_1]; decide) (by rw [q_1]; decide) (by rw [q_1]; rfl) (by decide) ?_
        exact u_L_law_c1 ih l4 S cu su hb hB
      rw [if_neg q_1] at hB
      have t_1 := am_nt (k := 1) q_1 (by decide)
      by_cases q_2 : ((gX G (Int32.toNatClampNeg l4)) &&& 63) = 2
      · rw [if_pos q_2] at hB
        refine ev_tableIn (off := 305) 345 dL_law_40 (by rw [q_2]; decide) (by rw [q_2]; decide) (by rw [q_2]; rfl) (by decide) ?_
        exact u_L_law_c2 ih l4 S cu su hb hB
      rw [if_neg q_2] at hB
      have t_2 := am_nt (k := 2) q_2 (by decide)
      by_cases q_3 : ((gX G (Int32.toNatClampNeg l4)) &&& 63) = 3
      · rw [if_pos q_3] at hB
        refine ev_tableIn (off := 318) 358 dL_law_40 (by rw [q_3]; decide) (by rw [q_3]; decide) (by rw [q_3]; rfl) (by decide) ?_
        exact u_L_law_c3 ih l4 S cu su hb hB
      rw [if_neg q_3] at hB
      have t_3 := am_nt (k := 3) q_3 (by decide)
      by_cases q_4 : ((gX G (Int32.toNatClampNeg l4)) &&& 63) = 4
      · rw [if_pos q_4] at hB
        refine ev_tableIn (off := 374) 414 dL_law_40 (by rw [q_4]; decide) (by rw [q_4]; decide) (by rw [q_4]; rfl) (by decide) ?_
        exact u_L_law_c4 ih l4 S cu su hb hB
      rw [if_neg q_4] at hB
      have t_4 := am_nt (k := 4) q_4 (by decide)
      by_cases q_5 : ((gX G (Int32.toNatClampNeg l4)) &&& 63) = 5
      · rw [if_pos q_5] at hB
        refine ev_tableIn (off := 442) 482 dL_law_40 (by rw [q_5]; decide) (by rw [q_5]; decide) (by rw [q_5]; rfl) (by decide) ?_
        exact u_L_law_c5 ih l4 S cu su hb hB
      rw [if_neg q_5] at hB
      have t_5 := am_nt (k := 5) q_5 (by decide)
      by_cases q_6 : ((gX G (Int32.toNatClampNeg l4)) &&& 63) = 6
      · rw [if_pos q_6] at hB
        refine ev_tableIn (off := 510) 550 dL_law_40 (by rw [q_6]; decide) (by rw [q_6]; decide) (by rw [q_6]; rfl) (by decide) ?_
        exact u_L_law_c6 ih l4 S cu su hb hB
      rw [if_neg q_6] at hB
      have t_6 := am_nt (k := 6) q_6 (by decide)
      by_cases q_7 : ((gX G (Int32.toNatClampNeg l4)) &&& 63) = 7
      · rw [if_pos q_7] at hB
        refine ev_tableIn (off := 578) 618 dL_law_40 (by rw [q_7]; decide) (by rw [q_7]; decide) (by rw [q_7]; rfl) (by decide) ?_
        exact u_L_law_c7 ih l4 S cu su hb hB
      rw [if_neg q_7] at hB
      have t_7 := am_nt (k := 7) q_7 (by decide)
      by_cases q_8 : ((gX G (Int32.toNatClampNeg l4)) &&& 63) = 8
      · rw [if_pos q_8] at hB
        refine ev_tableIn (off := 603) 643 dL_law_40 (by rw [q_8]; decide) (by rw [q_8]; decide) (by rw [q_8]; rfl) (by decide) ?_
        exact u_L_law_c8 ih l4 S cu su hb hB
      rw [if_neg q_8] at hB
      have t_8 := am_nt (k := 8) q_8 (by decide)
      by_cases q_9 : ((gX G (Int32.toNatClampNeg l4)) &&& 63) = 9
      · rw [if_pos q_9] at hB
        refine ev_tableIn (off := 659) 699 dL_law_40 (by rw [q_9]; decide) (by rw [q_9]; decide) (by rw [q_9]; rfl) (by decide) ?_
        exact u_L_law_c9 ih l4 S cu su hb hB
      rw [if_neg q_9] at hB
      have t_9 := am_nt (k := 9) q_9 (by decide)
      by_cases q_10 : ((gX G (Int32.toNatClampNeg l4)) &&& 63) = 10
      · rw [if_pos q_10] at hB
        refine ev_tableIn (off := 715) 755 dL_law_40 (by rw [q_10]; decide) (by rw [q_10]; decide) (by rw [q_10]; rfl) (by decide) ?_
        exact u_L_law_c10 ih l4 S cu su hb hB
      rw [if_neg q_10] at hB
      have t_10 := am_nt (k := 10) q_10 (by decide)
      by_cases q_11 : ((gX G (Int32.toNatClampNeg l4)) &&& 63) = 11
      · rw [if_pos q_11] at hB
        refine ev_tableIn (off := 783) 823 dL_law_40 (by rw [q_11]; decide) (by rw [q_11]; decide) (by rw [q_11]; rfl) (by decide) ?_
        exact u_L_law_c11 ih l4 S cu su hb hB
      rw [if_neg q_11] at hB
      have t_11 := am_nt (k := 11) q_11 (by decide)
      by_cases q_12 : ((gX G (Int32.toNatClampNeg l4)) &&& 63) = 12
      · rw [if_pos q_12] at hB
        refine ev_tableIn (off := 824) 864 dL_law_40 (by rw [q_12]; decide) (by rw [q_12]; decide) (by rw [q_12]; rfl) (by decide) ?_
        exact u_L_law_c12 ih l4 S cu su hb hB
      rw [if_neg q_12] at hB
      have t_12 := am_nt (k := 12) q_12 (by decide)
      by_cases q_13 : ((gX G (Int32.toNatClampNeg l4)) &&& 63) = 13
      · rw [if_pos q_13] at hB
        refine ev_tableIn (off := 837) 877 dL_law_40 (by rw [q_13]; decide) (by rw [q_13]; decide) (by rw [q_13]; rfl) (by decide) ?_
        exact u_L_law_c13 ih l4 S cu su hb hB
      rw [if_neg q_13] at hB
      have t_13 := am_nt (k := 13) q_13 (by decide)
      by_cases q_14 : ((gX G (Int32.toNatClampNeg l4)) &&& 63) = 14
      · rw [if_pos q_14] at hB
        refine ev_tableIn (off := 917) 957 dL_law_40 (by rw [q_14]; decide) (by rw [q_14]; decide) (by rw [q_14]; rfl) (by decide) ?_
        exact u_L_law_c14 ih l4 S cu su hb hB
      rw [if_neg q_14] at hB
      have t_14 := am_nt (k := 14) q_14 (by decide)
      by_cases q_15 : ((gX G (Int32.toNatClampNeg l4)) &&& 63) = 15
      · rw [if_pos q_15] at hB
        refine ev_tableIn (off := 997) 1037 dL_law_40 (by rw [q_15]; decide) (by rw [q_15]; decide) (by rw [q_15]; rfl) (by decide) ?_
        exact u_L_law_c15 ih l4 S cu su hb hB
      rw [if_neg q_15] at hB
      have t_15 := am_nt (k := 15) q_15 (by decide)
      by_cases q_16 : ((gX G (Int32.toNatClampNeg l4)) &&& 63) = 16
      · rw [if_pos q_16] at hB
        refine ev_tableIn (off := 1053) 1093 dL_law_40 (by rw [q_16]; decide) (by rw [q_16]; decide) (by rw [q_16]; rfl) (by decide) ?_
        exact u_L_law_c16 ih l4 S cu su hb hB
      rw [if_neg q_16] at hB
      have t_16 := am_nt (k := 16) q_16 (by decide)
      by_cases q_17 : ((gX G (Int32.toNatClampNeg l4)) &&& 63) = 17
      · rw [if_pos q_17] at hB
        refine ev_tableIn (off := 1121) 1161 dL_law_40 (by rw [q_17]; decide) (by rw [q_17]; decide) (by rw [q_17]; rfl) (by decide) ?_
        exact u_L_law_c17 ih l4 S cu su hb hB
      rw [if_neg q_17] at hB
      have t_17 := am_nt (k := 17) q_17 (by decide)
      by_cases q_18 : ((gX G (Int32.toNatClampNeg l4)) &&& 63) = 18
      · rw [if_pos q_18] at hB
        refine ev_tableIn (off := 1189) 1229 dL_law_40 (by rw [q_18]; decide) (by rw [q_18]; decide) (by rw [q_18]; rfl) (by decide) ?_
        exact u_L_law_c18 ih l4 S cu su hb hB
      rw [if_neg q_18] at hB
      have t_18 := am_nt (k := 18) q_18 (by decide)
      by_cases q_19 : ((gX G (Int32.toNatClampNeg l4)) &&& 63) = 19
      · rw [if_pos q_19] at hB
        refine ev_tableIn (off := 1245) 1285 dL_law_40 (by rw [q_19]; decide) (by rw [q_19]; decide) (by rw [q_19]; rfl) (by decide) ?_
        exact u_L_law_c19 ih l4 S cu su hb hB
      rw [if_neg q_19] at hB
      have t_19 := am_nt (k := 19) q_19 (by decide)
      by_cases q_20 : ((gX G (Int32.toNatClampNeg l4)) &&& 63) = 20
      · rw [if_pos q_20] at hB
        refine ev_tableIn (off := 1301) 1341 dL_law_40 (by rw [q_20]; decide) (by rw [q_20]; decide) (by rw [q_20]; rfl) (by decide) ?_
        exact u_L_law_c20 ih l4 S cu su hb hB
      rw [if_neg q_20] at hB
      have t_20 := am_nt (k := 20) q_20 (by decide)
      by_cases q_21 : ((gX G (Int32.toNatClampNeg l4)) &&& 63) = 21
      · rw [if_pos q_21] at hB
        refine ev_tableIn (off := 1357) 1397 dL_law_40 (by rw [q_21]; decide) (by rw [q_21]; decide) (by rw [q_21]; rfl) (by decide) ?_
        exact u_L_law_c21 ih l4 S cu su hb hB
      rw [if_neg q_21] at hB
      have t_21 := am_nt (k := 21) q_21 (by decide)
      by_cases q_22 : ((gX G (Int32.toNatClampNeg l4)) &&& 63) = 22
      · rw [if_pos q_22] at hB
        refine ev_tableIn (off := 1413) 1453 dL_law_40 (by rw [q_22]; decide) (by rw [q_22]; decide) (by rw [q_22]; rfl) (by decide) ?_
        exact u_L_law_c22 ih l4 S cu su hb hB
      rw [if_neg q_22] at hB
      have t_22 := am_nt (k := 22) q_22 (by decide)
      by_cases q_23 : ((gX G (Int32.toNatClampNeg l4)) &&& 63) = 23
      · rw [if_pos q_23] at hB
        refine ev_tableIn (off := 1469) 1509 dL_law_40 (by rw [q_23]; decide) (by rw [q_23]; decide) (by rw [q_23]; rfl) (by decide) ?_
        exact u_L_law_c23 ih l4 S cu su hb hB
      rw [if_neg q_23] at hB
      have t_23 := am_nt (k := 23) q_23 (by decide)
      by_cases q_24 : ((gX G (Int32.toNatClampNeg l4)) &&& 63) = 24
      · rw [if_pos q_24] at hB
        refine ev_tableIn (off := 1549) 1589 dL_law_40 (by rw [q_24]; decide) (by rw [q_24]; decide) (by rw [q_24]; rfl) (by decide) ?_
        exact u_L_law_c24 ih l4 S cu su hb hB
      rw [if_neg q_24] at hB
      have t_24 := am_nt (k := 24) q_24 (by decide)
      by_cases q_25 : ((gX G (Int32.toNatClampNeg l4)) &&& 63) = 25
      · rw [if_pos q_25] at hB
        refine ev_tableIn (off := 1560) 1600 dL_law_40 (by rw [q_25]; decide) (by rw [q_25]; decide) (by rw [q_25]; rfl) (by decide) ?_
        exact u_L_law_c25 ih l4 S cu su hb hB
      rw [if_neg q_25] at hB
      have t_25 := am_nt (k := 25) q_25 (by decide)
      by_cases q_26 : ((gX G (Int32.toNatClampNeg l4)) &&& 63) = 26
      · rw [if_pos q_26] at hB
        refine ev_tableIn (off := 1616) 1656 dL_law_40 (by rw [q_26]; decide) (by rw [q_26]; decide) (by rw [q_26]; rfl) (by decide) ?_
        exact u_L_law_c26 ih l4 S cu su hb hB
      rw [if_neg q_26] at hB
      have t_26 := am_nt (k := 26) q_26 (by decide)
      by_cases q_27 : ((gX G (Int32.toNatClampNeg l4)) &&& 63) = 27
      · rw [if_pos q_27] at hB
        refine ev_tableIn (off := 1672) 1712 dL_law_40 (by rw [q_27]; decide) (by rw [q_27]; decide) (by rw [q_27]; rfl) (by decide) ?_
        exact u_L_law_c27 ih l4 S cu su hb hB
      rw [if_neg q_27] at hB
      have t_27 := am_nt (k := 27) q_27 (by decide)
      by_cases q_28 : ((gX G (Int32.toNatClampNeg l4)) &&& 63) = 28
      · rw [if_pos q_28] at hB
        refine ev_tableIn (off := 1764) 1804 dL_law_40 (by rw [q_28]; decide) (by rw [q_28]; decide) (by rw [q_28]; rfl) (by decide) ?_
        exact u_L_law_c28 ih l4 S cu su hb hB
      rw [if_neg q_28] at hB
      have t_28 := am_nt (k := 28) q_28 (by decide)
      by_cases q_29 : ((gX G (Int32.toNatClampNeg l4)) &&& 63) = 29
      · rw [if_pos q_29] at hB
        refine ev_tableIn (off := 1844) 1884 dL_law_40 (by rw [q_29]; decide) (by rw [q_29]; decide) (by rw [q_29]; rfl) (by decide) ?_
        exact u_L_law_c29 ih l4 S cu su hb hB
      rw [if_neg q_29] at hB
      have t_29 := am_nt (k := 29) q_29 (by decide)
      by_cases q_30 : ((gX G (Int32.toNatClampNeg l4)) &&& 63) = 30
      · rw [if_pos q_30] at hB
        refine ev_tableIn (off := 1924) 1964 dL_law_40 (by rw [q_30]; decide) (by rw [q_30]; decide) (by rw [q_30]; rfl) (by decide) ?_
        exact u_L_law_c30 ih l4 S cu su hb hB
      rw [if_neg q_30] at hB
      have t_30 := am_nt (k := 30) q_30 (by decide)
      by_cases q_31 : ((gX G (Int32.toNatClampNeg l4)) &&& 63) = 31
      · rw [if_pos q_31] at hB
        refine ev_tableIn (off := 1992) 2032 dL_law_40 (by rw [q_31]; decide) (by rw [q_31]; decide) (by rw [q_31]; rfl) (by decide) ?_
        exact u_L_law_c31 ih l4 S cu su hb hB
      rw [if_neg q_31] at hB
      have t_31 := am_nt (k := 31) q_31 (by decide)
      by_cases q_32 : ((gX G (Int32.toNatClampNeg l4)) &&& 63) = 32
      · rw [if_pos q_32] at hB
        refine ev_tableIn (off := 2060) 2100 dL_law_40 (by rw [q_32]; decide) (by rw [q_32]; decide) (by rw [q_32]; rfl) (by decide) ?_
        exact u_L_law_c32 ih l4 S cu su hb hB
      rw [if_neg q_32] at hB
      have t_32 := am_nt (k := 32) q_32 (by decide)
      by_cases q_33 : ((gX G (Int32.toNatClampNeg l4)) &&& 63) = 33
      · rw [if_pos q_33] at hB
        refine ev_tableIn (off := 2128) 2168 dL_law_40 (by rw [q_33]; decide) (by rw [q_33]; decide) (by rw [q_33]; rfl) (by decide) ?_
        exact u_L_law_c33 ih l4 S cu su hb hB
      rw [if_neg q_33] at hB
      have t_33 := am_nt (k := 33) q_33 (by decide)
      by_cases q_34 : ((gX G (Int32.toNatClampNeg l4)) &&& 63) = 34
      · rw [if_pos q_34] at hB
        refine ev_tableIn (off := 2196) 2236 dL_law_40 (by rw [q_34]; decide) (by rw [q_34]; decide) (by rw [q_34]; rfl) (by decide) ?_
        exact u_L_law_c34 ih l4 S cu su hb hB
      rw [if_neg q_34] at hB
      have t_34 := am_nt (k := 34) q_34 (by decide)
      by_cases q_35 : ((gX G (Int32.toNatClampNeg l4)) &&& 63) = 35
      · rw [if_pos q_35] at hB
        refine ev_tableIn (off := 2209) 2249 dL_law_40 (by rw [q_35]; decide) (by rw [q_35]; decide) (by rw [q_35]; rfl) (by decide) ?_
        exact u_L_law_c35 ih l4 S cu su hb hB
      rw [if_neg q_35] at hB
      have t_35 := am_nt (k := 35) q_35 (by decide)
      by_cases q_36 : ((gX G (Int32.toNatClampNeg l4)) &&& 63) = 36
      · rw [if_pos q_36] at hB
        refine ev_tableIn (off := 2277) 2317 dL_law_40 (by rw [q_36]; decide) (by rw [q_36]; decide) (by rw [q_36]; rfl) (by decide) ?_
        exact u_L_law_c36 ih l4 S cu su hb hB
      rw [if_neg q_36] at hB
      have t_36 := am_nt (k := 36) q_36 (by decide)
      by_cases q_37 : ((gX G (Int32.toNatClampNeg l4)) &&& 63) = 37
      · rw [if_pos q_37] at hB
        refine ev_tableIn (off := 2333) 2373 dL_law_40 (by rw [q_37]; decide) (by rw [q_37]; decide) (by rw [q_37]; rfl) (by decide) ?_
        exact u_L_law_c37 ih l4 S cu su hb hB
      rw [if_neg q_37] at hB
      have t_37 := am_nt (k := 37) q_37 (by decide)
      by_cases q_38 : ((gX G (Int32.toNatClampNeg l4)) &&& 63) = 38
      · rw [if_pos q_38] at hB
        refine ev_tableIn (off := 2389) 2429 dL_law_40 (by rw [q_38]; decide) (by rw [q_38]; decide) (by rw [q_38]; rfl) (by decide) ?_
        exact u_L_law_c38 ih l4 S cu su hb hB
      rw [if_neg q_38] at hB
      have t_38 := am_nt (k := 38) q_38 (by decide)
      by_cases q_39 : ((gX G (Int32.toNatClampNeg l4)) &&& 63) = 39
      · rw [if_pos q_39] at hB
        refine ev_tableIn (off := 2400) 2440 dL_law_40 (by rw [q_39]; decide) (by rw [q_39]; decide) (by rw [q_39]; rfl) (by decide) ?_
        exact u_L_law_c39 ih l4 S cu su hb hB
      rw [if_neg q_39] at hB
      have t_39 := am_nt (k := 39) q_39 (by decide)
      refine ev_tableOut 2453 dL_law_40 (by omega) (by decide) ?_
      exact u_L_law_2453 ih l4 S cu su (by omega) hB

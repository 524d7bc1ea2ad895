
def fX5_become (σ : Mem) (i0 : Nat) (i1 : Nat) : Option Mem :=
  bnd (mw σ i0 1 (imn (σ i1 1) (nI (ln (i0 + 1))))) (fun m1 =>
 grd (cpk (0 : Int32) (0 : Int32) (m1 i0 1) (ln (i1 + 1)) (ln (i0 + 1))) (bnd (mcp m1 (i1 + 1) (ix (0 : Int32)) (i0 + 1) (ix (0 : Int32)) (ix (m1 i0 1))) (fun m2 =>
 some m2)))


def fX10_begin (σ : Mem) (i0 : Nat) (i1 : Nat) (p2 : Int32) (p3 : Int32) (p4 : Int32) : Option Mem :=
  obd (fX5_become σ (i0 + 1) i1) (fun q1 =>
 bnd (mw q1 i0 2 p2) (fun m3 =>
 bnd (mw m3 i0 3 p3) (fun m4 =>
 bnd (mw m4 i0 4 p4) (fun m5 =>
 some m5))))


def fX10_become (σ : Mem) (i0 : Nat) (i1 : Nat) : Option Mem :=
  obd (fX10_begin σ i0 (i1 + 1) (σ i1 2) (σ i1 3) (σ i1 4)) (fun q1 =>
 some q1)


def fX2_become (σ : Mem) (i0 : Nat) (i1 : Nat) : Option Mem :=
  bnd (mw σ i0 0 (σ i1 0)) (fun m1 =>
 bnd (mw m1 i0 1 (m1 i1 1)) (fun m2 =>
 bnd (mw m2 i0 2 (m2 i1 2)) (fun m3 =>
 grd (cpk (0 : Int32) (0 : Int32) (6 : Int32) (ln (i1 + 1)) (ln (i0 + 1))) (bnd (mcp m3 (i1 + 1) (ix (0 : Int32)) (i0 + 1) (ix (0 : Int32)) (ix (6 : Int32))) (fun m4 =>
 some m4)))))


def fX3_become (σ : Mem) (i0 : Nat) (i1 : Nat) : Option Mem :=
  bnd (mw σ i0 0 (σ i1 0)) (fun m1 =>
 grd (cpk (0 : Int32) (0 : Int32) (6 : Int32) (ln (i1 + 1)) (ln (i0 + 1))) (bnd (mcp m1 (i1 + 1) (ix (0 : Int32)) (i0 + 1) (ix (0 : Int32)) (ix (6 : Int32))) (fun m2 =>
 grd (cpk (0 : Int32) (0 : Int32) (6 : Int32) (ln (i1 + 2)) (ln (i0 + 2))) (bnd (mcp m2 (i1 + 2) (ix (0 : Int32)) (i0 + 2) (ix (0 : Int32)) (ix (6 : Int32))) (fun m3 =>
 grd (cpk (0 : Int32) (0 : Int32) (6 : Int32) (ln (i1 + 3)) (ln (i0 + 3))) (bnd (mcp m3 (i1 + 3) (ix (0 : Int32)) (i0 + 3) (ix (0 : Int32)) (ix (6 : Int32))) (fun m4 =>
 grd (cpk (0 : Int32) (0 : Int32) (6 : Int32) (ln (i1 + 4)) (ln (i0 + 4))) (bnd (mcp m4 (i1 + 4) (ix (0 : Int32)) (i0 + 4) (ix (0 : Int32)) (ix (6 : Int32))) (fun m5 =>
 grd (cpk (0 : Int32) (0 : Int32) (3 : Int32) (ln (i1 + 5)) (ln (i0 + 5))) (bnd (mcp m5 (i1 + 5) (ix (0 : Int32)) (i0 + 5) (ix (0 : Int32)) (ix (3 : Int32))) (fun m6 =>
 some m6)))))))))))

def sX0_become_74 (i0 : Nat) (i1 : Nat) (a6 : Int32 × Mem) : Option ((Int32 × Mem) ⊕ Mem) :=
  if (nI (ln (i0 + 4))) ≤ a6.1 then
 (oR (bnd (mw a6.2 i0 5 (a6.2 i1 5)) (fun m8 =>
 obd (fX5_become m8 (i0 + 5) (i1 + 5)) (fun q9 =>
 obd (fX2_become q9 (i0 + 7) (i1 + 7)) (fun q11 =>
 some q11))))) else
 (grd (inb a6.1 (ln (i0 + 4))) (
 grd (inb a6.1 (ln (i1 + 4))) (
 obd (fX3_become a6.2 ((i0 + 4) + 135 + 6 * ix a6.1) ((i1 + 4) + 135 + 6 * ix a6.1)) (fun q15 =>
 bnd (a6.1 + (1 : Int32)) (fun x17 =>
 oL (x17, q15))))))
def sX0_become_42 (i0 : Nat) (i1 : Nat) (a4 : Int32 × Mem) : Option ((Int32 × Mem) ⊕ Mem) :=
  if (nI (ln (i0 + 2))) ≤ a4.1 then
 (oR (lp (sX0_become_74 i0 i1) FU ((0 : Int32), a4.2))) else
 (grd (inb a4.1 (ln (i0 + 2))) (
 grd (inb a4.1 (ln (i1 + 2))) (
 obd (fX5_become a4.2 ((i0 + 2) + 67 + 2 * ix a4.1) ((i1 + 2) + 67 + 2 * ix a4.1)) (fun q20 =>
 bnd (a4.1 + (1 : Int32)) (fun x22 =>
 oL (x22, q20))))))
def sX0_become_2 (i0 : Nat) (i1 : Nat) (a1 : Int32 × Mem) : Option ((Int32 × Mem) ⊕ Mem) :=
  if (nI (ln (i0 + 1))) ≤ a1.1 then
 (oR (bnd (mw a1.2 i0 1 (a1.2 i1 1)) (fun m3 =>
 lp (sX0_become_42 i0 i1) FU ((0 : Int32), m3)))) else
 (grd (inb a1.1 (ln (i0 + 1))) (
 grd (inb a1.1 (ln (i1 + 1))) (
 obd (fX10_become a1.2 ((i0 + 1) + 8 + 3 * ix a1.1) ((i1 + 1) + 8 + 3 * ix a1.1)) (fun q25 =>
 bnd (a1.1 + (1 : Int32)) (fun x27 =>
 oL (x27, q25))))))
def fX0_become (σ : Mem) (i0 : Nat) (i1 : Nat) : Option Mem :=
  lp (sX0_become_2 i0 i1) FU ((0 : Int32), σ)


def fX0_wordAt (σ : Mem) (i0 : Nat) (p1 : Int32) : Option (Option Nat) :=
  if p1 < 0 then
 (some none) else
 (if (σ i0 1) ≤ p1 then
 (some none) else
 (grd (inb p1 (ln (i0 + 1))) (
 some (some ((i0 + 1) + 8 + 3 * ix p1)))))


def fX0_frameAt (σ : Mem) (i0 : Nat) (p1 : Int32) : Option (Option Nat) :=
  if p1 < 0 then
 (some none) else
 (if (σ i0 5) ≤ p1 then
 (some none) else
 (grd (inb p1 (ln (i0 + 4))) (
 some (some ((i0 + 4) + 135 + 6 * ix p1)))))


def fX11_isBelow (σ : Mem) (p0 : Int32) (p1 : Int32) : Option Int32 :=
  if p0 < 0 then
 (some (0 : Int32)) else
 (if p1 ≤ p0 then
 (some (0 : Int32)) else
 (some (1 : Int32)))


def fX0_endingAt (σ : Mem) (i0 : Nat) (p1 : Int32) (p2 : Int32) (p3 : Int32) : Option (Option Nat) :=
  obd (fX11_isBelow σ p1 (4 : Int32)) (fun q1 =>
 bnd (fun (y3 : Int32) =>
 if y3 = 0 then
 (some none) else
 (grd (inb ((((p1 * (4 : Int32)) + p2) * (2 : Int32)) + p3) (ln (i0 + 2))) (
 some (some ((i0 + 2) + 67 + 2 * ix ((((p1 * (4 : Int32)) + p2) * (2 : Int32)) + p3)))))) (fun k3 =>
 bnd (fun (y6 : Unit) =>
 k3 (0 : Int32)) (fun k6 =>
 if q1 = 0 then
 (k6 ()) else
 (obd (fX11_isBelow σ p2 (4 : Int32)) (fun q8 =>
 if q8 = 0 then
 (k6 ()) else
 (obd (fX11_isBelow σ p3 (2 : Int32)) (fun q11 =>
 if q11 = 0 then
 (k6 ()) else
 (k3 (1 : Int32)))))))))


def fX0_addWord (σ : Mem) (i0 : Nat) (i1 : Nat) (p2 : Int32) (p3 : Int32) (p4 : Int32) : Option (Int32 × Mem) :=
  if (σ i0 1) < (nI (ln (i0 + 1))) then
 (grd (inb (σ i0 1) (ln (i0 + 1))) (
 obd (fX10_begin σ ((i0 + 1) + 8 + 3 * ix (σ i0 1)) i1 p2 p3 p4) (fun q3 =>
 bnd (mw q3 i0 1 ((q3 i0 1) + (1 : Int32))) (fun m5 =>
 some (((m5 i0 1) - (1 : Int32)), m5))))) else
 (some ((-4 : Int32), σ))


def fX0_addFrame (σ : Mem) (i0 : Nat) (i1 : Nat) : Option (Int32 × Mem) :=
  if (σ i0 5) < (nI (ln (i0 + 4))) then
 (grd (inb (σ i0 5) (ln (i0 + 4))) (
 obd (fX3_become σ ((i0 + 4) + 135 + 6 * ix (σ i0 5)) i1) (fun q3 =>
 bnd (mw q3 i0 5 ((q3 i0 5) + (1 : Int32))) (fun m5 =>
 some (((m5 i0 5) - (1 : Int32)), m5))))) else
 (some ((-4 : Int32), σ))


def fX3_has (σ : Mem) (i0 : Nat) (p1 : Int32) : Option Int32 :=
  if p1 < 0 then
 (some (0 : Int32)) else
 (if (σ i0 0) ≤ p1 then
 (some (0 : Int32)) else
 (some (1 : Int32)))


def fX3_takes (σ : Mem) (i0 : Nat) (p1 : Int32) (i2 : Nat) : Option Int32 :=
  obd (fX3_has σ i0 p1) (fun q1 =>
 if q1 = 0 then
 (some (0 : Int32)) else
 (grd (inb p1 (ln (i0 + 1))) (
 if (σ (i0 + 1) (ix p1)) = (0 : Int32) then
 (if (σ i2 2) = (1 : Int32) then
 (some (1 : Int32)) else
 (if (σ i2 2) = (3 : Int32) then
 (some (1 : Int32)) else
 (some (0 : Int32)))) else
 (if (σ (i0 + 1) (ix p1)) = (1 : Int32) then
 (if (σ i2 2) = (2 : Int32) then
 (some (1 : Int32)) else
 (if (σ i2 2) = (5 : Int32) then
 (some (1 : Int32)) else
 (some (0 : Int32)))) else
 (if (σ (i0 + 1) (ix p1)) = (2 : Int32) then
 (if (σ i2 2) = (4 : Int32) then
 (some (1 : Int32)) else
 (some (0 : Int32))) else
 (if (σ (i0 + 1) (ix p1)) = (3 : Int32) then
 (grd (inb p1 (ln (i0 + 4))) (
 if (σ i2 0) = (σ (i0 + 4) (ix p1)) then
 (some (1 : Int32)) else
 (some (0 : Int32)))) else
 (some (0 : Int32))))))))

def sX0_wordsFor_5 (σ : Mem) (i0 : Nat) (i1 : Nat) (p2 : Int32) (a1 : Int32 × Int32) : Option ((Int32 × Int32) ⊕ Int32) :=
  if (σ i0 1) ≤ a1.1 then
 (oR (some a1.2)) else
 (grd (inb a1.1 (ln (i0 + 1))) (
 obd (fX3_takes σ i1 p2 ((i0 + 1) + 8 + 3 * ix a1.1)) (fun q4 =>
 if q4 = 0 then
 (bnd (a1.2 + (0 : Int32)) (fun x7 =>
 bnd (a1.1 + (1 : Int32)) (fun x8 =>
 oL (x8, x7)))) else
 (bnd (a1.2 + (1 : Int32)) (fun x9 =>
 bnd (a1.1 + (1 : Int32)) (fun x10 =>
 oL (x10, x9)))))))
def fX0_wordsFor (σ : Mem) (i0 : Nat) (i1 : Nat) (p2 : Int32) : Option Int32 :=
  lp (sX0_wordsFor_5 σ i0 i1 p2) FU ((0 : Int32), (0 : Int32))

def sX0_wordFor_6 (σ : Mem) (i0 : Nat) (i1 : Nat) (p2 : Int32) (a1 : Int32 × Int32) : Option ((Int32 × Int32) ⊕ Int32) :=
  if (σ i0 1) ≤ a1.1 then
 (oR (some (-1 : Int32))) else
 (grd (inb a1.1 (ln (i0 + 1))) (
 obd (fX3_takes σ i1 p2 ((i0 + 1) + 8 + 3 * ix a1.1)) (fun q4 =>
 if q4 = 0 then
 (bnd (a1.1 + (1 : Int32)) (fun x7 =>
 oL (x7, a1.2))) else
 (if a1.2 = 0 then
 (oR (some a1.1)) else
 (bnd (a1.2 + (-1 : Int32)) (fun x9 =>
 bnd (a1.1 + (1 : Int32)) (fun x10 =>
 oL (x10, x9))))))))
def fX0_wordFor (σ : Mem) (i0 : Nat) (i1 : Nat) (p2 : Int32) (p3 : Int32) : Option Int32 :=
  lp (sX0_wordFor_6 σ i0 i1 p2) FU ((0 : Int32), p3)

def sX10_isOf_7 (p1 : Int32) (a2 : Int32 × Int32) : Option ((Int32 × Int32) ⊕ Int32) :=
  if (6 : Int32) ≤ a2.1 then
 (oR (some (0 : Int32))) else
 (if a2.2 < 0 then
 (oR (some (0 : Int32))) else
 (if (6 : Int32) ≤ a2.2 then
 (oR (some (0 : Int32))) else
 (if a2.2 = p1 then
 (oR (some (1 : Int32))) else
 (grd (inb a2.2 6) (
 bnd (abv (ix a2.2)) (fun x7 =>
 bnd (a2.1 + (1 : Int32)) (fun x8 =>
 oL (x8, x7))))))))
def fX10_isOf (σ : Mem) (i0 : Nat) (p1 : Int32) : Option Int32 :=
  bnd (σ i0 2) (fun x1 =>
 lp (sX10_isOf_7 p1) FU ((0 : Int32), x1))


def fX5_add (σ : Mem) (i0 : Nat) (p1 : Int32) : Option Mem :=
  if (nI (ln (i0 + 1))) ≤ (σ i0 1) then
 (some σ) else
 (grd (inb (σ i0 1) (ln (i0 + 1))) (bnd (mw σ (i0 + 1) (ix (σ i0 1)) ((((p1).toInt8.toInt32)).toInt8.toInt32)) (fun m2 =>
 bnd (mw m2 i0 1 ((m2 i0 1) + (1 : Int32))) (fun m3 =>
 some m3))))


def fX5_at (σ : Mem) (i0 : Nat) (p1 : Int32) : Option Int32 :=
  if p1 < 0 then
 (some (-1 : Int32)) else
 (if (σ i0 1) ≤ p1 then
 (some (-1 : Int32)) else
 (grd (inb p1 (ln (i0 + 1))) (
 some ((σ (i0 + 1) (ix p1)) &&& (255 : Int32)))))


def fX5_isVowel (σ : Mem) (p0 : Int32) : Option Int32 :=
  if p0 = (97 : Int32) then
 (some (1 : Int32)) else
 (if p0 = (101 : Int32) then
 (some (1 : Int32)) else
 (if p0 = (105 : Int32) then
 (some (1 : Int32)) else
 (if p0 = (111 : Int32) then
 (some (1 : Int32)) else
 (if p0 = (117 : Int32) then
 (some (1 : Int32)) else
 (some (0 : Int32))))))

def sX5_join_39 (i0 : Nat) (i1 : Nat) (a6 : Int32 × Mem) : Option ((Int32 × Mem) ⊕ Mem) :=
  if (a6.2 i1 1) ≤ a6.1 then
 (oR (some a6.2)) else
 (obd (fX5_at a6.2 i1 a6.1) (fun q8 =>
 obd (fX5_add a6.2 i0 q8) (fun q10 =>
 bnd (a6.1 + (1 : Int32)) (fun x12 =>
 oL (x12, q10)))))
def fX5_join (σ : Mem) (i0 : Nat) (i1 : Nat) : Option Mem :=
  obd (fX5_at σ i0 ((σ i0 1) - (1 : Int32))) (fun q1 =>
 obd (fX5_isVowel σ q1) (fun q3 =>
 bnd (fun (y5 : Mem) =>
 lp (sX5_join_39 i0 i1) FU ((0 : Int32), y5)) (fun k5 =>
 if q3 = 0 then
 (k5 σ) else
 (obd (fX5_at σ i1 (0 : Int32)) (fun q14 =>
 obd (fX5_isVowel σ q14) (fun q16 =>
 if q16 = 0 then
 (k5 σ) else
 (bnd (mw σ i0 1 ((σ i0 1) - (1 : Int32))) (fun m19 =>
 k5 m19))))))))


def fX0_spell (σ : Mem) (i0 : Nat) (i1 : Nat) (p2 : Int32) (i3 : Nat) : Option Mem :=
  bnd (irm p2 (4 : Int32)) (fun x1 =>
 bnd (irm (p2 / (4 : Int32)) (2 : Int32)) (fun x2 =>
 bnd (irm (p2 / (8 : Int32)) (3 : Int32)) (fun x3 =>
 bnd (p2 / (24 : Int32)) (fun x4 =>
 obd (fX5_become σ i3 (i1 + 1)) (fun q5 =>
 if (q5 i1 2) = 0 then
 (some q5) else
 (obd (fX10_isOf q5 i1 (2 : Int32)) (fun q8 =>
 bnd (fun (y10 : Int32) =>
 bnd (fun (y11 : Int32) =>
 obd (fX0_endingAt q5 i0 (q5 i1 3) y10 y11) (fun q12 =>
 ocs q12 (
 bnd (fun (y15 : Mem) =>
 if (y15 i1 2) = (5 : Int32) then
 (if x4 = 0 then
 (some y15) else
 (obd (fX5_at y15 i3 ((y15 i3 1) - (1 : Int32))) (fun q18 =>
 obd (fX5_add y15 i3 q18) (fun q20 =>
 some q20)))) else
 (some y15)) (fun k15 =>
 if (q5 i1 2) = (4 : Int32) then
 (obd (fX11_isBelow q5 x3 (3 : Int32)) (fun q23 =>
 if q23 = 0 then
 (k15 q5) else
 (grd (inb x3 (ln (i0 + 3))) (
 obd (fX5_join q5 i3 ((i0 + 3) + 130 + 2 * ix x3)) (fun q27 =>
 k15 q27))))) else
 (k15 q5))) (fun w14 =>
 obd (fX5_join q5 i3 w14) (fun q29 =>
 bnd (fun (y31 : Mem) =>
 if (y31 i1 2) = (5 : Int32) then
 (if x4 = 0 then
 (some y31) else
 (obd (fX5_at y31 i3 ((y31 i3 1) - (1 : Int32))) (fun q34 =>
 obd (fX5_add y31 i3 q34) (fun q36 =>
 some q36)))) else
 (some y31)) (fun k31 =>
 if (q29 i1 2) = (4 : Int32) then
 (obd (fX11_isBelow q29 x3 (3 : Int32)) (fun q39 =>
 if q39 = 0 then
 (k31 q29) else
 (grd (inb x3 (ln (i0 + 3))) (
 obd (fX5_join q29 i3 ((i0 + 3) + 130 + 2 * ix x3)) (fun q43 =>
 k31 q43))))) else
 (k31 q29)))))) (fun k11 =>
 if (q5 i1 2) = (3 : Int32) then
 (k11 (0 : Int32)) else
 (k11 x2))) (fun k10 =>
 if q8 = 0 then
 (k10 x1) else
 (k10 x4)))))))))


def fX1_next (σ : Mem) (i0 : Nat) (p1 : Int32) : Option (Int32 × Mem) :=
  bnd (mw σ i0 1 (((σ i0 1) * (1103515245 : Int32)) + (12345 : Int32))) (fun m1 =>
 if p1 ≤ 0 then
 (some ((0 : Int32), m1)) else
 (grd (!decide (p1 = 0)) (
 some ((irm (ius (m1 i0 1) (9 : Int32)) p1), m1))))

def sJ7_fill_53178_5 (i0 : Nat) (p1 : Int32) (x1 : Int32) (a2 : Int32 × Mem) : Option ((Int32 × Mem) ⊕ Mem) :=
  if x1 ≤ a2.1 then
 (oR (some a2.2)) else
 (grd (inb a2.1 (ln i0)) (bnd (mw a2.2 i0 (ix a2.1) p1) (fun m4 =>
 bnd (a2.1 + (1 : Int32)) (fun x5 =>
 oL (x5, m4)))))
def fJ7_fill_53178 (σ : Mem) (i0 : Nat) (p1 : Int32) : Option Mem :=
  bnd (nI (ln i0)) (fun x1 =>
 lp (sJ7_fill_53178_5 i0 p1 x1) FU ((0 : Int32), σ))


def fX2_begin (σ : Mem) (i0 : Nat) (p1 : Int32) (p2 : Int32) : Option Mem :=
  bnd (mw σ i0 0 p1) (fun m1 =>
 bnd (mw m1 i0 1 p2) (fun m2 =>
 bnd (mw m2 i0 2 (0 : Int32)) (fun m3 =>
 obd (fJ7_fill_53178 m3 (i0 + 1) (-1 : Int32)) (fun q4 =>
 some q4))))


def fX2_fill (σ : Mem) (i0 : Nat) (p1 : Int32) (p2 : Int32) : Option Mem :=
  obd (fX11_isBelow σ p1 (6 : Int32)) (fun q1 =>
 if q1 = 0 then
 (some σ) else
 (grd (inb p1 (ln (i0 + 1))) (bnd (mw σ (i0 + 1) (ix p1) p2) (fun m4 =>
 some m4))))


def fX3_sortOf (σ : Mem) (i0 : Nat) (p1 : Int32) : Option Int32 :=
  obd (fX3_has σ i0 p1) (fun q1 =>
 if q1 = 0 then
 (some (-1 : Int32)) else
 (grd (inb p1 (ln (i0 + 1))) (
 some (σ (i0 + 1) (ix p1)))))

def sX1_draw_79 (i0 : Nat) (i1 : Nat) (w12 : Nat) (a13 : Int32 × Mem) : Option ((Int32 × Mem) ⊕ (Int32 × Mem)) :=
  if (a13.2 w12 0) ≤ a13.1 then
 (oR (some ((1 : Int32), a13.2))) else
 (obd (fX0_wordsFor a13.2 i1 w12 a13.1) (fun q15 =>
 if q15 = 0 then
 (oR (some ((0 : Int32), a13.2))) else
 (obd (fX3_sortOf a13.2 w12 a13.1) (fun q18 =>
 bnd (fun (y20 : Int32 × Mem) =>
 obd (fX0_wordFor y20.2 i1 w12 a13.1 y20.1) (fun q21 =>
 obd (fX2_fill y20.2 (i0 + 1) a13.1 q21) (fun q23 =>
 bnd (a13.1 + (1 : Int32)) (fun x25 =>
 oL (x25, q23))))) (fun k20 =>
 if q18 = (3 : Int32) then
 (k20 ((0 : Int32), a13.2)) else
 (obd (fX1_next a13.2 i0 q15) (fun q27 =>
 k20 (q27.1, q27.2))))))))
def sX1_draw_30 (i0 : Nat) (i1 : Nat) (q2 : (Int32 × Mem)) (a8 : Int32 × Mem) : Option ((Int32 × Mem) ⊕ (Int32 × Mem)) :=
  if (3 : Int32) ≤ a8.1 then
 (oR (obd (fX0_frameAt a8.2 i1 q2.1) (fun q10 =>
 ocs q10 (
 some ((0 : Int32), a8.2)) (fun w12 =>
 lp (sX1_draw_79 i0 i1 w12) FU ((0 : Int32), a8.2))))) else
 (obd (fX1_next a8.2 i0 (2 : Int32)) (fun q29 =>
 bnd (mw q29.2 (i0 + 1) 2 ((a8.2 (i0 + 1) 2) ||| (q29.1 <<< (a8.1 &&& 31)))) (fun m31 =>
 bnd (a8.1 + (1 : Int32)) (fun x32 =>
 oL (x32, m31)))))
def fX1_draw (σ : Mem) (i0 : Nat) (i1 : Nat) (p2 : Int32) : Option (Int32 × Mem) :=
  bnd (mw σ i0 1 p2) (fun m1 =>
 obd (fX1_next m1 i0 (m1 i1 5)) (fun q2 =>
 obd (fX1_next q2.2 i0 (4 : Int32)) (fun q4 =>
 obd (fX2_begin q4.2 (i0 + 1) q2.1 q4.1) (fun q6 =>
 lp (sX1_draw_30 i0 i1 q2) FU ((0 : Int32), q6)))))


def fX2_wordIn (σ : Mem) (i0 : Nat) (p1 : Int32) : Option Int32 :=
  obd (fX11_isBelow σ p1 (6 : Int32)) (fun q1 =>
 if q1 = 0 then
 (some (-1 : Int32)) else
 (grd (inb p1 (ln (i0 + 1))) (
 some (σ (i0 + 1) (ix p1)))))


def fX3_clear (σ : Mem) (i0 : Nat) : Option Mem :=
  bnd (mw σ i0 0 (0 : Int32)) (fun m1 =>
 obd (fJ7_fill_53178 m1 (i0 + 5) (-1 : Int32)) (fun q2 =>
 some q2))


def fX3_add (σ : Mem) (i0 : Nat) (p1 : Int32) (p2 : Int32) (p3 : Int32) (p4 : Int32) : Option Mem :=
  if (σ i0 0) < (6 : Int32) then
 (grd (inb (σ i0 0) (ln (i0 + 1))) (bnd (mw σ (i0 + 1) (ix (σ i0 0)) p1) (fun m2 =>
 grd (inb (m2 i0 0) (ln (i0 + 2))) (bnd (mw m2 (i0 + 2) (ix (m2 i0 0)) p2) (fun m3 =>
 grd (inb (m3 i0 0) (ln (i0 + 3))) (bnd (mw m3 (i0 + 3) (ix (m3 i0 0)) p3) (fun m4 =>
 grd (inb (m4 i0 0) (ln (i0 + 4))) (bnd (mw m4 (i0 + 4) (ix (m4 i0 0)) p4) (fun m5 =>
 bnd (fun (y6 : Mem) =>
 bnd (mw y6 i0 0 ((y6 i0 0) + (1 : Int32))) (fun m7 =>
 some m7)) (fun k6 =>
 if p1 = 0 then
 (obd (fX11_isBelow m5 p2 (3 : Int32)) (fun q9 =>
 if q9 = 0 then
 (k6 m5) else
 (grd (inb p2 (ln (i0 + 5))) (bnd (mw m5 (i0 + 5) (ix p2) (m5 i0 0)) (fun m12 =>
 k6 m12))))) else
 (k6 m5))))))))))) else
 (some σ)


def fX3_groupOf (σ : Mem) (i0 : Nat) (p1 : Int32) : Option Int32 :=
  obd (fX3_has σ i0 p1) (fun q1 =>
 if q1 = 0 then
 (some (-1 : Int32)) else
 (grd (inb p1 (ln (i0 + 2))) (
 some (σ (i0 + 2) (ix p1)))))


def fX3_caseOf (σ : Mem) (i0 : Nat) (p1 : Int32) : Option Int32 :=
  obd (fX3_has σ i0 p1) (fun q1 =>
 if q1 = 0 then
 (some (-1 : Int32)) else
 (grd (inb p1 (ln (i0 + 3))) (
 some (σ (i0 + 3) (ix p1)))))


def fX3_plainOf (σ : Mem) (i0 : Nat) (p1 : Int32) : Option Int32 :=
  obd (fX3_has σ i0 p1) (fun q1 =>
 if q1 = 0 then
 (some (-1 : Int32)) else
 (grd (inb p1 (ln (i0 + 4))) (
 some (σ (i0 + 4) (ix p1)))))


def fX3_nounOf (σ : Mem) (i0 : Nat) (p1 : Int32) : Option Int32 :=
  obd (fX11_isBelow σ p1 (3 : Int32)) (fun q1 =>
 if q1 = 0 then
 (some (-1 : Int32)) else
 (grd (inb p1 (ln (i0 + 5))) (
 some (σ (i0 + 5) (ix p1)))))

def sX3_isWhole_2 (σ : Mem) (i0 : Nat) (a1 : Int32) : Option ((Int32) ⊕ Int32) :=
  if (σ i0 0) ≤ a1 then
 (oR (if (σ i0 0) ≤ 0 then
 (some (0 : Int32)) else
 (some (1 : Int32)))) else
 (obd (fX3_groupOf σ i0 a1) (fun q4 =>
 if q4 = (-1 : Int32) then
 (bnd (a1 + (1 : Int32)) (fun x7 =>
 oL x7)) else
 (obd (fX3_groupOf σ i0 a1) (fun q8 =>
 obd (fX3_nounOf σ i0 q8) (fun q10 =>
 if q10 = (-1 : Int32) then
 (oR (some (0 : Int32))) else
 (bnd (a1 + (1 : Int32)) (fun x13 =>
 oL x13)))))))
def fX3_isWhole (σ : Mem) (i0 : Nat) : Option Int32 :=
  lp (sX3_isWhole_2 σ i0) FU (0 : Int32)


def fX4_digit (σ : Mem) (i0 : Nat) (p1 : Int32) (p2 : Int32) : Option Int32 :=
  obd (fX5_at σ i0 p1) (fun q1 =>
 bnd (q1 - (48 : Int32)) (fun x3 =>
 obd (fX11_isBelow σ x3 p2) (fun q4 =>
 if q4 = 0 then
 (some (-1 : Int32)) else
 (some x3))))


def fX4_readGrouped (σ : Mem) (i0 : Nat) (p1 : Int32) (i2 : Nat) : Option (Int32 × Mem) :=
  obd (fX4_digit σ i2 (σ i0 1) (3 : Int32)) (fun q1 =>
 if q1 = (-1 : Int32) then
 (some ((0 : Int32), σ)) else
 (bnd (fun (y4 : Unit) =>
 bnd (mw σ i0 1 ((σ i0 1) + (1 : Int32))) (fun m5 =>
 bnd (fun (y6 : Int32 × Mem) =>
 obd (fX3_add y6.2 (i0 + 1) p1 q1 y6.1 (-1 : Int32)) (fun q7 =>
 some ((1 : Int32), q7))) (fun k6 =>
 if p1 = (1 : Int32) then
 (k6 ((-1 : Int32), m5)) else
 (obd (fX4_digit m5 i2 (m5 i0 1) (4 : Int32)) (fun q10 =>
 if q10 = (-1 : Int32) then
 (some ((0 : Int32), m5)) else
 (bnd (mw m5 i0 1 ((m5 i0 1) + (1 : Int32))) (fun m13 =>
 k6 (q10, m13)))))))) (fun k4 =>
 if p1 = 0 then
 (obd (fX3_nounOf σ (i0 + 1) q1) (fun q15 =>
 if q15 = (-1 : Int32) then
 (k4 ()) else
 (some ((0 : Int32), σ)))) else
 (k4 ()))))


def fX4_readPlain (σ : Mem) (i0 : Nat) (i1 : Nat) (i2 : Nat) : Option (Int32 × Mem) :=
  obd (fX4_digit σ i2 (σ i0 1) (10 : Int32)) (fun q1 =>
 obd (fX4_digit σ i2 ((σ i0 1) + (1 : Int32)) (10 : Int32)) (fun q3 =>
 bnd (fun (y5 : Int32) =>
 obd (fX0_wordAt σ i1 y5) (fun q6 =>
 ocs q6 (
 if q1 = (-1 : Int32) then
 (some ((0 : Int32), σ)) else
 (some ((0 : Int32), σ))) (fun w8 =>
 if q1 = (-1 : Int32) then
 (some ((0 : Int32), σ)) else
 (if (σ w8 2) = 0 then
 (bnd (fun (y12 : Int32) =>
 bnd (mw σ i0 1 ((σ i0 1) + y12)) (fun m13 =>
 obd (fX3_add m13 (i0 + 1) (3 : Int32) (-1 : Int32) (-1 : Int32) y5) (fun q14 =>
 some ((1 : Int32), q14)))) (fun k12 =>
 if q3 = (-1 : Int32) then
 (k12 (1 : Int32)) else
 (k12 (2 : Int32)))) else
 (some ((0 : Int32), σ)))))) (fun k5 =>
 if q3 = (-1 : Int32) then
 (k5 q1) else
 (k5 (((10 : Int32) * q1) + q3)))))


def fX4_sortBy (σ : Mem) (p0 : Int32) : Option Int32 :=
  if p0 = (102 : Int32) then
 (some (2 : Int32)) else
 (if p0 = (110 : Int32) then
 (some (0 : Int32)) else
 (if p0 = (112 : Int32) then
 (some (3 : Int32)) else
 (if p0 = (118 : Int32) then
 (some (1 : Int32)) else
 (some (-1 : Int32)))))


def fX4_readHole (σ : Mem) (i0 : Nat) (i1 : Nat) (i2 : Nat) : Option (Int32 × Mem) :=
  obd (fX5_at σ i2 (σ i0 1)) (fun q1 =>
 obd (fX4_sortBy σ q1) (fun q3 =>
 if q3 = (-1 : Int32) then
 (some ((0 : Int32), σ)) else
 (if (σ (i0 + 1) 0) < (6 : Int32) then
 (bnd (mw σ i0 1 ((σ i0 1) + (1 : Int32))) (fun m7 =>
 if q3 = (3 : Int32) then
 (obd (fX4_readPlain m7 i0 i1 i2) (fun q9 =>
 some (q9.1, q9.2))) else
 (obd (fX4_readGrouped m7 i0 q3 i2) (fun q11 =>
 some (q11.1, q11.2))))) else
 (some ((0 : Int32), σ)))))

def sX4_skipBlanks_5 (i0 : Nat) (i1 : Nat) (a2 : Int32 × Mem) : Option ((Int32 × Mem) ⊕ Mem) :=
  if (a2.2 i1 1) ≤ a2.1 then
 (oR (some a2.2)) else
 (obd (fX5_at a2.2 i1 a2.1) (fun q4 =>
 bnd (fun (y6 : Unit) =>
 bnd (mw a2.2 i0 1 (a2.1 + (1 : Int32))) (fun m7 =>
 bnd (a2.1 + (1 : Int32)) (fun x8 =>
 oL (x8, m7)))) (fun k6 =>
 if q4 = (32 : Int32) then
 (k6 ()) else
 (obd (fX5_at a2.2 i1 a2.1) (fun q10 =>
 if q10 = (10 : Int32) then
 (k6 ()) else
 (oR (some a2.2)))))))
def fX4_skipBlanks (σ : Mem) (i0 : Nat) (i1 : Nat) : Option Mem :=
  bnd (σ i0 1) (fun x1 =>
 lp (sX4_skipBlanks_5 i0 i1) FU (x1, σ))

def sX4_read_19 (i0 : Nat) (i1 : Nat) (i2 : Nat) (a6 : Int32 × Mem) : Option ((Int32 × Mem) ⊕ (Int32 × Mem)) :=
  bnd (fun (y7 : Unit) =>
 oR (obd (fX3_isWhole a6.2 (i0 + 1)) (fun q8 =>
 if q8 = 0 then
 (some ((a6.2 i2 1), a6.2)) else
 (some ((-1 : Int32), a6.2))))) (fun k7 =>
 if (6 : Int32) < a6.1 then
 (k7 ()) else
 (if (a6.2 i2 1) ≤ (a6.2 i0 1) then
 (k7 ()) else
 (obd (fX4_readHole a6.2 i0 i1 i2) (fun q13 =>
 if q13.1 = 0 then
 (oR (some ((q13.2 i0 1), q13.2))) else
 (obd (fX4_skipBlanks q13.2 i0 i2) (fun q16 =>
 bnd (a6.1 + (1 : Int32)) (fun x18 =>
 oL (x18, q16))))))))
def fX4_read (σ : Mem) (i0 : Nat) (i1 : Nat) (i2 : Nat) : Option (Int32 × Mem) :=
  obd (fX3_clear σ (i0 + 1)) (fun q1 =>
 bnd (mw q1 i0 1 (0 : Int32)) (fun m3 =>
 obd (fX4_skipBlanks m3 i0 i2) (fun q4 =>
 lp (sX4_read_19 i0 i1 i2) FU ((0 : Int32), q4))))


def fX5_isLetter (σ : Mem) (p0 : Int32) : Option Int32 :=
  if p0 < (97 : Int32) then
 (some (0 : Int32)) else
 (if (122 : Int32) < p0 then
 (some (0 : Int32)) else
 (some (1 : Int32)))


def fX5_clear (σ : Mem) (i0 : Nat) : Option Mem :=
  bnd (mw σ i0 1 (0 : Int32)) (fun m1 =>
 some m1)

def sX5_isAllLetters_2 (σ : Mem) (i0 : Nat) (a1 : Int32) : Option ((Int32) ⊕ Int32) :=
  if (σ i0 1) ≤ a1 then
 (oR (some (1 : Int32))) else
 (obd (fX5_at σ i0 a1) (fun q3 =>
 obd (fX5_isLetter σ q3) (fun q5 =>
 if q5 = 0 then
 (oR (some (0 : Int32))) else
 (bnd (a1 + (1 : Int32)) (fun x8 =>
 oL x8)))))
def fX5_isAllLetters (σ : Mem) (i0 : Nat) : Option Int32 :=
  lp (sX5_isAllLetters_2 σ i0) FU (0 : Int32)

def sX5_isAllWords_2 (σ : Mem) (i0 : Nat) (a1 : Int32) : Option ((Int32) ⊕ Int32) :=
  if (σ i0 1) ≤ a1 then
 (oR (obd (fX5_at σ i0 ((σ i0 1) - (1 : Int32))) (fun q3 =>
 obd (fX5_isLetter σ q3) (fun q5 =>
 some q5)))) else
 (obd (fX5_at σ i0 a1) (fun q7 =>
 bnd (fun (y9 : Int32) =>
 obd (fX5_at σ i0 a1) (fun q10 =>
 obd (fX5_isLetter σ q10) (fun q12 =>
 if q12 = 0 then
 (if y9 = 0 then
 (oR (some (0 : Int32))) else
 (bnd (a1 + (1 : Int32)) (fun x16 =>
 oL x16))) else
 (bnd (a1 + (1 : Int32)) (fun x17 =>
 oL x17))))) (fun k9 =>
 bnd (fun (y18 : Unit) =>
 k9 (0 : Int32)) (fun k18 =>
 if q7 = (32 : Int32) then
 (obd (fX5_at σ i0 (a1 - (1 : Int32))) (fun q20 =>
 obd (fX5_isLetter σ q20) (fun q22 =>
 if q22 = 0 then
 (k18 ()) else
 (k9 (1 : Int32))))) else
 (k18 ())))))
def fX5_isAllWords (σ : Mem) (i0 : Nat) : Option Int32 :=
  lp (sX5_isAllWords_2 σ i0) FU (0 : Int32)

def sX5_words_15 (σ : Mem) (i0 : Nat) (a2 : Int32 × Int32) : Option ((Int32 × Int32) ⊕ Int32) :=
  if (σ i0 1) ≤ a2.1 then
 (oR (some a2.2)) else
 (obd (fX5_at σ i0 a2.1) (fun q4 =>
 if q4 = (32 : Int32) then
 (bnd (a2.2 + (1 : Int32)) (fun x7 =>
 bnd (a2.1 + (1 : Int32)) (fun x8 =>
 oL (x8, x7)))) else
 (bnd (a2.2 + (0 : Int32)) (fun x9 =>
 bnd (a2.1 + (1 : Int32)) (fun x10 =>
 oL (x10, x9))))))
def fX5_words (σ : Mem) (i0 : Nat) : Option Int32 :=
  bnd (fun (y1 : Int32) =>
 lp (sX5_words_15 σ i0) FU ((0 : Int32), y1)) (fun k1 =>
 if (σ i0 1) = 0 then
 (k1 (0 : Int32)) else
 (k1 (1 : Int32)))

def sX6_split_9 (i0 : Nat) (i1 : Nat) (a2 : Int32 × Int32 × Mem) : Option ((Int32 × Int32 × Mem) ⊕ Mem) :=
  if (a2.2.2 i1 1) < a2.1 then
 (oR (some a2.2.2)) else
 (if (a2.2.2 i1 1) ≤ 0 then
 (oR (some a2.2.2)) else
 (bnd (fun (y5 : Unit) =>
 bnd (fun (y6 : Mem) =>
 bnd (mw y6 i0 3 ((y6 i0 3) + (1 : Int32))) (fun m7 =>
 bnd (a2.1 + (1 : Int32)) (fun x8 =>
 bnd (a2.1 + (1 : Int32)) (fun x9 =>
 oL (x9, x8, m7))))) (fun k6 =>
 if (6 : Int32) ≤ (a2.2.2 i0 3) then
 (k6 a2.2.2) else
 (grd (inb (a2.2.2 i0 3) (ln (i0 + 3))) (bnd (mw a2.2.2 (i0 + 3) (ix (a2.2.2 i0 3)) a2.2.1) (fun m11 =>
 grd (inb (m11 i0 3) (ln (i0 + 4))) (bnd (mw m11 (i0 + 4) (ix (m11 i0 3)) (a2.1 - a2.2.1)) (fun m12 =>
 k6 m12))))))) (fun k5 =>
 if a2.1 = (a2.2.2 i1 1) then
 (k5 ()) else
 (obd (fX5_at a2.2.2 i1 a2.1) (fun q14 =>
 if q14 = (32 : Int32) then
 (k5 ()) else
 (bnd (a2.1 + (1 : Int32)) (fun x17 =>
 oL (x17, a2.2.1, a2.2.2))))))))
def fX6_split (σ : Mem) (i0 : Nat) (i1 : Nat) : Option Mem :=
  bnd (mw σ i0 3 (0 : Int32)) (fun m1 =>
 lp (sX6_split_9 i0 i1) FU ((0 : Int32), (0 : Int32), m1))


def fX6_fits (σ : Mem) (i0 : Nat) (p1 : Int32) (i2 : Nat) (p3 : Int32) : Option Int32 :=
  obd (fX3_takes σ i0 p1 i2) (fun q1 =>
 if q1 = 0 then
 (some (0 : Int32)) else
 (bnd (irm (p3 / (4 : Int32)) (2 : Int32)) (fun x4 =>
 bnd (irm (p3 / (8 : Int32)) (3 : Int32)) (fun x5 =>
 obd (fX3_sortOf σ i0 p1) (fun q6 =>
 if q6 = 0 then
 (if (σ i2 4) = x5 then
 (if (σ i2 2) = (3 : Int32) then
 (if x4 = 0 then
 (some (1 : Int32)) else
 (some (0 : Int32))) else
 (some (1 : Int32))) else
 (some (0 : Int32))) else
 (some (1 : Int32)))))))


def fX6_lengthOf (σ : Mem) (i0 : Nat) (p1 : Int32) : Option Int32 :=
  obd (fX11_isBelow σ p1 (6 : Int32)) (fun q1 =>
 if q1 = 0 then
 (some (0 : Int32)) else
 (grd (inb p1 (ln (i0 + 4))) (
 some (σ (i0 + 4) (ix p1)))))


def fX6_startOf (σ : Mem) (i0 : Nat) (p1 : Int32) : Option Int32 :=
  obd (fX11_isBelow σ p1 (6 : Int32)) (fun q1 =>
 if q1 = 0 then
 (some (0 : Int32)) else
 (grd (inb p1 (ln (i0 + 3))) (
 some (σ (i0 + 3) (ix p1)))))

def sX6_isSpelledAt_19 (σ : Mem) (i0 : Nat) (i1 : Nat) (p2 : Int32) (a4 : Int32) : Option ((Int32) ⊕ Int32) :=
  if (σ (i0 + 1) 1) ≤ a4 then
 (oR (some (1 : Int32))) else
 (obd (fX5_at σ (i0 + 1) a4) (fun q6 =>
 obd (fX6_startOf σ i0 p2) (fun q8 =>
 obd (fX5_at σ i1 (q8 + a4)) (fun q10 =>
 if q6 = q10 then
 (bnd (a4 + (1 : Int32)) (fun x13 =>
 oL x13)) else
 (oR (some (0 : Int32)))))))
def fX6_isSpelledAt (σ : Mem) (i0 : Nat) (i1 : Nat) (p2 : Int32) : Option Int32 :=
  obd (fX6_lengthOf σ i0 p2) (fun q1 =>
 if (σ (i0 + 1) 1) = q1 then
 (lp (sX6_isSpelledAt_19 σ i0 i1 p2) FU (0 : Int32)) else
 (some (0 : Int32)))

def sX6_waysOfHole_21 (i0 : Nat) (i1 : Nat) (i2 : Nat) (i3 : Nat) (p4 : Int32) (p5 : Int32) (x3 : Int32) (a4 : Int32 × Int32 × Mem) : Option ((Int32 × Int32 × Mem) ⊕ (Int32 × Mem)) :=
  if (a4.2.2 i1 1) ≤ a4.1 then
 (oR (some (a4.2.1, a4.2.2))) else
 (obd (fX0_wordAt a4.2.2 i1 a4.1) (fun q6 =>
 ocs q6 (
 bnd (a4.1 + (1 : Int32)) (fun x9 =>
 oL (x9, a4.2.1, a4.2.2))) (fun w8 =>
 obd (fX6_fits a4.2.2 i3 p4 w8 p5) (fun q10 =>
 if q10 = 0 then
 (bnd (a4.1 + (1 : Int32)) (fun x13 =>
 oL (x13, a4.2.1, a4.2.2))) else
 (obd (fX0_spell a4.2.2 i1 w8 x3 (i0 + 1)) (fun q14 =>
 obd (fX6_isSpelledAt q14 i0 i2 p4) (fun q16 =>
 if q16 = 0 then
 (bnd (a4.2.1 + (0 : Int32)) (fun x19 =>
 bnd (a4.1 + (1 : Int32)) (fun x20 =>
 oL (x20, x19, q14)))) else
 (bnd (a4.2.1 + (1 : Int32)) (fun x21 =>
 bnd (a4.1 + (1 : Int32)) (fun x22 =>
 oL (x22, x21, q14)))))))))))
def fX6_waysOfHole (σ : Mem) (i0 : Nat) (i1 : Nat) (i2 : Nat) (i3 : Nat) (p4 : Int32) (p5 : Int32) : Option (Int32 × Mem) :=
  obd (fX3_caseOf σ i3 p4) (fun q1 =>
 bnd (p5 + (imx q1 (0 : Int32))) (fun x3 =>
 lp (sX6_waysOfHole_21 i0 i1 i2 i3 p4 p5 x3) FU ((0 : Int32), (0 : Int32), σ)))

def sX6_waysOfGroup_28 (i0 : Nat) (i1 : Nat) (i2 : Nat) (i3 : Nat) (p4 : Int32) (a2 : Int32 × Int32 × Mem) (a4 : Int32 × Int32 × Mem) : Option ((Int32 × Int32 × Mem) ⊕ ((Int32 × Int32 × Mem) ⊕ (Int32 × Mem))) :=
  if (a4.2.2 i3 0) ≤ a4.1 then
 (oR (bnd (a2.2.1 + a4.2.1) (fun x6 =>
 bnd (a2.1 + (4 : Int32)) (fun x7 =>
 oL (x7, x6, a4.2.2))))) else
 (if a4.2.1 ≤ 0 then
 (oR (bnd (a2.2.1 + a4.2.1) (fun x9 =>
 bnd (a2.1 + (4 : Int32)) (fun x10 =>
 oL (x10, x9, a4.2.2))))) else
 (obd (fX3_groupOf a4.2.2 i3 a4.1) (fun q11 =>
 if q11 = p4 then
 (obd (fX6_waysOfHole a4.2.2 i0 i1 i2 i3 a4.1 a2.1) (fun q14 =>
 bnd (a4.2.1 * q14.1) (fun x16 =>
 bnd (a4.1 + (1 : Int32)) (fun x17 =>
 oL (x17, x16, q14.2))))) else
 (bnd (a4.2.1 * (1 : Int32)) (fun x18 =>
 bnd (a4.1 + (1 : Int32)) (fun x19 =>
 oL (x19, x18, a4.2.2)))))))
def sX6_waysOfGroup_10 (i0 : Nat) (i1 : Nat) (i2 : Nat) (i3 : Nat) (p4 : Int32) (p5 : Int32) (a2 : Int32 × Int32 × Mem) : Option ((Int32 × Int32 × Mem) ⊕ (Int32 × Mem)) :=
  if ((p5 + (1 : Int32)) * (24 : Int32)) ≤ a2.1 then
 (oR (some (a2.2.1, a2.2.2))) else
 (lp (sX6_waysOfGroup_28 i0 i1 i2 i3 p4 a2) FU ((0 : Int32), (1 : Int32), a2.2.2))
def fX6_waysOfGroup (σ : Mem) (i0 : Nat) (i1 : Nat) (i2 : Nat) (i3 : Nat) (p4 : Int32) (p5 : Int32) : Option (Int32 × Mem) :=
  bnd (p5 * (24 : Int32)) (fun x1 =>
 lp (sX6_waysOfGroup_10 i0 i1 i2 i3 p4 p5) FU (x1, (0 : Int32), σ))

def sX6_waysOfFrame_53 (i0 : Nat) (i1 : Nat) (i2 : Nat) (i3 : Nat) (p4 : Int32) (a3 : Int32 × Int32 × Mem) : Option ((Int32 × Int32 × Mem) ⊕ (Int32 × Mem)) :=
  if (3 : Int32) ≤ a3.1 then
 (oR (some (a3.2.1, a3.2.2))) else
 (if a3.2.1 ≤ 0 then
 (oR (some (a3.2.1, a3.2.2))) else
 (obd (fX3_nounOf a3.2.2 i3 a3.1) (fun q6 =>
 if q6 = (-1 : Int32) then
 (bnd (a3.2.1 * (1 : Int32)) (fun x9 =>
 bnd (a3.1 + (1 : Int32)) (fun x10 =>
 oL (x10, x9, a3.2.2)))) else
 (obd (fX6_waysOfGroup a3.2.2 i0 i1 i2 i3 a3.1 p4) (fun q11 =>
 bnd (a3.2.1 * q11.1) (fun x13 =>
 bnd (a3.1 + (1 : Int32)) (fun x14 =>
 oL (x14, x13, q11.2))))))))
def sX6_waysOfFrame_6 (i0 : Nat) (i1 : Nat) (i2 : Nat) (i3 : Nat) (p4 : Int32) (a1 : Int32 × Int32 × Mem) : Option ((Int32 × Int32 × Mem) ⊕ (Int32 × Mem)) :=
  if (a1.2.2 i3 0) ≤ a1.1 then
 (oR (lp (sX6_waysOfFrame_53 i0 i1 i2 i3 p4) FU ((0 : Int32), a1.2.1, a1.2.2))) else
 (obd (fX3_groupOf a1.2.2 i3 a1.1) (fun q15 =>
 if q15 = (-1 : Int32) then
 (obd (fX6_waysOfHole a1.2.2 i0 i1 i2 i3 a1.1 (0 : Int32)) (fun q18 =>
 bnd (a1.2.1 * q18.1) (fun x20 =>
 bnd (a1.1 + (1 : Int32)) (fun x21 =>
 oL (x21, x20, q18.2))))) else
 (bnd (a1.2.1 * (1 : Int32)) (fun x22 =>
 bnd (a1.1 + (1 : Int32)) (fun x23 =>
 oL (x23, x22, a1.2.2))))))
def fX6_waysOfFrame (σ : Mem) (i0 : Nat) (i1 : Nat) (i2 : Nat) (i3 : Nat) (p4 : Int32) : Option (Int32 × Mem) :=
  lp (sX6_waysOfFrame_6 i0 i1 i2 i3 p4) FU ((0 : Int32), (1 : Int32), σ)

def sX6_countReadings_22 (i0 : Nat) (i1 : Nat) (i2 : Nat) (a6 : Int32 × Mem) : Option ((Int32 × Mem) ⊕ Mem) :=
  if ((a6.2 i1 5) * (4 : Int32)) ≤ a6.1 then
 (oR (some a6.2)) else
 (obd (fX0_frameAt a6.2 i1 (a6.1 / (4 : Int32))) (fun q8 =>
 ocs q8 (
 bnd (a6.1 + (1 : Int32)) (fun x11 =>
 oL (x11, a6.2))) (fun w10 =>
 if (a6.2 w10 0) = (a6.2 i0 3) then
 (obd (fX6_waysOfFrame a6.2 i0 i1 i2 w10 (irm a6.1 (4 : Int32))) (fun q13 =>
 bnd (fun (y15 : Mem) =>
 bnd (mw y15 i0 5 ((y15 i0 5) + q13.1)) (fun m16 =>
 bnd (a6.1 + (1 : Int32)) (fun x17 =>
 oL (x17, m16)))) (fun k15 =>
 if q13.1 ≤ 0 then
 (k15 q13.2) else
 (if (q13.2 i0 5) = 0 then
 (bnd (mw q13.2 i0 6 (a6.1 / (4 : Int32))) (fun m20 =>
 bnd (mw m20 i0 7 (irm a6.1 (4 : Int32))) (fun m21 =>
 k15 m21))) else
 (k15 q13.2))))) else
 (bnd (a6.1 + (1 : Int32)) (fun x22 =>
 oL (x22, a6.2))))))
def fX6_countReadings (σ : Mem) (i0 : Nat) (i1 : Nat) (i2 : Nat) : Option Mem :=
  obd (fX6_split σ i0 i2) (fun q1 =>
 bnd (mw q1 i0 5 (0 : Int32)) (fun m3 =>
 bnd (mw m3 i0 6 (-1 : Int32)) (fun m4 =>
 bnd (mw m4 i0 7 (-1 : Int32)) (fun m5 =>
 lp (sX6_countReadings_22 i0 i1 i2) FU ((0 : Int32), m5)))))

def sX6_apartFrom_85 (i0 : Nat) (x1 : Int32) (a4 : Int32 × Mem) (q10 : Int32) (a14 : Int32 × Int32 × Mem) : Option ((Int32 × Int32 × Mem) ⊕ ((Int32 × Mem) ⊕ (Int32 × Mem))) :=
  if x1 < a14.1 then
 (oR (bnd (a4.1 + (1 : Int32)) (fun x16 =>
 oL (x16, a14.2.2)))) else
 (obd (fX5_at a14.2.2 (i0 + 1) (a14.1 - (1 : Int32))) (fun q17 =>
 bnd (fun (y19 : Int32) =>
 bnd (a14.2.1 + y19) (fun x20 =>
 grd (inb a14.1 (ln (i0 + 5))) (
 bnd (a14.2.2 (i0 + 5) (ix a14.1)) (fun x21 =>
 grd (inb (a14.1 - (1 : Int32)) (ln (i0 + 5))) (
 grd (inb a14.1 (ln (i0 + 5))) (
 grd (inb a14.1 (ln (i0 + 5))) (bnd (mw a14.2.2 (i0 + 5) (ix a14.1) (imn x20 ((imn (a14.2.2 (i0 + 5) (ix (a14.1 - (1 : Int32)))) (a14.2.2 (i0 + 5) (ix a14.1))) + (1 : Int32)))) (fun m22 =>
 bnd (a14.1 + (1 : Int32)) (fun x23 =>
 oL (x23, x21, m22)))))))))) (fun k19 =>
 if q17 = q10 then
 (k19 (0 : Int32)) else
 (k19 (1 : Int32)))))
def sX6_apartFrom_40 (i0 : Nat) (i1 : Nat) (p2 : Int32) (x1 : Int32) (a4 : Int32 × Mem) : Option ((Int32 × Mem) ⊕ (Int32 × Mem)) :=
  obd (fX6_lengthOf a4.2 i0 p2) (fun q5 =>
 if q5 < a4.1 then
 (oR (grd (inb x1 (ln (i0 + 5))) (
 some ((a4.2 (i0 + 5) (ix x1)), a4.2)))) else
 (obd (fX6_startOf a4.2 i0 p2) (fun q8 =>
 obd (fX5_at a4.2 i1 ((q8 + a4.1) - (1 : Int32))) (fun q10 =>
 grd (inb (0 : Int32) (ln (i0 + 5))) (
 bnd (a4.2 (i0 + 5) (ix (0 : Int32))) (fun x12 =>
 grd (inb (0 : Int32) (ln (i0 + 5))) (bnd (mw a4.2 (i0 + 5) (ix (0 : Int32)) a4.1) (fun m13 =>
 lp (sX6_apartFrom_85 i0 x1 a4 q10) FU ((1 : Int32), x12, m13)))))))))
def sX6_apartFrom_16 (i0 : Nat) (i1 : Nat) (p2 : Int32) (x1 : Int32) (a2 : Int32 × Mem) : Option ((Int32 × Mem) ⊕ (Int32 × Mem)) :=
  if x1 < a2.1 then
 (oR (lp (sX6_apartFrom_40 i0 i1 p2 x1) FU ((1 : Int32), a2.2))) else
 (grd (inb a2.1 (ln (i0 + 5))) (bnd (mw a2.2 (i0 + 5) (ix a2.1) a2.1) (fun m25 =>
 bnd (a2.1 + (1 : Int32)) (fun x26 =>
 oL (x26, m25)))))
def fX6_apartFrom (σ : Mem) (i0 : Nat) (i1 : Nat) (p2 : Int32) : Option (Int32 × Mem) :=
  bnd (imn (σ (i0 + 1) 1) (10 : Int32)) (fun x1 =>
 lp (sX6_apartFrom_16 i0 i1 p2 x1) FU ((0 : Int32), σ))

def sX6_farnessOfHole_22 (i0 : Nat) (i1 : Nat) (i2 : Nat) (i3 : Nat) (p4 : Int32) (p5 : Int32) (x3 : Int32) (a4 : Int32 × Int32 × Mem) : Option ((Int32 × Int32 × Mem) ⊕ (Int32 × Mem)) :=
  if (a4.2.2 i1 1) ≤ a4.1 then
 (oR (some (a4.2.1, a4.2.2))) else
 (obd (fX0_wordAt a4.2.2 i1 a4.1) (fun q6 =>
 ocs q6 (
 bnd (a4.1 + (1 : Int32)) (fun x9 =>
 oL (x9, a4.2.1, a4.2.2))) (fun w8 =>
 obd (fX6_fits a4.2.2 i3 p4 w8 p5) (fun q10 =>
 if q10 = 0 then
 (bnd (a4.1 + (1 : Int32)) (fun x13 =>
 oL (x13, a4.2.1, a4.2.2))) else
 (obd (fX0_spell a4.2.2 i1 w8 x3 (i0 + 1)) (fun q14 =>
 obd (fX6_apartFrom q14 i0 i2 p4) (fun q16 =>
 bnd (imn a4.2.1 q16.1) (fun x18 =>
 bnd (a4.1 + (1 : Int32)) (fun x19 =>
 oL (x19, x18, q16.2))))))))))
def fX6_farnessOfHole (σ : Mem) (i0 : Nat) (i1 : Nat) (i2 : Nat) (i3 : Nat) (p4 : Int32) (p5 : Int32) : Option (Int32 × Mem) :=
  obd (fX3_caseOf σ i3 p4) (fun q1 =>
 bnd (p5 + (imx q1 (0 : Int32))) (fun x3 =>
 lp (sX6_farnessOfHole_22 i0 i1 i2 i3 p4 p5 x3) FU ((0 : Int32), (1000000 : Int32), σ)))

def sX6_farnessOfGroup_29 (i0 : Nat) (i1 : Nat) (i2 : Nat) (i3 : Nat) (p4 : Int32) (a2 : Int32 × Int32 × Mem) (a4 : Int32 × Int32 × Mem) : Option ((Int32 × Int32 × Mem) ⊕ ((Int32 × Int32 × Mem) ⊕ (Int32 × Mem))) :=
  bnd (fun (y5 : Unit) =>
 oR (bnd (imn a2.2.1 a4.2.1) (fun x6 =>
 bnd (a2.1 + (4 : Int32)) (fun x7 =>
 oL (x7, x6, a4.2.2))))) (fun k5 =>
 if (a4.2.2 i3 0) ≤ a4.1 then
 (k5 ()) else
 (if a2.2.1 ≤ a4.2.1 then
 (k5 ()) else
 (obd (fX3_groupOf a4.2.2 i3 a4.1) (fun q10 =>
 if q10 = p4 then
 (obd (fX6_farnessOfHole a4.2.2 i0 i1 i2 i3 a4.1 a2.1) (fun q13 =>
 bnd (a4.2.1 + q13.1) (fun x15 =>
 bnd (a4.1 + (1 : Int32)) (fun x16 =>
 oL (x16, x15, q13.2))))) else
 (bnd (a4.2.1 + (0 : Int32)) (fun x17 =>
 bnd (a4.1 + (1 : Int32)) (fun x18 =>
 oL (x18, x17, a4.2.2))))))))
def sX6_farnessOfGroup_11 (i0 : Nat) (i1 : Nat) (i2 : Nat) (i3 : Nat) (p4 : Int32) (p5 : Int32) (a2 : Int32 × Int32 × Mem) : Option ((Int32 × Int32 × Mem) ⊕ (Int32 × Mem)) :=
  if ((p5 + (1 : Int32)) * (24 : Int32)) ≤ a2.1 then
 (oR (some (a2.2.1, a2.2.2))) else
 (lp (sX6_farnessOfGroup_29 i0 i1 i2 i3 p4 a2) FU ((0 : Int32), (0 : Int32), a2.2.2))
def fX6_farnessOfGroup (σ : Mem) (i0 : Nat) (i1 : Nat) (i2 : Nat) (i3 : Nat) (p4 : Int32) (p5 : Int32) : Option (Int32 × Mem) :=
  bnd (p5 * (24 : Int32)) (fun x1 =>
 lp (sX6_farnessOfGroup_11 i0 i1 i2 i3 p4 p5) FU (x1, (1000000 : Int32), σ))

def sX6_farnessOfFrame_53 (i0 : Nat) (i1 : Nat) (i2 : Nat) (i3 : Nat) (p4 : Int32) (a3 : Int32 × Int32 × Mem) : Option ((Int32 × Int32 × Mem) ⊕ (Int32 × Mem)) :=
  if (3 : Int32) ≤ a3.1 then
 (oR (some (a3.2.1, a3.2.2))) else
 (obd (fX3_nounOf a3.2.2 i3 a3.1) (fun q5 =>
 if q5 = (-1 : Int32) then
 (bnd (a3.2.1 + (0 : Int32)) (fun x8 =>
 bnd (a3.1 + (1 : Int32)) (fun x9 =>
 oL (x9, x8, a3.2.2)))) else
 (obd (fX6_farnessOfGroup a3.2.2 i0 i1 i2 i3 a3.1 p4) (fun q10 =>
 bnd (a3.2.1 + q10.1) (fun x12 =>
 bnd (a3.1 + (1 : Int32)) (fun x13 =>
 oL (x13, x12, q10.2)))))))
def sX6_farnessOfFrame_6 (i0 : Nat) (i1 : Nat) (i2 : Nat) (i3 : Nat) (p4 : Int32) (a1 : Int32 × Int32 × Mem) : Option ((Int32 × Int32 × Mem) ⊕ (Int32 × Mem)) :=
  if (a1.2.2 i3 0) ≤ a1.1 then
 (oR (lp (sX6_farnessOfFrame_53 i0 i1 i2 i3 p4) FU ((0 : Int32), a1.2.1, a1.2.2))) else
 (obd (fX3_groupOf a1.2.2 i3 a1.1) (fun q14 =>
 if q14 = (-1 : Int32) then
 (obd (fX6_farnessOfHole a1.2.2 i0 i1 i2 i3 a1.1 (0 : Int32)) (fun q17 =>
 bnd (a1.2.1 + q17.1) (fun x19 =>
 bnd (a1.1 + (1 : Int32)) (fun x20 =>
 oL (x20, x19, q17.2))))) else
 (bnd (a1.2.1 + (0 : Int32)) (fun x21 =>
 bnd (a1.1 + (1 : Int32)) (fun x22 =>
 oL (x22, x21, a1.2.2))))))
def fX6_farnessOfFrame (σ : Mem) (i0 : Nat) (i1 : Nat) (i2 : Nat) (i3 : Nat) (p4 : Int32) : Option (Int32 × Mem) :=
  lp (sX6_farnessOfFrame_6 i0 i1 i2 i3 p4) FU ((0 : Int32), (0 : Int32), σ)

def sX6_findNearest_18 (i0 : Nat) (i1 : Nat) (i2 : Nat) (a5 : Int32 × Mem) : Option ((Int32 × Mem) ⊕ Mem) :=
  if ((a5.2 i1 5) * (4 : Int32)) ≤ a5.1 then
 (oR (bnd (fun (y7 : Int32) =>
 bnd (mw a5.2 i0 8 y7) (fun m8 =>
 some m8)) (fun k7 =>
 if (a5.2 i0 9) = (-1 : Int32) then
 (k7 (-1 : Int32)) else
 (k7 (a5.2 i0 8))))) else
 (obd (fX0_frameAt a5.2 i1 (a5.1 / (4 : Int32))) (fun q10 =>
 ocs q10 (
 bnd (a5.1 + (1 : Int32)) (fun x13 =>
 oL (x13, a5.2))) (fun w12 =>
 if (a5.2 w12 0) = (a5.2 i0 3) then
 (obd (fX6_farnessOfFrame a5.2 i0 i1 i2 w12 (irm a5.1 (4 : Int32))) (fun q15 =>
 if (q15.2 i0 8) ≤ q15.1 then
 (bnd (a5.1 + (1 : Int32)) (fun x18 =>
 oL (x18, q15.2))) else
 (bnd (mw q15.2 i0 8 q15.1) (fun m19 =>
 bnd (mw m19 i0 9 (a5.1 / (4 : Int32))) (fun m20 =>
 bnd (a5.1 + (1 : Int32)) (fun x21 =>
 oL (x21, m20))))))) else
 (bnd (a5.1 + (1 : Int32)) (fun x22 =>
 oL (x22, a5.2))))))
def fX6_findNearest (σ : Mem) (i0 : Nat) (i1 : Nat) (i2 : Nat) : Option Mem :=
  obd (fX6_split σ i0 i2) (fun q1 =>
 bnd (mw q1 i0 8 (1000000 : Int32)) (fun m3 =>
 bnd (mw m3 i0 9 (-1 : Int32)) (fun m4 =>
 lp (sX6_findNearest_18 i0 i1 i2) FU ((0 : Int32), m4))))


def fX7_begin (σ : Mem) (i0 : Nat) (p1 : Int32) (p2 : Int32) : Option Mem :=
  bnd (mw σ i0 0 p1) (fun m1 =>
 bnd (mw m1 i0 1 p2) (fun m2 =>
 obd (fJ7_fill_53178 m2 (i0 + 1) (0 : Int32)) (fun q3 =>
 some q3)))


def fX7_isMissing (σ : Mem) (i0 : Nat) : Option Int32 :=
  if (σ i0 0) = (-1 : Int32) then
 (some (1 : Int32)) else
 (some (0 : Int32))


def fX7_hasRun (σ : Mem) (i0 : Nat) (p1 : Int32) (p2 : Int32) : Option Int32 :=
  if p1 < 0 then
 (some (0 : Int32)) else
 (if p2 < 0 then
 (some (0 : Int32)) else
 (if (σ i0 1) < p1 then
 (some (0 : Int32)) else
 (if ((σ i0 1) - p1) < p2 then
 (some (0 : Int32)) else
 (some (1 : Int32)))))


def fX7_at (σ : Mem) (i0 : Nat) (p1 : Int32) : Option Int32 :=
  obd (fX7_hasRun σ i0 p1 (1 : Int32)) (fun q1 =>
 if q1 = 0 then
 (some (0 : Int32)) else
 (grd (inb p1 (ln (i0 + 1))) (
 some (σ (i0 + 1) (ix p1)))))


def fX7_set (σ : Mem) (i0 : Nat) (p1 : Int32) (p2 : Int32) : Option Mem :=
  obd (fX7_hasRun σ i0 p1 (1 : Int32)) (fun q1 =>
 if q1 = 0 then
 (some σ) else
 (bnd (fun (y4 : Int32) =>
 grd (inb p1 (ln (i0 + 1))) (bnd (mw σ (i0 + 1) (ix p1) y4) (fun m5 =>
 some m5))) (fun k4 =>
 if (σ i0 0) = 0 then
 (k4 ((p2).toInt16.toInt32)) else
 (k4 p2))))


def fX7_take (σ : Mem) (i0 : Nat) (p1 : Int32) (i2 : Nat) (p3 : Int32) (p4 : Int32) : Option Mem :=
  obd (fX7_hasRun σ i2 p3 p4) (fun q1 =>
 if q1 = 0 then
 (some σ) else
 (obd (fX7_hasRun σ i0 p1 p4) (fun q4 =>
 if q4 = 0 then
 (some σ) else
 (grd (cpk p3 p1 p4 (ln (i2 + 1)) (ln (i0 + 1))) (bnd (mcp σ (i2 + 1) (ix p3) (i0 + 1) (ix p1) (ix p4)) (fun m7 =>
 some m7))))))

def sX8_addSpelled_18 (i0 : Nat) (a2 : Int32 × Mem) : Option ((Int32 × Mem) ⊕ Mem) :=
  if (a2.2 (i0 + 1) 1) ≤ a2.1 then
 (oR (if (6 : Int32) ≤ (a2.2 i0 3) then
 (some a2.2) else
 (grd (inb (a2.2 i0 3) (ln (i0 + 5))) (bnd (mw a2.2 (i0 + 5) (ix (a2.2 i0 3)) (a2.2 (i0 + 1) 1)) (fun m5 =>
 bnd (mw m5 i0 3 ((m5 i0 3) + (1 : Int32))) (fun m6 =>
 some m6)))))) else
 (obd (fX5_at a2.2 (i0 + 1) a2.1) (fun q7 =>
 obd (fX5_add a2.2 (i0 + 3) q7) (fun q9 =>
 bnd (a2.1 + (1 : Int32)) (fun x11 =>
 oL (x11, q9)))))
def fX8_addSpelled (σ : Mem) (i0 : Nat) : Option Mem :=
  bnd (fun (y1 : Mem) =>
 lp (sX8_addSpelled_18 i0) FU ((0 : Int32), y1)) (fun k1 =>
 if (σ i0 3) ≤ 0 then
 (k1 σ) else
 (obd (fX5_add σ (i0 + 3) (32 : Int32)) (fun q13 =>
 k1 q13)))


def fX8_agreement (σ : Mem) (i0 : Nat) (i1 : Nat) (p2 : Int32) (p3 : Int32) : Option Int32 :=
  obd (fX0_frameAt σ i0 (σ i1 0)) (fun q1 =>
 ocs q1 (
 some (0 : Int32)) (fun w3 =>
 obd (fX3_groupOf σ w3 p2) (fun q4 =>
 if q4 = (-1 : Int32) then
 (some (0 : Int32)) else
 (obd (fX3_groupOf σ w3 p2) (fun q7 =>
 obd (fX3_nounOf σ w3 q7) (fun q9 =>
 obd (fX2_wordIn σ i1 q9) (fun q11 =>
 obd (fX0_wordAt σ i0 q11) (fun q13 =>
 ocs q13 (
 some (0 : Int32)) (fun w15 =>
 bnd (fun (y16 : Int32) =>
 obd (fX3_caseOf σ w3 p2) (fun q17 =>
 some (((imx q17 (0 : Int32)) + (y16 * (4 : Int32))) + ((σ w15 4) * (8 : Int32))))) (fun k16 =>
 if (σ w15 2) = (3 : Int32) then
 (k16 (0 : Int32)) else
 (k16 ((p3 >>> (q7 &&& 31)) &&& (1 : Int32)))))))))))))

def sX8_say_32 (i0 : Nat) (i1 : Nat) (i2 : Nat) (p3 : Int32) (p4 : Int32) (w6 : Nat) (a7 : Int32 × Mem) : Option ((Int32 × Mem) ⊕ (Int32 × Mem)) :=
  if (a7.2 w6 0) ≤ a7.1 then
 (oR (some ((1 : Int32), a7.2))) else
 (obd (fX2_wordIn a7.2 i2 a7.1) (fun q9 =>
 obd (fX0_wordAt a7.2 i1 q9) (fun q11 =>
 ocs q11 (
 oR (obd (fX5_clear a7.2 (i0 + 3)) (fun q14 =>
 bnd (mw q14 i0 3 (0 : Int32)) (fun m16 =>
 some ((0 : Int32), m16))))) (fun w13 =>
 obd (fX8_agreement a7.2 i1 i2 a7.1 p4) (fun q17 =>
 obd (fX0_spell a7.2 i1 w13 (q17 + (p3 * (24 : Int32))) (i0 + 1)) (fun q19 =>
 obd (fX8_addSpelled q19 i0) (fun q21 =>
 bnd (a7.1 + (1 : Int32)) (fun x23 =>
 oL (x23, q21)))))))))
def fX8_say (σ : Mem) (i0 : Nat) (i1 : Nat) (i2 : Nat) (p3 : Int32) (p4 : Int32) : Option (Int32 × Mem) :=
  obd (fX5_clear σ (i0 + 3)) (fun q1 =>
 bnd (mw q1 i0 3 (0 : Int32)) (fun m3 =>
 obd (fX0_frameAt m3 i1 (m3 i2 0)) (fun q4 =>
 ocs q4 (
 some ((0 : Int32), m3)) (fun w6 =>
 lp (sX8_say_32 i0 i1 i2 p3 p4 w6) FU ((0 : Int32), m3)))))


def fX8_lengthOf (σ : Mem) (i0 : Nat) (p1 : Int32) : Option Int32 :=
  obd (fX11_isBelow σ p1 (σ i0 3)) (fun q1 =>
 if q1 = 0 then
 (some (-1 : Int32)) else
 (if (6 : Int32) ≤ p1 then
 (some (-1 : Int32)) else
 (grd (inb p1 (ln (i0 + 5))) (
 some (σ (i0 + 5) (ix p1))))))

def sX8_timeBy_4 (σ : Mem) (i0 : Nat) (p1 : Int32) (a1 : Int32 × UInt32) : Option ((Int32 × UInt32) ⊕ UInt32) :=
  if (σ (i0 + 3) 1) ≤ a1.1 then
 (oR (some a1.2)) else
 (obd (fX5_at σ (i0 + 3) a1.1) (fun q3 =>
 bnd (fun (y5 : UInt32) =>
 if q3 = (32 : Int32) then
 (grd (fnn (FP.fdiv y5 (FP.i2f p1))) (
 grd (fnn (FP.fadd a1.2 (FP.fdiv y5 (FP.i2f p1)))) (
 bnd (FP.fadd a1.2 (FP.fdiv y5 (FP.i2f p1))) (fun x7 =>
 bnd (a1.1 + (1 : Int32)) (fun x8 =>
 oL (x8, x7)))))) else
 (obd (fX5_at σ (i0 + 3) (a1.1 - (1 : Int32))) (fun q9 =>
 if q3 = q9 then
 (grd (fnn (FP.fmul y5 (1061158912 : UInt32))) (
 bnd (FP.fmul y5 (1061158912 : UInt32)) (fun x12 =>
 grd (fnn (FP.fdiv x12 (FP.i2f p1))) (
 grd (fnn (FP.fadd a1.2 (FP.fdiv x12 (FP.i2f p1)))) (
 bnd (FP.fadd a1.2 (FP.fdiv x12 (FP.i2f p1))) (fun x13 =>
 bnd (a1.1 + (1 : Int32)) (fun x14 =>
 oL (x14, x13)))))))) else
 (grd (fnn (FP.fdiv y5 (FP.i2f p1))) (
 grd (fnn (FP.fadd a1.2 (FP.fdiv y5 (FP.i2f p1)))) (
 bnd (FP.fadd a1.2 (FP.fdiv y5 (FP.i2f p1))) (fun x15 =>
 bnd (a1.1 + (1 : Int32)) (fun x16 =>
 oL (x16, x15))))))))) (fun k5 =>
 if q3 = (32 : Int32) then
 (k5 (1091567616 : UInt32)) else
 (obd (fX5_isVowel σ q3) (fun q18 =>
 if q18 = 0 then
 (k5 (1082130432 : UInt32)) else
 (k5 (1088421888 : UInt32)))))))
def fX8_timeBy (σ : Mem) (i0 : Nat) (p1 : Int32) : Option UInt32 :=
  lp (sX8_timeBy_4 σ i0 p1) FU ((0 : Int32), FP.fconst0)


def fX9_begin (σ : Mem) (i0 : Nat) (p1 : Int32) (p2 : Int32) : Option Mem :=
  bnd (mw σ i0 0 p1) (fun m1 =>
 bnd (mw m1 i0 1 p2) (fun m2 =>
 obd (fJ7_fill_53178 m2 (i0 + 1) (-1 : Int32)) (fun q3 =>
 some q3)))


def fX9_become (σ : Mem) (i0 : Nat) (i1 : Nat) : Option Mem :=
  bnd (mw σ i0 0 (σ i1 0)) (fun m1 =>
 bnd (mw m1 i0 1 (m1 i1 1)) (fun m2 =>
 grd (cpk (0 : Int32) (0 : Int32) (20 : Int32) (ln (i1 + 1)) (ln (i0 + 1))) (bnd (mcp m2 (i1 + 1) (ix (0 : Int32)) (i0 + 1) (ix (0 : Int32)) (ix (20 : Int32))) (fun m3 =>
 some m3))))


def fX9_isMissing (σ : Mem) (i0 : Nat) : Option Int32 :=
  if (σ i0 0) = (-1 : Int32) then
 (some (1 : Int32)) else
 (some (0 : Int32))


def fX9_has (σ : Mem) (i0 : Nat) (p1 : Int32) : Option Int32 :=
  if p1 < 0 then
 (some (0 : Int32)) else
 (if (σ i0 1) ≤ p1 then
 (some (0 : Int32)) else
 (if (20 : Int32) ≤ p1 then
 (some (0 : Int32)) else
 (some (1 : Int32))))


def fX9_wordAt (σ : Mem) (i0 : Nat) (p1 : Int32) : Option Int32 :=
  obd (fX9_has σ i0 p1) (fun q1 =>
 if q1 = 0 then
 (some (-1 : Int32)) else
 (grd (inb p1 (ln (i0 + 1))) (
 some (σ (i0 + 1) (ix p1)))))


def fX9_lay (σ : Mem) (i0 : Nat) (p1 : Int32) (p2 : Int32) : Option Mem :=
  obd (fX9_has σ i0 p1) (fun q1 =>
 if q1 = 0 then
 (some σ) else
 (grd (inb p1 (ln (i0 + 1))) (bnd (mw σ (i0 + 1) (ix p1) p2) (fun m4 =>
 some m4))))


def fX11_areBytes (σ : Mem) (p0 : Int32) (p1 : Int32) (p2 : Int32) (p3 : Int32) (p4 : Int32) : Option Int32 :=
  if (((((p0 ||| p1) ||| p2) ||| p3) ||| p4) &&& (-256 : Int32)) = 0 then
 (some (1 : Int32)) else
 (some (0 : Int32))

def sX11_feed_47 (i0 : Nat) (p1 : Int32) (p2 : Int32) (p3 : Int32) (p4 : Int32) (p5 : Int32) (p6 : Int32) (a7 : Int32 × Mem) : Option ((Int32 × Mem) ⊕ (Int32 × Mem)) :=
  if p1 ≤ a7.1 then
 (oR (some ((a7.2 (i0 + 1) 1), a7.2))) else
 (bnd (fun (y9 : Int32) =>
 obd (fX5_add a7.2 (i0 + 1) y9) (fun q10 =>
 bnd (a7.1 + (1 : Int32)) (fun x12 =>
 oL (x12, q10)))) (fun k9 =>
 if a7.1 = 0 then
 (k9 p2) else
 (if a7.1 = (1 : Int32) then
 (k9 p3) else
 (if a7.1 = (2 : Int32) then
 (k9 p4) else
 (if a7.1 = (3 : Int32) then
 (k9 p5) else
 (k9 p6))))))
def fX11_feed (σ : Mem) (i0 : Nat) (p1 : Int32) (p2 : Int32) (p3 : Int32) (p4 : Int32) (p5 : Int32) (p6 : Int32) : Option (Int32 × Mem) :=
  if p1 < (1 : Int32) then
 (some ((-2 : Int32), σ)) else
 (if (5 : Int32) < p1 then
 (some ((-2 : Int32), σ)) else
 (obd (fX11_areBytes σ p2 p3 p4 p5 p6) (fun q3 =>
 if q3 = 0 then
 (some ((-2 : Int32), σ)) else
 (if ((σ (i0 + 1) 1) + p1) ≤ (50 : Int32) then
 (lp (sX11_feed_47 i0 p1 p2 p3 p4 p5 p6) FU ((0 : Int32), σ)) else
 (some ((-4 : Int32), σ))))))


def fX11_word (σ : Mem) (i0 : Nat) (p1 : Int32) (p2 : Int32) (p3 : Int32) : Option (Int32 × Mem) :=
  obd (fX11_isBelow σ p1 (6 : Int32)) (fun q1 =>
 if q1 = 0 then
 (some ((-2 : Int32), σ)) else
 (obd (fX11_isBelow σ p2 (4 : Int32)) (fun q4 =>
 if q4 = 0 then
 (some ((-2 : Int32), σ)) else
 (obd (fX11_isBelow σ p3 (3 : Int32)) (fun q7 =>
 if q7 = 0 then
 (some ((-2 : Int32), σ)) else
 (bnd (fun (y10 : Int32) =>
 bnd (fun (y11 : Int32 × Mem) =>
 obd (fX5_clear y11.2 (i0 + 1)) (fun q12 =>
 some (y11.1, q12))) (fun k11 =>
 if y10 = 0 then
 (k11 ((-3 : Int32), σ)) else
 (obd (fX0_addWord σ (i0 + 3) (i0 + 1) p1 p2 p3) (fun q15 =>
 k11 (q15.1, q15.2))))) (fun k10 =>
 bnd (fun (y17 : Unit) =>
 k10 (0 : Int32)) (fun k17 =>
 if (σ (i0 + 1) 1) < (1 : Int32) then
 (k17 ()) else
 (if (6 : Int32) < (σ (i0 + 1) 1) then
 (k17 ()) else
 (obd (fX5_isAllLetters σ (i0 + 1)) (fun q20 =>
 if q20 = 0 then
 (k17 ()) else
 (k10 (1 : Int32)))))))))))))


def fX11_ending (σ : Mem) (i0 : Nat) (p1 : Int32) (p2 : Int32) (p3 : Int32) : Option (Int32 × Mem) :=
  obd (fX0_endingAt σ (i0 + 3) p1 p2 p3) (fun q1 =>
 ocs q1 (
 some ((-2 : Int32), σ)) (fun w3 =>
 bnd (fun (y4 : Int32 × Mem) =>
 obd (fX5_clear y4.2 (i0 + 1)) (fun q5 =>
 some (y4.1, q5))) (fun k4 =>
 if (3 : Int32) < (σ (i0 + 1) 1) then
 (k4 ((-3 : Int32), σ)) else
 (obd (fX5_isAllLetters σ (i0 + 1)) (fun q8 =>
 if q8 = 0 then
 (k4 ((-3 : Int32), σ)) else
 (bnd (σ w3 1) (fun x11 =>
 obd (fX5_become σ w3 (i0 + 1)) (fun q12 =>
 k4 (x11, q12)))))))))


def fX11_frame (σ : Mem) (i0 : Nat) : Option (Int32 × Mem) :=
  obd (fX4_read σ (i0 + 341) (i0 + 3) (i0 + 1)) (fun q1 =>
 obd (fX5_clear q1.2 (i0 + 1)) (fun q3 =>
 if q1.1 = (-1 : Int32) then
 (obd (fX0_addFrame q3 (i0 + 3) ((i0 + 341) + 1)) (fun q6 =>
 some (q6.1, q6.2))) else
 (some (((-100 : Int32) - q1.1), q3))))


def fX11_told (σ : Mem) (i0 : Nat) (p1 : Int32) (p2 : Int32) : Option Int32 :=
  obd (fX0_wordAt σ (i0 + 3) p1) (fun q1 =>
 ocs q1 (
 some (-2 : Int32)) (fun w3 =>
 if p2 = (0 : Int32) then
 (some (σ w3 2)) else
 (if p2 = (1 : Int32) then
 (some (σ w3 3)) else
 (if p2 = (2 : Int32) then
 (some (σ w3 4)) else
 (if p2 = (3 : Int32) then
 (some (σ (w3 + 1) 1)) else
 (some (-2 : Int32)))))))


def fX11_taken (σ : Mem) (i0 : Nat) (p1 : Int32) (p2 : Int32) : Option (Int32 × Mem) :=
  obd (fX0_wordAt σ (i0 + 3) p1) (fun q1 =>
 ocs q1 (
 some ((-2 : Int32), σ)) (fun w3 =>
 obd (fX11_isBelow σ p2 (6 : Int32)) (fun q4 =>
 if q4 = 0 then
 (some ((-2 : Int32), σ)) else
 (obd (fX10_isOf σ w3 p2) (fun q7 =>
 if q7 = 0 then
 (some ((-13 : Int32), σ)) else
 (obd (fX0_spell σ (i0 + 3) w3 (((5 : Int32) + ((σ w3 4) * (8 : Int32))) + (24 : Int32)) (i0 + 348)) (fun q10 =>
 some ((q10 (i0 + 348) 1), q10))))))))


def fX11_sizeOrLetter (σ : Mem) (i0 : Nat) (p1 : Int32) : Option Int32 :=
  if p1 = (-1 : Int32) then
 (some (σ i0 1)) else
 (obd (fX5_at σ i0 p1) (fun q2 =>
 if q2 = (-1 : Int32) then
 (some (-12 : Int32)) else
 (some q2)))


def fX11_form (σ : Mem) (i0 : Nat) (p1 : Int32) (p2 : Int32) (p3 : Int32) : Option (Int32 × Mem) :=
  obd (fX0_wordAt σ (i0 + 3) p1) (fun q1 =>
 ocs q1 (
 some ((-2 : Int32), σ)) (fun w3 =>
 obd (fX11_isBelow σ p2 (96 : Int32)) (fun q4 =>
 if q4 = 0 then
 (some ((-2 : Int32), σ)) else
 (obd (fX0_spell σ (i0 + 3) w3 p2 (i0 + 348)) (fun q7 =>
 obd (fX11_sizeOrLetter q7 (i0 + 348) p3) (fun q9 =>
 some (q9, q7)))))))


def fX11_hole (σ : Mem) (i0 : Nat) (p1 : Int32) (p2 : Int32) (p3 : Int32) : Option Int32 :=
  obd (fX0_frameAt σ (i0 + 3) p1) (fun q1 =>
 ocs q1 (
 some (-2 : Int32)) (fun w3 =>
 if p3 < 0 then
 (some (-2 : Int32)) else
 (if p3 ≤ (4 : Int32) then
 (obd (fX3_has σ w3 p2) (fun q6 =>
 if q6 = 0 then
 (some (-12 : Int32)) else
 (if p3 = (0 : Int32) then
 (obd (fX3_sortOf σ w3 p2) (fun q10 =>
 some q10)) else
 (if p3 = (1 : Int32) then
 (obd (fX3_groupOf σ w3 p2) (fun q13 =>
 some q13)) else
 (if p3 = (2 : Int32) then
 (obd (fX3_caseOf σ w3 p2) (fun q16 =>
 some q16)) else
 (if p3 = (3 : Int32) then
 (obd (fX3_plainOf σ w3 p2) (fun q19 =>
 some q19)) else
 (obd (fX0_wordsFor σ (i0 + 3) w3 p2) (fun q21 =>
 some q21)))))))) else
 (some (-2 : Int32)))))

def sX11_desk_39 (i0 : Nat) (w3 : Nat) (a9 : Int32 × Mem) : Option ((Int32 × Mem) ⊕ (Int32 × Mem)) :=
  if (a9.2 w3 0) ≤ a9.1 then
 (oR (some ((a9.2 w3 0), a9.2))) else
 (obd (fX0_wordFor a9.2 (i0 + 3) w3 a9.1 (0 : Int32)) (fun q11 =>
 obd (fX2_fill a9.2 ((i0 + 3) + 7) a9.1 q11) (fun q13 =>
 bnd (a9.1 + (1 : Int32)) (fun x15 =>
 oL (x15, q13)))))
def fX11_desk (σ : Mem) (i0 : Nat) (p1 : Int32) (p2 : Int32) : Option (Int32 × Mem) :=
  obd (fX0_frameAt σ (i0 + 3) p1) (fun q1 =>
 ocs q1 (
 some ((-2 : Int32), σ)) (fun w3 =>
 obd (fX11_isBelow σ p2 (4 : Int32)) (fun q4 =>
 if q4 = 0 then
 (some ((-2 : Int32), σ)) else
 (obd (fX2_begin σ ((i0 + 3) + 7) p1 p2) (fun q7 =>
 lp (sX11_desk_39 i0 w3) FU ((0 : Int32), q7))))))


def fX11_choose (σ : Mem) (i0 : Nat) (p1 : Int32) (p2 : Int32) : Option (Int32 × Mem) :=
  obd (fX0_wordAt σ (i0 + 3) p2) (fun q1 =>
 ocs q1 (
 some ((-2 : Int32), σ)) (fun w3 =>
 obd (fX0_frameAt σ (i0 + 3) (σ ((i0 + 3) + 7) 0)) (fun q4 =>
 ocs q4 (
 some ((-3 : Int32), σ)) (fun w6 =>
 obd (fX3_has σ w6 p1) (fun q7 =>
 if q7 = 0 then
 (some ((-12 : Int32), σ)) else
 (obd (fX3_takes σ w6 p1 w3) (fun q10 =>
 if q10 = 0 then
 (some ((-13 : Int32), σ)) else
 (obd (fX2_wordIn σ ((i0 + 3) + 7) p1) (fun q13 =>
 obd (fX2_fill σ ((i0 + 3) + 7) p1 p2) (fun q15 =>
 some (q13, q15)))))))))))


def fX11_number (σ : Mem) (i0 : Nat) (p1 : Int32) (p2 : Int32) : Option (Int32 × Mem) :=
  obd (fX11_isBelow σ p1 (3 : Int32)) (fun q1 =>
 if q1 = 0 then
 (some ((-2 : Int32), σ)) else
 (obd (fX11_isBelow σ p2 (2 : Int32)) (fun q4 =>
 if q4 = 0 then
 (some ((-2 : Int32), σ)) else
 (if (σ ((i0 + 3) + 7) 0) = (-1 : Int32) then
 (some ((-3 : Int32), σ)) else
 (bnd (((σ ((i0 + 3) + 7) 2) >>> (p1 &&& 31)) &&& (1 : Int32)) (fun x8 =>
 bnd (mw σ ((i0 + 3) + 7) 2 (((σ ((i0 + 3) + 7) 2) &&& (((1 : Int32) <<< (p1 &&& 31)) ^^^ (-1 : Int32))) ||| (p2 <<< (p1 &&& 31)))) (fun m9 =>
 some (x8, m9))))))))


def fX11_sayDesk (σ : Mem) (i0 : Nat) : Option (Int32 × Mem) :=
  obd (fX8_say σ (i0 + 350) (i0 + 3) ((i0 + 3) + 7) (σ ((i0 + 3) + 7) 1) (σ ((i0 + 3) + 7) 2)) (fun q1 =>
 some (q1.1, q1.2))


def fX11_said (σ : Mem) (i0 : Nat) (p1 : Int32) : Option (Int32 × Mem) :=
  obd (fX11_sayDesk σ i0) (fun q1 =>
 obd (fX11_sizeOrLetter q1.2 ((i0 + 350) + 3) p1) (fun q3 =>
 some (q3, q1.2)))

def sX11_bitsOf_16  (a2 : Int32 × Int32 × UInt32) : Option ((Int32 × Int32 × UInt32) ⊕ Int32) :=
  if (150 : Int32) ≤ a2.1 then
 (oR (some ((a2.2.1 <<< ((23 : Int32) &&& 31)) ||| ((FP.f2i a2.2.2) &&& (8388607 : Int32))))) else
 (if 0 ≤ (Op.cmpValue (FP.fcmp a2.2.2 (1258291200 : UInt32)) .g) then
 (oR (some ((a2.2.1 <<< ((23 : Int32) &&& 31)) ||| ((FP.f2i a2.2.2) &&& (8388607 : Int32))))) else
 (grd (fnn (FP.fmul a2.2.2 FP.fconst2)) (
 bnd (FP.fmul a2.2.2 FP.fconst2) (fun x5 =>
 bnd (a2.2.1 + (-1 : Int32)) (fun x6 =>
 bnd (a2.1 + (1 : Int32)) (fun x7 =>
 oL (x7, x6, x5)))))))
def fX11_bitsOf (σ : Mem) (p0 : UInt32) : Option Int32 :=
  if 0 < (Op.cmpValue (FP.fcmp p0 FP.fconst0) .l) then
 (lp (sX11_bitsOf_16) FU ((0 : Int32), (150 : Int32), p0)) else
 (some (0 : Int32))


def fX11_spoken (σ : Mem) (i0 : Nat) (p1 : Int32) : Option (Int32 × Mem) :=
  if p1 < (1 : Int32) then
 (some ((-2 : Int32), σ)) else
 (if p1 ≤ (99 : Int32) then
 (obd (fX11_sayDesk σ i0) (fun q3 =>
 obd (fX8_timeBy q3.2 (i0 + 350) p1) (fun q5 =>
 obd (fX11_bitsOf q3.2 q5) (fun q7 =>
 some (q7, q3.2))))) else
 (some ((-2 : Int32), σ)))


def fX11_text (σ : Mem) (i0 : Nat) : Option (Int32 × Mem) :=
  obd (fX5_isAllWords σ (i0 + 1)) (fun q1 =>
 bnd (fun (y3 : Int32 × Mem) =>
 obd (fX5_clear y3.2 (i0 + 1)) (fun q4 =>
 some (y3.1, q4))) (fun k3 =>
 if q1 = 0 then
 (k3 ((-3 : Int32), σ)) else
 (obd (fX5_become σ ((i0 + 3) + 5) (i0 + 1)) (fun q7 =>
 obd (fX5_words q7 ((i0 + 3) + 5)) (fun q9 =>
 k3 (q9, q7))))))


def fX11_readings (σ : Mem) (i0 : Nat) (p1 : Int32) : Option (Int32 × Mem) :=
  if p1 < 0 then
 (some ((-2 : Int32), σ)) else
 (if p1 ≤ (2 : Int32) then
 (obd (fX6_countReadings σ (i0 + 359) (i0 + 3) ((i0 + 3) + 5)) (fun q3 =>
 if p1 = 0 then
 (some ((q3 (i0 + 359) 5), q3)) else
 (if p1 = (1 : Int32) then
 (some ((q3 (i0 + 359) 6), q3)) else
 (some ((q3 (i0 + 359) 7), q3))))) else
 (some ((-2 : Int32), σ)))


def fX11_near (σ : Mem) (i0 : Nat) (p1 : Int32) : Option (Int32 × Mem) :=
  if p1 < 0 then
 (some ((-2 : Int32), σ)) else
 (if p1 ≤ (1 : Int32) then
 (obd (fX6_findNearest σ (i0 + 359) (i0 + 3) ((i0 + 3) + 5)) (fun q3 =>
 if p1 = 0 then
 (some ((q3 (i0 + 359) 8), q3)) else
 (some ((q3 (i0 + 359) 9), q3)))) else
 (some ((-2 : Int32), σ)))


def fX11_sayDrawn (σ : Mem) (i0 : Nat) (p1 : Int32) : Option (Int32 × Mem) :=
  obd (fX1_draw σ (i0 + 356) (i0 + 3) p1) (fun q1 =>
 if q1.1 = 0 then
 (some ((0 : Int32), q1.2)) else
 (obd (fX8_say q1.2 (i0 + 350) (i0 + 3) ((i0 + 356) + 1) (q1.2 ((i0 + 356) + 1) 1) (q1.2 ((i0 + 356) + 1) 2)) (fun q4 =>
 if q4.1 = 0 then
 (some ((0 : Int32), q4.2)) else
 (some ((1 : Int32), q4.2)))))


def fX11_drawn (σ : Mem) (i0 : Nat) (p1 : Int32) (p2 : Int32) : Option (Int32 × Mem) :=
  if p2 < 0 then
 (some ((-2 : Int32), σ)) else
 (if p2 ≤ (1 : Int32) then
 (if (σ (i0 + 3) 5) = 0 then
 (some ((-3 : Int32), σ)) else
 (obd (fX11_sayDrawn σ i0 p1) (fun q4 =>
 if q4.1 = 0 then
 (some ((0 : Int32), q4.2)) else
 (if p2 = (1 : Int32) then
 (some ((q4.2 ((i0 + 350) + 3) 1), q4.2)) else
 (obd (fX6_countReadings q4.2 (i0 + 359) (i0 + 3) ((i0 + 350) + 3)) (fun q8 =>
 some ((q8 (i0 + 359) 5), q8))))))) else
 (some ((-2 : Int32), σ)))

def sX11_commonDivisor_4 (p0 : Int32) (p1 : Int32) (a1 : Int32 × Int32) : Option ((Int32 × Int32) ⊕ Int32) :=
  if (8 : Int32) < a1.1 then
 (oR (some a1.2)) else
 (grd (!decide (a1.1 = 0)) (
 if (irm p0 a1.1) = 0 then
 (grd (!decide (a1.1 = 0)) (
 if (irm p1 a1.1) = 0 then
 (bnd (a1.1 + (1 : Int32)) (fun x5 =>
 oL (x5, a1.1))) else
 (bnd (a1.1 + (1 : Int32)) (fun x6 =>
 oL (x6, a1.2))))) else
 (bnd (a1.1 + (1 : Int32)) (fun x7 =>
 oL (x7, a1.2)))))
def fX11_commonDivisor (σ : Mem) (p0 : Int32) (p1 : Int32) : Option Int32 :=
  lp (sX11_commonDivisor_4 p0 p1) FU ((2 : Int32), (1 : Int32))

def sX11_chance_42 (i0 : Nat) (p1 : Int32) (p2 : Int32) (p3 : Int32) (a6 : Int32 × Int32 × Mem) : Option ((Int32 × Int32 × Mem) ⊕ (Int32 × Mem)) :=
  if p2 ≤ a6.1 then
 (oR (obd (fX11_commonDivisor a6.2.2 a6.2.1 p2) (fun q8 =>
 if p3 = 0 then
 (grd (!decide (q8 = 0)) (
 some ((a6.2.1 / q8), a6.2.2))) else
 (grd (!decide (q8 = 0)) (
 some ((p2 / q8), a6.2.2)))))) else
 (obd (fX11_sayDrawn a6.2.2 i0 (p1 + a6.1)) (fun q11 =>
 if q11.1 = 0 then
 (bnd (a6.1 + (1 : Int32)) (fun x14 =>
 oL (x14, a6.2.1, q11.2))) else
 (obd (fX6_countReadings q11.2 (i0 + 359) (i0 + 3) ((i0 + 350) + 3)) (fun q15 =>
 if (q15 (i0 + 359) 5) = (1 : Int32) then
 (bnd (a6.2.1 + (1 : Int32)) (fun x18 =>
 bnd (a6.1 + (1 : Int32)) (fun x19 =>
 oL (x19, x18, q15)))) else
 (bnd (a6.2.1 + (0 : Int32)) (fun x20 =>
 bnd (a6.1 + (1 : Int32)) (fun x21 =>
 oL (x21, x20, q15))))))))
def fX11_chance (σ : Mem) (i0 : Nat) (p1 : Int32) (p2 : Int32) (p3 : Int32) : Option (Int32 × Mem) :=
  if p2 < (1 : Int32) then
 (some ((-2 : Int32), σ)) else
 (if (8 : Int32) < p2 then
 (some ((-2 : Int32), σ)) else
 (if p3 < 0 then
 (some ((-2 : Int32), σ)) else
 (if p3 ≤ (1 : Int32) then
 (if (σ (i0 + 3) 5) = 0 then
 (some ((-3 : Int32), σ)) else
 (lp (sX11_chance_42 i0 p1 p2 p3) FU ((0 : Int32), (0 : Int32), σ))) else
 (some ((-2 : Int32), σ)))))


def fX11_trayAt (σ : Mem) (i0 : Nat) (p1 : Int32) : Option (Option Nat) :=
  if p1 < 0 then
 (some none) else
 (if (nI (ln (i0 + 366))) ≤ p1 then
 (some none) else
 (grd (inb p1 (ln (i0 + 366))) (
 some (some ((i0 + 366) + 9 + 2 * ix p1)))))


def fX11_tray (σ : Mem) (i0 : Nat) (p1 : Int32) (p2 : Int32) (p3 : Int32) : Option (Int32 × Mem) :=
  obd (fX11_trayAt σ i0 p1) (fun q1 =>
 ocs q1 (
 some ((-2 : Int32), σ)) (fun w3 =>
 obd (fX11_isBelow σ p2 (6 : Int32)) (fun q4 =>
 if q4 = 0 then
 (some ((-2 : Int32), σ)) else
 (if p3 ≤ (20 : Int32) then
 (if 0 ≤ p3 then
 (obd (fX9_begin σ w3 p2 p3) (fun q9 =>
 some ((1 : Int32), q9))) else
 (some ((-14 : Int32), σ))) else
 (some ((-2 : Int32), σ))))))


def fX11_lays (σ : Mem) (i0 : Nat) (p1 : Int32) (p2 : Int32) (p3 : Int32) : Option (Int32 × Mem) :=
  obd (fX11_trayAt σ i0 p1) (fun q1 =>
 ocs q1 (
 obd (fX0_wordAt σ (i0 + 3) p3) (fun q4 =>
 ocs q4 (
 some ((-2 : Int32), σ)) (fun w6 =>
 some ((-2 : Int32), σ)))) (fun w3 =>
 obd (fX0_wordAt σ (i0 + 3) p3) (fun q7 =>
 ocs q7 (
 if p3 = (-1 : Int32) then
 (obd (fX9_isMissing σ w3) (fun q11 =>
 if q11 = 0 then
 (obd (fX9_has σ w3 p2) (fun q14 =>
 if q14 = 0 then
 (some ((-12 : Int32), σ)) else
 (obd (fX9_lay σ w3 p2 p3) (fun q17 =>
 some ((1 : Int32), q17))))) else
 (some ((-11 : Int32), σ)))) else
 (some ((-2 : Int32), σ))) (fun w9 =>
 obd (fX9_isMissing σ w3) (fun q19 =>
 if q19 = 0 then
 (obd (fX9_has σ w3 p2) (fun q22 =>
 if q22 = 0 then
 (some ((-12 : Int32), σ)) else
 (obd (fX10_isOf σ w9 (σ w3 0)) (fun q25 =>
 if q25 = 0 then
 (some ((-16 : Int32), σ)) else
 (obd (fX9_lay σ w3 p2 p3) (fun q28 =>
 some ((1 : Int32), q28))))))) else
 (some ((-11 : Int32), σ)))))))


def fX11_laid (σ : Mem) (i0 : Nat) (p1 : Int32) (p2 : Int32) : Option Int32 :=
  obd (fX11_trayAt σ i0 p1) (fun q1 =>
 ocs q1 (
 some (-2 : Int32)) (fun w3 =>
 obd (fX9_isMissing σ w3) (fun q4 =>
 if q4 = 0 then
 (obd (fX9_has σ w3 p2) (fun q7 =>
 if q7 = 0 then
 (some (-12 : Int32)) else
 (obd (fX9_wordAt σ w3 p2) (fun q10 =>
 some q10)))) else
 (some (-11 : Int32)))))


def fX11_like (σ : Mem) (i0 : Nat) (p1 : Int32) (p2 : Int32) : Option (Int32 × Mem) :=
  obd (fX11_trayAt σ i0 p1) (fun q1 =>
 ocs q1 (
 obd (fX11_trayAt σ i0 p2) (fun q4 =>
 ocs q4 (
 some ((-2 : Int32), σ)) (fun w6 =>
 some ((-2 : Int32), σ)))) (fun w3 =>
 obd (fX11_trayAt σ i0 p2) (fun q7 =>
 ocs q7 (
 some ((-2 : Int32), σ)) (fun w9 =>
 obd (fX9_isMissing σ w9) (fun q10 =>
 if q10 = 0 then
 (obd (fX9_become σ w3 w9) (fun q13 =>
 some ((q13 w3 1), q13))) else
 (some ((-11 : Int32), σ)))))))

def sX11_firstOtherwise_17 (σ : Mem) (i0 : Nat) (i1 : Nat) (x1 : Int32) (a2 : Int32) : Option ((Int32) ⊕ Int32) :=
  if x1 ≤ a2 then
 (oR (if (σ i1 1) = (σ (i0 + 350) 3) then
 (some (-1 : Int32)) else
 (some x1))) else
 (obd (fX7_at σ i1 a2) (fun q5 =>
 obd (fX8_lengthOf σ (i0 + 350) a2) (fun q7 =>
 if q5 = q7 then
 (bnd (a2 + (1 : Int32)) (fun x10 =>
 oL x10)) else
 (oR (some a2)))))
def fX11_firstOtherwise (σ : Mem) (i0 : Nat) (i1 : Nat) : Option Int32 :=
  bnd (imn (σ i1 1) (σ (i0 + 350) 3)) (fun x1 =>
 lp (sX11_firstOtherwise_17 σ i0 i1 x1) FU (0 : Int32))

def sX11_moodsTold_4 (i0 : Nat) (i1 : Nat) (a1 : Int32 × Int32 × Mem) : Option ((Int32 × Int32 × Mem) ⊕ (Int32 × Mem)) :=
  if (4 : Int32) ≤ a1.1 then
 (oR (some (a1.2.1, a1.2.2))) else
 (obd (fX8_say a1.2.2 (i0 + 350) (i0 + 3) ((i0 + 3) + 7) a1.1 (a1.2.2 ((i0 + 3) + 7) 2)) (fun q3 =>
 obd (fX11_firstOtherwise q3.2 i0 i1) (fun q5 =>
 if q5 = (-1 : Int32) then
 (bnd (a1.2.1 ||| ((1 : Int32) <<< (a1.1 &&& 31))) (fun x8 =>
 bnd (a1.1 + (1 : Int32)) (fun x9 =>
 oL (x9, x8, q3.2)))) else
 (bnd (a1.2.1 ||| (0 : Int32)) (fun x10 =>
 bnd (a1.1 + (1 : Int32)) (fun x11 =>
 oL (x11, x10, q3.2)))))))
def fX11_moodsTold (σ : Mem) (i0 : Nat) (i1 : Nat) : Option (Int32 × Mem) :=
  lp (sX11_moodsTold_4 i0 i1) FU ((0 : Int32), (0 : Int32), σ)

def sX11_numbersTold_4 (i0 : Nat) (i1 : Nat) (a1 : Int32 × Int32 × Mem) : Option ((Int32 × Int32 × Mem) ⊕ (Int32 × Mem)) :=
  if (8 : Int32) ≤ a1.1 then
 (oR (some (a1.2.1, a1.2.2))) else
 (obd (fX8_say a1.2.2 (i0 + 350) (i0 + 3) ((i0 + 3) + 7) (a1.2.2 ((i0 + 3) + 7) 1) a1.1) (fun q3 =>
 obd (fX11_firstOtherwise q3.2 i0 i1) (fun q5 =>
 if q5 = (-1 : Int32) then
 (bnd (a1.2.1 ||| ((1 : Int32) <<< (a1.1 &&& 31))) (fun x8 =>
 bnd (a1.1 + (1 : Int32)) (fun x9 =>
 oL (x9, x8, q3.2)))) else
 (bnd (a1.2.1 ||| (0 : Int32)) (fun x10 =>
 bnd (a1.1 + (1 : Int32)) (fun x11 =>
 oL (x11, x10, q3.2)))))))
def fX11_numbersTold (σ : Mem) (i0 : Nat) (i1 : Nat) : Option (Int32 × Mem) :=
  lp (sX11_numbersTold_4 i0 i1) FU ((0 : Int32), (0 : Int32), σ)


def fX11_sheetAt (σ : Mem) (i0 : Nat) (p1 : Int32) : Option (Option Nat) :=
  if p1 < 0 then
 (some none) else
 (if (nI (ln (i0 + 365))) ≤ p1 then
 (some none) else
 (grd (inb p1 (ln (i0 + 365))) (
 some (some ((i0 + 365) + 2 + 2 * ix p1)))))


def fX11_tells (σ : Mem) (i0 : Nat) (p1 : Int32) (p2 : Int32) : Option (Int32 × Mem) :=
  obd (fX11_sheetAt σ i0 p1) (fun q1 =>
 ocs q1 (
 some ((-2 : Int32), σ)) (fun w3 =>
 if p2 < 0 then
 (some ((-2 : Int32), σ)) else
 (if p2 ≤ (2 : Int32) then
 (obd (fX7_isMissing σ w3) (fun q6 =>
 if q6 = 0 then
 (if (σ w3 1) ≤ (6 : Int32) then
 (obd (fX11_sayDesk σ i0) (fun q10 =>
 if q10.1 = 0 then
 (some ((-3 : Int32), q10.2)) else
 (if p2 = 0 then
 (obd (fX11_firstOtherwise q10.2 i0 w3) (fun q14 =>
 some (q14, q10.2))) else
 (if p2 = (1 : Int32) then
 (obd (fX11_moodsTold q10.2 i0 w3) (fun q17 =>
 some (q17.1, q17.2))) else
 (obd (fX11_numbersTold q10.2 i0 w3) (fun q19 =>
 some (q19.1, q19.2))))))) else
 (some ((-2 : Int32), σ))) else
 (some ((-11 : Int32), σ)))) else
 (some ((-2 : Int32), σ)))))


def fX11_image (σ : Mem) (i0 : Nat) : Option (Int32 × Mem) :=
  obd (fX0_become σ (i0 + 172) (i0 + 3)) (fun q1 =>
 bnd (mw q1 i0 3 (1 : Int32)) (fun m3 =>
 some ((m3 (i0 + 172) 1), m3)))


def fX11_back (σ : Mem) (i0 : Nat) : Option (Int32 × Mem) :=
  if (σ i0 3) = 0 then
 (some ((-3 : Int32), σ)) else
 (obd (fX0_become σ (i0 + 3) (i0 + 172)) (fun q2 =>
 some ((q2 (i0 + 3) 1), q2)))


def fX11_count (σ : Mem) (i0 : Nat) (p1 : Int32) : Option (Int32 × Mem) :=
  if p1 = (0 : Int32) then
 (some ((σ (i0 + 3) 1), σ)) else
 (if p1 = (1 : Int32) then
 (some ((σ (i0 + 3) 5), σ)) else
 (if p1 = (2 : Int32) then
 (obd (fX5_words σ ((i0 + 3) + 5)) (fun q4 =>
 some (q4, σ))) else
 (if p1 = (3 : Int32) then
 (obd (fX11_sayDesk σ i0) (fun q7 =>
 some ((q7.2 ((i0 + 350) + 3) 1), q7.2))) else
 (if p1 = (4 : Int32) then
 (some ((σ (i0 + 1) 1), σ)) else
 (some ((-2 : Int32), σ))))))


def fX11_sheet (σ : Mem) (i0 : Nat) (p1 : Int32) (p2 : Int32) (p3 : Int32) : Option (Int32 × Mem) :=
  obd (fX11_sheetAt σ i0 p1) (fun q1 =>
 ocs q1 (
 some ((-2 : Int32), σ)) (fun w3 =>
 if p2 < (-1 : Int32) then
 (some ((-2 : Int32), σ)) else
 (if p2 ≤ (1 : Int32) then
 (if p2 = (-1 : Int32) then
 (obd (fX7_begin σ w3 (-1 : Int32) (0 : Int32)) (fun q7 =>
 some ((1 : Int32), q7))) else
 (if p3 ≤ (40 : Int32) then
 (if 0 ≤ p3 then
 (obd (fX7_begin σ w3 p2 p3) (fun q11 =>
 some ((1 : Int32), q11))) else
 (some ((-14 : Int32), σ))) else
 (some ((-2 : Int32), σ)))) else
 (some ((-2 : Int32), σ)))))


def fX11_put (σ : Mem) (i0 : Nat) (p1 : Int32) (p2 : Int32) (p3 : Int32) : Option (Int32 × Mem) :=
  obd (fX11_sheetAt σ i0 p1) (fun q1 =>
 ocs q1 (
 some ((-2 : Int32), σ)) (fun w3 =>
 obd (fX7_isMissing σ w3) (fun q4 =>
 if q4 = 0 then
 (obd (fX7_hasRun σ w3 p2 (1 : Int32)) (fun q7 =>
 if q7 = 0 then
 (some ((-12 : Int32), σ)) else
 (obd (fX7_set σ w3 p2 p3) (fun q10 =>
 some ((1 : Int32), q10))))) else
 (some ((-11 : Int32), σ)))))


def fX11_copy (σ : Mem) (i0 : Nat) (p1 : Int32) (p2 : Int32) (p3 : Int32) (p4 : Int32) (p5 : Int32) : Option (Int32 × Mem) :=
  obd (fX11_sheetAt σ i0 p1) (fun q1 =>
 ocs q1 (
 obd (fX11_sheetAt σ i0 p3) (fun q4 =>
 ocs q4 (
 some ((-2 : Int32), σ)) (fun w6 =>
 some ((-2 : Int32), σ)))) (fun w3 =>
 obd (fX11_sheetAt σ i0 p3) (fun q7 =>
 ocs q7 (
 some ((-2 : Int32), σ)) (fun w9 =>
 obd (fX7_isMissing σ w3) (fun q10 =>
 if q10 = 0 then
 (obd (fX7_isMissing σ w9) (fun q13 =>
 if q13 = 0 then
 (if (σ w3 0) = (σ w9 0) then
 (obd (fX7_hasRun σ w3 p2 p5) (fun q17 =>
 if q17 = 0 then
 (some ((-12 : Int32), σ)) else
 (obd (fX7_hasRun σ w9 p4 p5) (fun q20 =>
 if q20 = 0 then
 (some ((-12 : Int32), σ)) else
 (obd (fX7_take σ w9 p4 w3 p2 p5) (fun q23 =>
 some (p5, q23))))))) else
 (some ((-13 : Int32), σ))) else
 (some ((-11 : Int32), σ)))) else
 (some ((-11 : Int32), σ)))))))


def fX12_isIn (σ : Mem) (p0 : Int32) (p1 : Int32) (p2 : Int32) : Option Int32 :=
  if p0 < p1 then
 (some (0 : Int32)) else
 (if p2 < p0 then
 (some (0 : Int32)) else
 (some (1 : Int32)))


def fX12_isWord (σ : Mem) (i0 : Nat) (p1 : Int32) : Option Int32 :=
  grd (inb (0 : Int32) (ln (i0 + 1))) (
 obd (fX12_isIn σ p1 (0 : Int32) ((σ (i0 + 1) (ix (0 : Int32))) - (1 : Int32))) (fun q1 =>
 some q1))


def fX12_isVowel (σ : Mem) (p0 : Int32) : Option Int32 :=
  if p0 = (97 : Int32) then
 (some (1 : Int32)) else
 (if p0 = (101 : Int32) then
 (some (1 : Int32)) else
 (if p0 = (105 : Int32) then
 (some (1 : Int32)) else
 (if p0 = (111 : Int32) then
 (some (1 : Int32)) else
 (if p0 = (117 : Int32) then
 (some (1 : Int32)) else
 (some (0 : Int32))))))


def fX12_kind (σ : Mem) (i0 : Nat) (p1 : Int32) : Option Int32 :=
  grd (inb ((14 : Int32) + ((10 : Int32) * p1)) (ln (i0 + 1))) (
 some (σ (i0 + 1) (ix ((14 : Int32) + ((10 : Int32) * p1)))))


def fX12_gender (σ : Mem) (i0 : Nat) (p1 : Int32) : Option Int32 :=
  grd (inb (((14 : Int32) + ((10 : Int32) * p1)) + (2 : Int32)) (ln (i0 + 1))) (
 some (σ (i0 + 1) (ix (((14 : Int32) + ((10 : Int32) * p1)) + (2 : Int32)))))


def fX12_above (σ : Mem) (p0 : Int32) : Option Int32 :=
  if p0 = 0 then
 (some (-1 : Int32)) else
 (if (3 : Int32) ≤ p0 then
 (if (5 : Int32) ≤ p0 then
 (some (2 : Int32)) else
 (some (1 : Int32))) else
 (some (0 : Int32)))

def sX12_isUnder_2 (σ : Mem) (p1 : Int32) (a1 : Int32) : Option ((Int32) ⊕ Int32) :=
  bnd (fun (y2 : Unit) =>
 oR (if a1 = p1 then
 (some (1 : Int32)) else
 (some (0 : Int32)))) (fun k2 =>
 if a1 < 0 then
 (k2 ()) else
 (if a1 = p1 then
 (k2 ()) else
 (obd (fX12_above σ a1) (fun q6 =>
 oL q6))))
def fX12_isUnder (σ : Mem) (p0 : Int32) (p1 : Int32) : Option Int32 :=
  lp (sX12_isUnder_2 σ p1) FU p0

def sX12_feed_87 (i0 : Nat) (p1 : Int32) (p2 : Int32) (p3 : Int32) (p4 : Int32) (p5 : Int32) (p6 : Int32) (a20 : Int32 × Mem) : Option ((Int32 × Mem) ⊕ (Int32 × Mem)) :=
  if p1 ≤ a20.1 then
 (oR (bnd (mw a20.2 i0 4 ((a20.2 i0 4) + p1)) (fun m22 =>
 some ((m22 i0 4), m22)))) else
 (bnd (fun (y23 : Int32) =>
 grd (inb ((a20.2 i0 4) + a20.1) (ln (i0 + 3))) (bnd (mw a20.2 (i0 + 3) (ix ((a20.2 i0 4) + a20.1)) y23) (fun m24 =>
 bnd (a20.1 + (1 : Int32)) (fun x25 =>
 oL (x25, m24))))) (fun k23 =>
 if a20.1 = 0 then
 (k23 p2) else
 (if a20.1 = (1 : Int32) then
 (k23 p3) else
 (if a20.1 = (2 : Int32) then
 (k23 p4) else
 (if a20.1 = (3 : Int32) then
 (k23 p5) else
 (k23 p6))))))
def fX12_feed (σ : Mem) (i0 : Nat) (p1 : Int32) (p2 : Int32) (p3 : Int32) (p4 : Int32) (p5 : Int32) (p6 : Int32) : Option (Int32 × Mem) :=
  obd (fX12_isIn σ p1 (1 : Int32) (5 : Int32)) (fun q1 =>
 if q1 = 0 then
 (some ((-2 : Int32), σ)) else
 (obd (fX12_isIn σ p2 (0 : Int32) (255 : Int32)) (fun q4 =>
 if q4 = 0 then
 (some ((-2 : Int32), σ)) else
 (obd (fX12_isIn σ p3 (0 : Int32) (255 : Int32)) (fun q7 =>
 if q7 = 0 then
 (some ((-2 : Int32), σ)) else
 (obd (fX12_isIn σ p4 (0 : Int32) (255 : Int32)) (fun q10 =>
 if q10 = 0 then
 (some ((-2 : Int32), σ)) else
 (obd (fX12_isIn σ p5 (0 : Int32) (255 : Int32)) (fun q13 =>
 if q13 = 0 then
 (some ((-2 : Int32), σ)) else
 (obd (fX12_isIn σ p6 (0 : Int32) (255 : Int32)) (fun q16 =>
 if q16 = 0 then
 (some ((-2 : Int32), σ)) else
 (if ((σ i0 4) + p1) ≤ (50 : Int32) then
 (lp (sX12_feed_87 i0 p1 p2 p3 p4 p5 p6) FU ((0 : Int32), σ)) else
 (some ((-4 : Int32), σ))))))))))))))

def sX12_letters_24 (i0 : Nat) (x1 : Int32) (m2 : Mem) (a6 : Int32) : Option ((Int32) ⊕ (Int32 × Mem)) :=
  if x1 ≤ a6 then
 (oR (some (x1, m2))) else
 (grd (inb a6 (ln (i0 + 3))) (
 obd (fX12_isIn m2 (m2 (i0 + 3) (ix a6)) (97 : Int32) (122 : Int32)) (fun q8 =>
 if q8 = 0 then
 (oR (some ((-1 : Int32), m2))) else
 (bnd (a6 + (1 : Int32)) (fun x11 =>
 oL x11)))))
def fX12_letters (σ : Mem) (i0 : Nat) (p1 : Int32) (p2 : Int32) : Option (Int32 × Mem) :=
  bnd (σ i0 4) (fun x1 =>
 bnd (mw σ i0 4 (0 : Int32)) (fun m2 =>
 obd (fX12_isIn m2 x1 p1 p2) (fun q3 =>
 if q3 = 0 then
 (some ((-1 : Int32), m2)) else
 (lp (sX12_letters_24 i0 x1 m2) FU (0 : Int32)))))

def sX12_word_117 (i0 : Nat) (q10 : (Int32 × Mem)) (x14 : Int32) (a19 : Int32 × Mem) : Option ((Int32 × Mem) ⊕ (Int32 × Mem)) :=
  if q10.1 ≤ a19.1 then
 (oR (grd (inb (0 : Int32) (ln (i0 + 1))) (
 grd (inb (0 : Int32) (ln (i0 + 1))) (bnd (mw a19.2 (i0 + 1) (ix (0 : Int32)) ((a19.2 (i0 + 1) (ix (0 : Int32))) + (1 : Int32))) (fun m21 =>
 grd (inb (0 : Int32) (ln (i0 + 1))) (
 some (((m21 (i0 + 1) (ix (0 : Int32))) - (1 : Int32)), m21))))))) else
 (grd (inb a19.1 (ln (i0 + 3))) (
 grd (inb ((x14 + (4 : Int32)) + a19.1) (ln (i0 + 1))) (bnd (mw a19.2 (i0 + 1) (ix ((x14 + (4 : Int32)) + a19.1)) (a19.2 (i0 + 3) (ix a19.1))) (fun m22 =>
 bnd (a19.1 + (1 : Int32)) (fun x23 =>
 oL (x23, m22))))))
def fX12_word (σ : Mem) (i0 : Nat) (p1 : Int32) (p2 : Int32) (p3 : Int32) : Option (Int32 × Mem) :=
  obd (fX12_isIn σ p1 (0 : Int32) (5 : Int32)) (fun q1 =>
 if q1 = 0 then
 (some ((-2 : Int32), σ)) else
 (obd (fX12_isIn σ p2 (0 : Int32) (3 : Int32)) (fun q4 =>
 if q4 = 0 then
 (some ((-2 : Int32), σ)) else
 (obd (fX12_isIn σ p3 (0 : Int32) (2 : Int32)) (fun q7 =>
 if q7 = 0 then
 (some ((-2 : Int32), σ)) else
 (obd (fX12_letters σ i0 (1 : Int32) (6 : Int32)) (fun q10 =>
 if 0 ≤ q10.1 then
 (grd (inb (0 : Int32) (ln (i0 + 1))) (
 if (q10.2 (i0 + 1) (ix (0 : Int32))) = (20 : Int32) then
 (some ((-4 : Int32), q10.2)) else
 (grd (inb (0 : Int32) (ln (i0 + 1))) (
 bnd ((14 : Int32) + ((10 : Int32) * (q10.2 (i0 + 1) (ix (0 : Int32))))) (fun x14 =>
 grd (inb x14 (ln (i0 + 1))) (bnd (mw q10.2 (i0 + 1) (ix x14) p1) (fun m15 =>
 grd (inb (x14 + (1 : Int32)) (ln (i0 + 1))) (bnd (mw m15 (i0 + 1) (ix (x14 + (1 : Int32))) p2) (fun m16 =>
 grd (inb (x14 + (2 : Int32)) (ln (i0 + 1))) (bnd (mw m16 (i0 + 1) (ix (x14 + (2 : Int32))) p3) (fun m17 =>
 grd (inb (x14 + (3 : Int32)) (ln (i0 + 1))) (bnd (mw m17 (i0 + 1) (ix (x14 + (3 : Int32))) q10.1) (fun m18 =>
 lp (sX12_word_117 i0 q10 x14) FU ((0 : Int32), m18)))))))))))))) else
 (some ((-3 : Int32), q10.2)))))))))


def fX12_endAt (σ : Mem) (p0 : Int32) (p1 : Int32) (p2 : Int32) : Option Int32 :=
  some ((214 : Int32) + ((4 : Int32) * (((2 : Int32) * (((4 : Int32) * p0) + p1)) + p2)))

def sX12_ending_75 (i0 : Nat) (q10 : (Int32 × Mem)) (q13 : Int32) (x15 : Int32) (a17 : Int32 × Mem) : Option ((Int32 × Mem) ⊕ (Int32 × Mem)) :=
  if q10.1 ≤ a17.1 then
 (oR (some (x15, a17.2))) else
 (grd (inb a17.1 (ln (i0 + 3))) (
 grd (inb ((q13 + (1 : Int32)) + a17.1) (ln (i0 + 1))) (bnd (mw a17.2 (i0 + 1) (ix ((q13 + (1 : Int32)) + a17.1)) (a17.2 (i0 + 3) (ix a17.1))) (fun m19 =>
 bnd (a17.1 + (1 : Int32)) (fun x20 =>
 oL (x20, m19))))))
def fX12_ending (σ : Mem) (i0 : Nat) (p1 : Int32) (p2 : Int32) (p3 : Int32) : Option (Int32 × Mem) :=
  obd (fX12_isIn σ p1 (0 : Int32) (3 : Int32)) (fun q1 =>
 if q1 = 0 then
 (some ((-2 : Int32), σ)) else
 (obd (fX12_isIn σ p2 (0 : Int32) (3 : Int32)) (fun q4 =>
 if q4 = 0 then
 (some ((-2 : Int32), σ)) else
 (obd (fX12_isIn σ p3 (0 : Int32) (1 : Int32)) (fun q7 =>
 if q7 = 0 then
 (some ((-2 : Int32), σ)) else
 (obd (fX12_letters σ i0 (0 : Int32) (3 : Int32)) (fun q10 =>
 if 0 ≤ q10.1 then
 (obd (fX12_endAt q10.2 p1 p2 p3) (fun q13 =>
 grd (inb q13 (ln (i0 + 1))) (
 bnd (q10.2 (i0 + 1) (ix q13)) (fun x15 =>
 grd (inb q13 (ln (i0 + 1))) (bnd (mw q10.2 (i0 + 1) (ix q13) q10.1) (fun m16 =>
 lp (sX12_ending_75 i0 q10 q13 x15) FU ((0 : Int32), m16))))))) else
 (some ((-3 : Int32), q10.2)))))))))


def fX12_joins (σ : Mem) (i0 : Nat) (p1 : Int32) (p2 : Int32) : Option Mem :=
  bnd (fun (y1 : Mem) =>
 grd (inb (y1 i0 6) (ln (i0 + 4))) (bnd (mw y1 (i0 + 4) (ix (y1 i0 6)) p1) (fun m2 =>
 bnd (mw m2 i0 6 ((m2 i0 6) + (1 : Int32))) (fun m3 =>
 some m3)))) (fun k1 =>
 if p2 = 0 then
 (k1 σ) else
 (if (σ i0 6) ≤ 0 then
 (k1 σ) else
 (obd (fX12_isVowel σ p1) (fun q6 =>
 if q6 = 0 then
 (k1 σ) else
 (grd (inb ((σ i0 6) - (1 : Int32)) (ln (i0 + 4))) (
 obd (fX12_isVowel σ (σ (i0 + 4) (ix ((σ i0 6) - (1 : Int32))))) (fun q9 =>
 if q9 = 0 then
 (k1 σ) else
 (bnd (mw σ i0 6 ((σ i0 6) - (1 : Int32))) (fun m12 =>
 k1 m12)))))))))

def sX12_ends_2 (i0 : Nat) (p1 : Int32) (a1 : Int32 × Mem) : Option ((Int32 × Mem) ⊕ Mem) :=
  grd (inb p1 (ln (i0 + 1))) (
 if (a1.2 (i0 + 1) (ix p1)) ≤ a1.1 then
 (oR (some a1.2)) else
 (grd (inb ((p1 + (1 : Int32)) + a1.1) (ln (i0 + 1))) (
 bnd (fun (y3 : Int32) =>
 obd (fX12_joins a1.2 i0 (a1.2 (i0 + 1) (ix ((p1 + (1 : Int32)) + a1.1))) y3) (fun q4 =>
 bnd (a1.1 + (1 : Int32)) (fun x6 =>
 oL (x6, q4)))) (fun k3 =>
 if a1.1 = 0 then
 (k3 (1 : Int32)) else
 (k3 (0 : Int32))))))
def fX12_ends (σ : Mem) (i0 : Nat) (p1 : Int32) : Option Mem :=
  lp (sX12_ends_2 i0 p1) FU ((0 : Int32), σ)

def sX12_forms_26 (i0 : Nat) (p2 : Int32) (p3 : Int32) (p4 : Int32) (p5 : Int32) (x1 : Int32) (x2 : Int32) (a4 : Int32 × Mem) : Option ((Int32 × Mem) ⊕ Mem) :=
  grd (inb (x1 + (3 : Int32)) (ln (i0 + 1))) (
 if (a4.2 (i0 + 1) (ix (x1 + (3 : Int32)))) ≤ a4.1 then
 (oR (bnd (fun (y6 : Mem) =>
 bnd (fun (y7 : Mem) =>
 bnd (fun (y8 : Mem) =>
 bnd (fun (y9 : Mem) =>
 if x2 = (5 : Int32) then
 (if p5 = 0 then
 (some y9) else
 (grd (inb ((y9 i0 6) - (1 : Int32)) (ln (i0 + 4))) (
 obd (fX12_joins y9 i0 (y9 (i0 + 4) (ix ((y9 i0 6) - (1 : Int32)))) (0 : Int32)) (fun q12 =>
 some q12)))) else
 (some y9)) (fun k9 =>
 if x2 = (4 : Int32) then
 (bnd (fun (y15 : Int32) =>
 obd (fX12_joins y8 i0 y15 (1 : Int32)) (fun q16 =>
 k9 q16)) (fun k15 =>
 if p4 = 0 then
 (k15 (111 : Int32)) else
 (if p4 = (1 : Int32) then
 (k15 (97 : Int32)) else
 (k15 (101 : Int32))))) else
 (k9 y8))) (fun k8 =>
 bnd (fun (y20 : Unit) =>
 grd (inb (x1 + (1 : Int32)) (ln (i0 + 1))) (
 obd (fX12_endAt y7 (y7 (i0 + 1) (ix (x1 + (1 : Int32)))) p5 p3) (fun q21 =>
 obd (fX12_ends y7 i0 q21) (fun q23 =>
 k8 q23)))) (fun k20 =>
 if x2 = (2 : Int32) then
 (k20 ()) else
 (if x2 = (5 : Int32) then
 (k20 ()) else
 (k8 y7))))) (fun k7 =>
 if x2 = (3 : Int32) then
 (grd (inb (x1 + (1 : Int32)) (ln (i0 + 1))) (
 obd (fX12_endAt y6 (y6 (i0 + 1) (ix (x1 + (1 : Int32)))) p2 (0 : Int32)) (fun q28 =>
 obd (fX12_ends y6 i0 q28) (fun q30 =>
 k7 q30)))) else
 (k7 y6))) (fun k6 =>
 bnd (fun (y32 : Unit) =>
 grd (inb (x1 + (1 : Int32)) (ln (i0 + 1))) (
 obd (fX12_endAt a4.2 (a4.2 (i0 + 1) (ix (x1 + (1 : Int32)))) p2 p3) (fun q33 =>
 obd (fX12_ends a4.2 i0 q33) (fun q35 =>
 k6 q35)))) (fun k32 =>
 if x2 = (1 : Int32) then
 (k32 ()) else
 (if x2 = (4 : Int32) then
 (k32 ()) else
 (k6 a4.2)))))) else
 (grd (inb ((x1 + (4 : Int32)) + a4.1) (ln (i0 + 1))) (
 obd (fX12_joins a4.2 i0 (a4.2 (i0 + 1) (ix ((x1 + (4 : Int32)) + a4.1))) (0 : Int32)) (fun q39 =>
 bnd (a4.1 + (1 : Int32)) (fun x41 =>
 oL (x41, q39))))))
def fX12_forms (σ : Mem) (i0 : Nat) (p1 : Int32) (p2 : Int32) (p3 : Int32) (p4 : Int32) (p5 : Int32) : Option Mem :=
  bnd ((14 : Int32) + ((10 : Int32) * p1)) (fun x1 =>
 grd (inb x1 (ln (i0 + 1))) (
 bnd (σ (i0 + 1) (ix x1)) (fun x2 =>
 bnd (mw σ i0 6 (0 : Int32)) (fun m3 =>
 lp (sX12_forms_26 i0 p2 p3 p4 p5 x1 x2) FU ((0 : Int32), m3)))))


def fX12_told (σ : Mem) (i0 : Nat) (p1 : Int32) (p2 : Int32) : Option Int32 :=
  obd (fX12_isWord σ i0 p1) (fun q1 =>
 if q1 = 0 then
 (some (-2 : Int32)) else
 (obd (fX12_isIn σ p2 (0 : Int32) (3 : Int32)) (fun q4 =>
 if q4 = 0 then
 (some (-2 : Int32)) else
 (grd (inb (((14 : Int32) + ((10 : Int32) * p1)) + p2) (ln (i0 + 1))) (
 some (σ (i0 + 1) (ix (((14 : Int32) + ((10 : Int32) * p1)) + p2))))))))


def fX12_taken (σ : Mem) (i0 : Nat) (p1 : Int32) (p2 : Int32) : Option (Int32 × Mem) :=
  obd (fX12_isWord σ i0 p1) (fun q1 =>
 if q1 = 0 then
 (some ((-2 : Int32), σ)) else
 (obd (fX12_isIn σ p2 (0 : Int32) (5 : Int32)) (fun q4 =>
 if q4 = 0 then
 (some ((-2 : Int32), σ)) else
 (obd (fX12_kind σ i0 p1) (fun q7 =>
 obd (fX12_isUnder σ q7 p2) (fun q9 =>
 if q9 = 0 then
 (some ((-13 : Int32), σ)) else
 (obd (fX12_gender σ i0 p1) (fun q12 =>
 obd (fX12_forms σ i0 p1 (1 : Int32) (1 : Int32) q12 (1 : Int32)) (fun q14 =>
 some ((q14 i0 6), q14))))))))))


def fX12_form (σ : Mem) (i0 : Nat) (p1 : Int32) (p2 : Int32) (p3 : Int32) : Option (Int32 × Mem) :=
  obd (fX12_isWord σ i0 p1) (fun q1 =>
 if q1 = 0 then
 (some ((-2 : Int32), σ)) else
 (obd (fX12_isIn σ p2 (0 : Int32) (95 : Int32)) (fun q4 =>
 if q4 = 0 then
 (some ((-2 : Int32), σ)) else
 (obd (fX12_forms σ i0 p1 (irm p2 (4 : Int32)) (irm (p2 / (4 : Int32)) (2 : Int32)) (irm (p2 / (8 : Int32)) (3 : Int32)) (p2 / (24 : Int32))) (fun q7 =>
 if p3 = (-1 : Int32) then
 (some ((q7 i0 6), q7)) else
 (obd (fX12_isIn q7 p3 (0 : Int32) ((q7 i0 6) - (1 : Int32))) (fun q10 =>
 if q10 = 0 then
 (some ((-12 : Int32), q7)) else
 (grd (inb p3 (ln (i0 + 4))) (
 some ((q7 (i0 + 4) (ix p3)), q7))))))))))


def fX12_holes (σ : Mem) (i0 : Nat) (p1 : Int32) : Option Int32 :=
  grd (inb ((342 : Int32) + ((25 : Int32) * p1)) (ln (i0 + 1))) (
 some (σ (i0 + 1) (ix ((342 : Int32) + ((25 : Int32) * p1)))))


def fX12_ofHole (σ : Mem) (i0 : Nat) (p1 : Int32) (p2 : Int32) (p3 : Int32) : Option Int32 :=
  grd (inb (((((342 : Int32) + ((25 : Int32) * p1)) + (1 : Int32)) + ((4 : Int32) * p2)) + p3) (ln (i0 + 1))) (
 some (σ (i0 + 1) (ix (((((342 : Int32) + ((25 : Int32) * p1)) + (1 : Int32)) + ((4 : Int32) * p2)) + p3))))


def fX12_canBe (σ : Mem) (i0 : Nat) (p1 : Int32) (p2 : Int32) (p3 : Int32) : Option Int32 :=
  obd (fX12_ofHole σ i0 p1 p2 (0 : Int32)) (fun q1 =>
 obd (fX12_kind σ i0 p3) (fun q3 =>
 if q1 = (110 : Int32) then
 (if q3 = (1 : Int32) then
 (some (1 : Int32)) else
 (if q3 = (3 : Int32) then
 (some (1 : Int32)) else
 (some (0 : Int32)))) else
 (if q1 = (118 : Int32) then
 (if q3 = (2 : Int32) then
 (some (1 : Int32)) else
 (if q3 = (5 : Int32) then
 (some (1 : Int32)) else
 (some (0 : Int32)))) else
 (if q1 = (102 : Int32) then
 (if q3 = (4 : Int32) then
 (some (1 : Int32)) else
 (some (0 : Int32))) else
 (obd (fX12_ofHole σ i0 p1 p2 (3 : Int32)) (fun q13 =>
 if p3 = q13 then
 (some (1 : Int32)) else
 (some (0 : Int32))))))))


def fX12_here (σ : Mem) (i0 : Nat) (p1 : Int32) : Option Int32 :=
  if (σ i0 4) ≤ p1 then
 (some (-1 : Int32)) else
 (grd (inb p1 (ln (i0 + 3))) (
 some (σ (i0 + 3) (ix p1))))


def fX12_isDigit (σ : Mem) (i0 : Nat) (p1 : Int32) (p2 : Int32) : Option Int32 :=
  obd (fX12_here σ i0 p1) (fun q1 =>
 obd (fX12_isIn σ q1 (48 : Int32) ((48 : Int32) + p2)) (fun q3 =>
 some q3))


def fX12_isBlank (σ : Mem) (p0 : Int32) : Option Int32 :=
  if p0 = (32 : Int32) then
 (some (1 : Int32)) else
 (if p0 = (10 : Int32) then
 (some (1 : Int32)) else
 (some (0 : Int32)))


def fX12_readsWord (σ : Mem) (i0 : Nat) (p1 : Int32) : Option Mem :=
  bnd (σ i0 8) (fun x1 =>
 obd (fX12_here σ i0 x1) (fun q2 =>
 bnd (q2 - (48 : Int32)) (fun x4 =>
 bnd (mw σ i0 8 ((σ i0 8) + (1 : Int32))) (fun m5 =>
 obd (fX12_isDigit m5 i0 (m5 i0 8) (9 : Int32)) (fun q6 =>
 bnd (fun (y8 : Int32 × Mem) =>
 grd (inb (p1 + (3 : Int32)) (ln (i0 + 1))) (bnd (mw y8.2 (i0 + 1) (ix (p1 + (3 : Int32))) y8.1) (fun m9 =>
 obd (fX12_isWord m9 i0 y8.1) (fun q10 =>
 bnd (fun (y12 : Unit) =>
 bnd (mw m9 i0 7 x1) (fun m13 =>
 some m13)) (fun k12 =>
 if q10 = 0 then
 (k12 ()) else
 (obd (fX12_kind m9 i0 y8.1) (fun q15 =>
 if q15 = 0 then
 (some m9) else
 (k12 ())))))))) (fun k8 =>
 if q6 = 0 then
 (k8 (x4, m5)) else
 (obd (fX12_here m5 i0 (m5 i0 8)) (fun q19 =>
 bnd ((((10 : Int32) * x4) + q19) - (48 : Int32)) (fun x21 =>
 bnd (mw m5 i0 8 ((m5 i0 8) + (1 : Int32))) (fun m22 =>
 k8 (x21, m22)))))))))))


def fX12_reads (σ : Mem) (i0 : Nat) (p1 : Int32) (p2 : Int32) (p3 : Int32) : Option Mem :=
  obd (fX12_here σ i0 p2) (fun q1 =>
 grd (inb p1 (ln (i0 + 1))) (bnd (mw σ (i0 + 1) (ix p1) q1) (fun m3 =>
 grd (inb (p1 + (1 : Int32)) (ln (i0 + 1))) (bnd (mw m3 (i0 + 1) (ix (p1 + (1 : Int32))) (-1 : Int32)) (fun m4 =>
 grd (inb (p1 + (2 : Int32)) (ln (i0 + 1))) (bnd (mw m4 (i0 + 1) (ix (p1 + (2 : Int32))) (-1 : Int32)) (fun m5 =>
 grd (inb (p1 + (3 : Int32)) (ln (i0 + 1))) (bnd (mw m5 (i0 + 1) (ix (p1 + (3 : Int32))) (-1 : Int32)) (fun m6 =>
 bnd (mw m6 i0 8 (p2 + (1 : Int32))) (fun m7 =>
 if q1 = (112 : Int32) then
 (obd (fX12_isDigit m7 i0 (m7 i0 8) (9 : Int32)) (fun q9 =>
 if q9 = 0 then
 (bnd (mw m7 i0 7 (m7 i0 8)) (fun m12 =>
 some m12)) else
 (obd (fX12_readsWord m7 i0 p1) (fun q13 =>
 some q13)))) else
 (obd (fX12_isDigit m7 i0 (m7 i0 8) (2 : Int32)) (fun q15 =>
 bnd (fun (y17 : Unit) =>
 bnd (mw m7 i0 7 (m7 i0 8)) (fun m18 =>
 some m18)) (fun k17 =>
 if q15 = 0 then
 (k17 ()) else
 (bnd (fun (y20 : Unit) =>
 obd (fX12_here m7 i0 (m7 i0 8)) (fun q21 =>
 grd (inb (p1 + (1 : Int32)) (ln (i0 + 1))) (bnd (mw m7 (i0 + 1) (ix (p1 + (1 : Int32))) (q21 - (48 : Int32))) (fun m23 =>
 bnd (mw m23 i0 8 ((m23 i0 8) + (1 : Int32))) (fun m24 =>
 if q1 = (118 : Int32) then
 (some m24) else
 (obd (fX12_isDigit m24 i0 (m24 i0 8) (3 : Int32)) (fun q26 =>
 if q26 = 0 then
 (bnd (mw m24 i0 7 (m24 i0 8)) (fun m29 =>
 some m29)) else
 (obd (fX12_here m24 i0 (m24 i0 8)) (fun q30 =>
 grd (inb (p1 + (2 : Int32)) (ln (i0 + 1))) (bnd (mw m24 (i0 + 1) (ix (p1 + (2 : Int32))) (q30 - (48 : Int32))) (fun m32 =>
 bnd (mw m32 i0 8 ((m32 i0 8) + (1 : Int32))) (fun m33 =>
 some m33)))))))))))) (fun k20 =>
 if q1 = (110 : Int32) then
 (obd (fX12_here m7 i0 (m7 i0 8)) (fun q35 =>
 if ((p3 >>> ((q35 - (48 : Int32)) &&& 31)) &&& (1 : Int32)) = (1 : Int32) then
 (k17 ()) else
 (k20 ()))) else
 (k20 ()))))))))))))))))

def sX12_readsFrame_15 (i0 : Nat) (p1 : Int32) (a2 : Int32 × Int32 × Int32 × Int32 × Mem) : Option ((Int32 × Int32 × Int32 × Int32 × Mem) ⊕ Mem) :=
  bnd (fun (y3 : Unit) =>
 oR (grd (inb p1 (ln (i0 + 1))) (bnd (mw a2.2.2.2.2 (i0 + 1) (ix p1) a2.2.2.2.1) (fun m4 =>
 bnd (fun (y5 : Unit) =>
 bnd (mw m4 i0 7 (m4 i0 4)) (fun m6 =>
 some m6)) (fun k5 =>
 if a2.2.2.2.1 = 0 then
 (k5 ()) else
 (if a2.1 = a2.2.1 then
 (some m4) else
 (k5 ()))))))) (fun k3 =>
 if (a2.2.2.2.2 i0 4) ≤ a2.2.2.1 then
 (k3 ()) else
 (if 0 ≤ (a2.2.2.2.2 i0 7) then
 (k3 ()) else
 (obd (fX12_here a2.2.2.2.2 i0 a2.2.2.1) (fun q11 =>
 obd (fX12_isBlank a2.2.2.2.2 q11) (fun q13 =>
 if q13 = 0 then
 (bnd (fun (y16 : Unit) =>
 oR (bnd (mw a2.2.2.2.2 i0 7 a2.2.2.1) (fun m17 =>
 some m17))) (fun k16 =>
 if a2.2.2.2.1 = (6 : Int32) then
 (k16 ()) else
 (bnd (fun (y19 : Unit) =>
 bnd ((p1 + (1 : Int32)) + ((4 : Int32) * a2.2.2.2.1)) (fun x20 =>
 obd (fX12_reads a2.2.2.2.2 i0 x20 a2.2.2.1 a2.2.1) (fun q21 =>
 if (q21 i0 7) < 0 then
 (grd (inb (x20 + (1 : Int32)) (ln (i0 + 1))) (
 bnd (q21 (i0 + 1) (ix (x20 + (1 : Int32)))) (fun x24 =>
 bnd (fun (y25 : Int32) =>
 if x24 < 0 then
 (bnd (a2.2.2.2.1 + (1 : Int32)) (fun x27 =>
 bnd (q21 i0 8) (fun x28 =>
 oL (a2.1, y25, x28, x27, q21)))) else
 (bnd (a2.1 ||| ((1 : Int32) <<< (x24 &&& 31))) (fun x29 =>
 bnd (a2.2.2.2.1 + (1 : Int32)) (fun x30 =>
 bnd (q21 i0 8) (fun x31 =>
 oL (x29, y25, x31, x30, q21)))))) (fun k25 =>
 if q11 = (110 : Int32) then
 (bnd (a2.2.1 ||| ((1 : Int32) <<< (x24 &&& 31))) (fun x33 =>
 k25 x33)) else
 (k25 a2.2.1))))) else
 (oR (some q21))))) (fun k19 =>
 if q11 = (110 : Int32) then
 (k19 ()) else
 (if q11 = (118 : Int32) then
 (k19 ()) else
 (if q11 = (102 : Int32) then
 (k19 ()) else
 (if q11 = (112 : Int32) then
 (k19 ()) else
 (k16 ())))))))) else
 (bnd (a2.2.2.1 + (1 : Int32)) (fun x38 =>
 oL (a2.1, a2.2.1, x38, a2.2.2.2.1, a2.2.2.2.2))))))))
def fX12_readsFrame (σ : Mem) (i0 : Nat) (p1 : Int32) : Option Mem :=
  bnd (mw σ i0 7 (-1 : Int32)) (fun m1 =>
 lp (sX12_readsFrame_15 i0 p1) FU ((0 : Int32), (0 : Int32), (0 : Int32), (0 : Int32), m1))

def sX12_frame_84 (i0 : Nat) (x2 : Int32) (a9 : Int32 × Mem) : Option ((Int32 × Mem) ⊕ (Int32 × Mem)) :=
  if (25 : Int32) ≤ a9.1 then
 (oR (if (a9.2 i0 7) < 0 then
 (some ((-4 : Int32), a9.2)) else
 (some (((-100 : Int32) - (a9.2 i0 7)), a9.2)))) else
 (grd (inb a9.1 (ln (i0 + 5))) (
 grd (inb (x2 + a9.1) (ln (i0 + 1))) (bnd (mw a9.2 (i0 + 1) (ix (x2 + a9.1)) (a9.2 (i0 + 5) (ix a9.1))) (fun m12 =>
 bnd (a9.1 + (1 : Int32)) (fun x13 =>
 oL (x13, m12))))))
def sX12_frame_22 (i0 : Nat) (x1 : Int32) (x2 : Int32) (a3 : Int32 × Mem) : Option ((Int32 × Mem) ⊕ (Int32 × Mem)) :=
  if (25 : Int32) ≤ a3.1 then
 (oR (obd (fX12_readsFrame a3.2 i0 x2) (fun q5 =>
 bnd (mw q5 i0 4 (0 : Int32)) (fun m7 =>
 bnd (fun (y8 : Unit) =>
 lp (sX12_frame_84 i0 x2) FU ((0 : Int32), m7)) (fun k8 =>
 if 0 ≤ (m7 i0 7) then
 (k8 ()) else
 (if (5 : Int32) ≤ x1 then
 (k8 ()) else
 (grd (inb (1 : Int32) (ln (i0 + 1))) (
 grd (inb (1 : Int32) (ln (i0 + 1))) (bnd (mw m7 (i0 + 1) (ix (1 : Int32)) ((m7 (i0 + 1) (ix (1 : Int32))) + (1 : Int32))) (fun m16 =>
 some (x1, m16))))))))))) else
 (grd (inb (x2 + a3.1) (ln (i0 + 1))) (
 grd (inb a3.1 (ln (i0 + 5))) (bnd (mw a3.2 (i0 + 5) (ix a3.1) (a3.2 (i0 + 1) (ix (x2 + a3.1)))) (fun m17 =>
 bnd (a3.1 + (1 : Int32)) (fun x18 =>
 oL (x18, m17))))))
def fX12_frame (σ : Mem) (i0 : Nat) : Option (Int32 × Mem) :=
  grd (inb (1 : Int32) (ln (i0 + 1))) (
 bnd (σ (i0 + 1) (ix (1 : Int32))) (fun x1 =>
 bnd ((342 : Int32) + ((25 : Int32) * (imn x1 (4 : Int32)))) (fun x2 =>
 lp (sX12_frame_22 i0 x1 x2) FU ((0 : Int32), σ))))


def fX12_isFrame (σ : Mem) (i0 : Nat) (p1 : Int32) : Option Int32 :=
  grd (inb (1 : Int32) (ln (i0 + 1))) (
 obd (fX12_isIn σ p1 (0 : Int32) ((σ (i0 + 1) (ix (1 : Int32))) - (1 : Int32))) (fun q1 =>
 some q1))

def sX12_able_5 (σ : Mem) (i0 : Nat) (p1 : Int32) (p2 : Int32) (a1 : Int32 × Int32) : Option ((Int32 × Int32) ⊕ Int32) :=
  grd (inb (0 : Int32) (ln (i0 + 1))) (
 if (σ (i0 + 1) (ix (0 : Int32))) ≤ a1.1 then
 (oR (some a1.2)) else
 (obd (fX12_canBe σ i0 p1 p2 a1.1) (fun q3 =>
 if q3 = 0 then
 (bnd (a1.2 + (0 : Int32)) (fun x6 =>
 bnd (a1.1 + (1 : Int32)) (fun x7 =>
 oL (x7, x6)))) else
 (bnd (a1.2 + (1 : Int32)) (fun x8 =>
 bnd (a1.1 + (1 : Int32)) (fun x9 =>
 oL (x9, x8)))))))
def fX12_able (σ : Mem) (i0 : Nat) (p1 : Int32) (p2 : Int32) : Option Int32 :=
  lp (sX12_able_5 σ i0 p1 p2) FU ((0 : Int32), (0 : Int32))


def fX12_hole (σ : Mem) (i0 : Nat) (p1 : Int32) (p2 : Int32) (p3 : Int32) : Option Int32 :=
  obd (fX12_isFrame σ i0 p1) (fun q1 =>
 if q1 = 0 then
 (some (-2 : Int32)) else
 (obd (fX12_isIn σ p3 (0 : Int32) (4 : Int32)) (fun q4 =>
 if q4 = 0 then
 (some (-2 : Int32)) else
 (obd (fX12_holes σ i0 p1) (fun q7 =>
 obd (fX12_isIn σ p2 (0 : Int32) (q7 - (1 : Int32))) (fun q9 =>
 if q9 = 0 then
 (some (-12 : Int32)) else
 (if p3 = (4 : Int32) then
 (obd (fX12_able σ i0 p1 p2) (fun q13 =>
 some q13)) else
 (obd (fX12_ofHole σ i0 p1 p2 (0 : Int32)) (fun q15 =>
 if p3 ≤ 0 then
 (if q15 = (110 : Int32) then
 (some (0 : Int32)) else
 (if q15 = (118 : Int32) then
 (some (1 : Int32)) else
 (if q15 = (102 : Int32) then
 (some (2 : Int32)) else
 (some (3 : Int32))))) else
 (obd (fX12_ofHole σ i0 p1 p2 p3) (fun q21 =>
 some q21)))))))))))

def sX12_holeOf_2 (σ : Mem) (i0 : Nat) (p1 : Int32) (p2 : Int32) (a1 : Int32) : Option ((Int32) ⊕ Int32) :=
  obd (fX12_holes σ i0 p1) (fun q2 =>
 if q2 ≤ a1 then
 (oR (some (-1 : Int32))) else
 (obd (fX12_ofHole σ i0 p1 a1 (0 : Int32)) (fun q5 =>
 if q5 = (110 : Int32) then
 (obd (fX12_ofHole σ i0 p1 a1 (1 : Int32)) (fun q8 =>
 if q8 = p2 then
 (oR (some a1)) else
 (bnd (a1 + (1 : Int32)) (fun x11 =>
 oL x11)))) else
 (bnd (a1 + (1 : Int32)) (fun x12 =>
 oL x12)))))
def fX12_holeOf (σ : Mem) (i0 : Nat) (p1 : Int32) (p2 : Int32) : Option Int32 :=
  lp (sX12_holeOf_2 σ i0 p1 p2) FU (0 : Int32)

def sX12_isFilled_3 (σ : Mem) (i0 : Nat) (p1 : Int32) (p2 : Int32) (i3 : Nat) (a1 : Int32) : Option ((Int32) ⊕ Int32) :=
  obd (fX12_holes σ i0 p1) (fun q2 =>
 if q2 ≤ a1 then
 (oR (some (1 : Int32))) else
 (grd (inb (p2 + a1) (ln i3)) (
 if 0 ≤ (σ i3 (ix (p2 + a1))) then
 (bnd (a1 + (1 : Int32)) (fun x6 =>
 oL x6)) else
 (oR (some (0 : Int32))))))
def fX12_isFilled (σ : Mem) (i0 : Nat) (p1 : Int32) (p2 : Int32) (i3 : Nat) : Option Int32 :=
  lp (sX12_isFilled_3 σ i0 p1 p2 i3) FU (0 : Int32)


def fX12_formsAt (σ : Mem) (i0 : Nat) (p1 : Int32) (p2 : Int32) (p3 : Int32) (i4 : Nat) (p5 : Int32) (p6 : Int32) : Option Mem :=
  grd (inb (p3 + p2) (ln i4)) (
 bnd (σ i4 (ix (p3 + p2))) (fun x1 =>
 obd (fX12_ofHole σ i0 p1 p2 (1 : Int32)) (fun q2 =>
 if 0 ≤ q2 then
 (obd (fX12_holeOf σ i0 p1 q2) (fun q5 =>
 grd (inb (p3 + q5) (ln i4)) (
 bnd (σ i4 (ix (p3 + q5))) (fun x7 =>
 obd (fX12_ofHole σ i0 p1 p2 (2 : Int32)) (fun q8 =>
 obd (fX12_kind σ i0 x7) (fun q10 =>
 bnd (fun (y12 : Int32) =>
 obd (fX12_gender σ i0 x7) (fun q13 =>
 obd (fX12_forms σ i0 x1 (imx (0 : Int32) q8) y12 q13 p6) (fun q15 =>
 some q15))) (fun k12 =>
 if q10 = (3 : Int32) then
 (k12 (0 : Int32)) else
 (k12 ((p5 >>> (q2 &&& 31)) &&& (1 : Int32)))))))))) else
 (obd (fX12_forms σ i0 x1 (0 : Int32) (0 : Int32) (0 : Int32) (0 : Int32)) (fun q18 =>
 some q18)))))

def sX12_says_75 (i0 : Nat) (a6 : Int32 × Mem) (a13 : Int32 × Mem) : Option ((Int32 × Mem) ⊕ ((Int32 × Mem) ⊕ Mem)) :=
  if (a13.2 i0 6) ≤ a13.1 then
 (oR (bnd (mw a13.2 i0 13 ((a13.2 i0 13) + (a13.2 i0 6))) (fun m15 =>
 bnd (a6.1 + (1 : Int32)) (fun x16 =>
 oL (x16, m15))))) else
 (grd (inb a13.1 (ln (i0 + 4))) (
 grd (inb ((a13.2 i0 13) + a13.1) (ln (i0 + 6))) (bnd (mw a13.2 (i0 + 6) (ix ((a13.2 i0 13) + a13.1)) (a13.2 (i0 + 4) (ix a13.1))) (fun m17 =>
 bnd (a13.1 + (1 : Int32)) (fun x18 =>
 oL (x18, m17))))))
def sX12_says_23 (i0 : Nat) (p1 : Int32) (p2 : Int32) (i3 : Nat) (p4 : Int32) (p5 : Int32) (a6 : Int32 × Mem) : Option ((Int32 × Mem) ⊕ Mem) :=
  obd (fX12_holes a6.2 i0 p1) (fun q7 =>
 if q7 ≤ a6.1 then
 (oR (some a6.2)) else
 (bnd (fun (y10 : Mem) =>
 obd (fX12_formsAt y10 i0 p1 a6.1 p2 i3 p4 p5) (fun q11 =>
 lp (sX12_says_75 i0 a6) FU ((0 : Int32), q11))) (fun k10 =>
 if a6.1 ≤ 0 then
 (k10 a6.2) else
 (grd (inb (a6.2 i0 13) (ln (i0 + 6))) (bnd (mw a6.2 (i0 + 6) (ix (a6.2 i0 13)) (32 : Int32)) (fun m20 =>
 bnd (mw m20 i0 13 ((m20 i0 13) + (1 : Int32))) (fun m21 =>
 k10 m21)))))))
def fX12_says (σ : Mem) (i0 : Nat) (p1 : Int32) (p2 : Int32) (i3 : Nat) (p4 : Int32) (p5 : Int32) : Option Mem :=
  bnd (mw σ i0 13 (0 : Int32)) (fun m1 =>
 if p1 < 0 then
 (some m1) else
 (obd (fX12_isFilled m1 i0 p1 p2 i3) (fun q3 =>
 if q3 = 0 then
 (some m1) else
 (lp (sX12_says_23 i0 p1 p2 i3 p4 p5) FU ((0 : Int32), m1)))))


def fX12_numbers (σ : Mem) (i0 : Nat) : Option Int32 :=
  grd (inb (4 : Int32) (ln (i0 + 1))) (
 grd (inb (5 : Int32) (ln (i0 + 1))) (
 grd (inb (6 : Int32) (ln (i0 + 1))) (
 some (((σ (i0 + 1) (ix (4 : Int32))) ||| ((σ (i0 + 1) (ix (5 : Int32))) <<< ((1 : Int32) &&& 31))) ||| ((σ (i0 + 1) (ix (6 : Int32))) <<< ((2 : Int32) &&& 31))))))


def fX12_saysDesk (σ : Mem) (i0 : Nat) (p1 : Int32) (p2 : Int32) : Option Mem :=
  grd (inb (2 : Int32) (ln (i0 + 1))) (
 obd (fX12_says σ i0 (σ (i0 + 1) (ix (2 : Int32))) (7 : Int32) (i0 + 1) p1 p2) (fun q1 =>
 some q1))


def fX12_saysDesk_ (σ : Mem) (i0 : Nat) : Option Mem :=
  obd (fX12_numbers σ i0) (fun q1 =>
 grd (inb (3 : Int32) (ln (i0 + 1))) (
 obd (fX12_saysDesk σ i0 q1 (σ (i0 + 1) (ix (3 : Int32)))) (fun q3 =>
 some q3)))

def sX12_ableAt_6 (σ : Mem) (i0 : Nat) (p1 : Int32) (p2 : Int32) (a1 : Int32 × Int32) : Option ((Int32 × Int32) ⊕ Int32) :=
  grd (inb (0 : Int32) (ln (i0 + 1))) (
 if (σ (i0 + 1) (ix (0 : Int32))) ≤ a1.1 then
 (oR (some (-1 : Int32))) else
 (if a1.2 < 0 then
 (oR (some (-1 : Int32))) else
 (obd (fX12_canBe σ i0 p1 p2 a1.1) (fun q4 =>
 if q4 = 0 then
 (bnd (a1.1 + (1 : Int32)) (fun x7 =>
 oL (x7, a1.2))) else
 (if a1.2 = 0 then
 (oR (some a1.1)) else
 (bnd (a1.2 + (-1 : Int32)) (fun x9 =>
 bnd (a1.1 + (1 : Int32)) (fun x10 =>
 oL (x10, x9)))))))))
def fX12_ableAt (σ : Mem) (i0 : Nat) (p1 : Int32) (p2 : Int32) (p3 : Int32) : Option Int32 :=
  lp (sX12_ableAt_6 σ i0 p1 p2) FU ((0 : Int32), p3)

def sX12_desk_58 (i0 : Nat) (p1 : Int32) (a11 : Int32 × Mem) : Option ((Int32 × Mem) ⊕ (Int32 × Mem)) :=
  obd (fX12_holes a11.2 i0 p1) (fun q12 =>
 if q12 ≤ a11.1 then
 (oR (obd (fX12_holes a11.2 i0 p1) (fun q15 =>
 some (q15, a11.2)))) else
 (obd (fX12_ableAt a11.2 i0 p1 a11.1 (0 : Int32)) (fun q17 =>
 grd (inb ((7 : Int32) + a11.1) (ln (i0 + 1))) (bnd (mw a11.2 (i0 + 1) (ix ((7 : Int32) + a11.1)) q17) (fun m19 =>
 bnd (a11.1 + (1 : Int32)) (fun x20 =>
 oL (x20, m19)))))))
def sX12_desk_36 (i0 : Nat) (p1 : Int32) (a9 : Int32 × Mem) : Option ((Int32 × Mem) ⊕ (Int32 × Mem)) :=
  if (3 : Int32) ≤ a9.1 then
 (oR (lp (sX12_desk_58 i0 p1) FU ((0 : Int32), a9.2))) else
 (grd (inb ((4 : Int32) + a9.1) (ln (i0 + 1))) (bnd (mw a9.2 (i0 + 1) (ix ((4 : Int32) + a9.1)) (0 : Int32)) (fun m21 =>
 bnd (a9.1 + (1 : Int32)) (fun x22 =>
 oL (x22, m21)))))
def fX12_desk (σ : Mem) (i0 : Nat) (p1 : Int32) (p2 : Int32) : Option (Int32 × Mem) :=
  obd (fX12_isFrame σ i0 p1) (fun q1 =>
 if q1 = 0 then
 (some ((-2 : Int32), σ)) else
 (obd (fX12_isIn σ p2 (0 : Int32) (3 : Int32)) (fun q4 =>
 if q4 = 0 then
 (some ((-2 : Int32), σ)) else
 (grd (inb (2 : Int32) (ln (i0 + 1))) (bnd (mw σ (i0 + 1) (ix (2 : Int32)) p1) (fun m7 =>
 grd (inb (3 : Int32) (ln (i0 + 1))) (bnd (mw m7 (i0 + 1) (ix (3 : Int32)) p2) (fun m8 =>
 lp (sX12_desk_36 i0 p1) FU ((0 : Int32), m8)))))))))


def fX12_choose (σ : Mem) (i0 : Nat) (p1 : Int32) (p2 : Int32) : Option (Int32 × Mem) :=
  obd (fX12_isWord σ i0 p2) (fun q1 =>
 if q1 = 0 then
 (some ((-2 : Int32), σ)) else
 (grd (inb (2 : Int32) (ln (i0 + 1))) (
 if 0 ≤ (σ (i0 + 1) (ix (2 : Int32))) then
 (grd (inb (2 : Int32) (ln (i0 + 1))) (
 obd (fX12_holes σ i0 (σ (i0 + 1) (ix (2 : Int32)))) (fun q5 =>
 obd (fX12_isIn σ p1 (0 : Int32) (q5 - (1 : Int32))) (fun q7 =>
 if q7 = 0 then
 (some ((-12 : Int32), σ)) else
 (grd (inb (2 : Int32) (ln (i0 + 1))) (
 obd (fX12_canBe σ i0 (σ (i0 + 1) (ix (2 : Int32))) p1 p2) (fun q10 =>
 if q10 = 0 then
 (some ((-13 : Int32), σ)) else
 (grd (inb ((7 : Int32) + p1) (ln (i0 + 1))) (
 bnd (σ (i0 + 1) (ix ((7 : Int32) + p1))) (fun x13 =>
 grd (inb ((7 : Int32) + p1) (ln (i0 + 1))) (bnd (mw σ (i0 + 1) (ix ((7 : Int32) + p1)) p2) (fun m14 =>
 some (x13, m14))))))))))))) else
 (some ((-3 : Int32), σ)))))


def fX12_number (σ : Mem) (i0 : Nat) (p1 : Int32) (p2 : Int32) : Option (Int32 × Mem) :=
  obd (fX12_isIn σ p1 (0 : Int32) (2 : Int32)) (fun q1 =>
 if q1 = 0 then
 (some ((-2 : Int32), σ)) else
 (obd (fX12_isIn σ p2 (0 : Int32) (1 : Int32)) (fun q4 =>
 if q4 = 0 then
 (some ((-2 : Int32), σ)) else
 (grd (inb (2 : Int32) (ln (i0 + 1))) (
 if 0 ≤ (σ (i0 + 1) (ix (2 : Int32))) then
 (grd (inb ((4 : Int32) + p1) (ln (i0 + 1))) (
 bnd (σ (i0 + 1) (ix ((4 : Int32) + p1))) (fun x8 =>
 grd (inb ((4 : Int32) + p1) (ln (i0 + 1))) (bnd (mw σ (i0 + 1) (ix ((4 : Int32) + p1)) p2) (fun m9 =>
 some (x8, m9)))))) else
 (some ((-3 : Int32), σ)))))))


def fX12_said (σ : Mem) (i0 : Nat) (p1 : Int32) : Option (Int32 × Mem) :=
  obd (fX12_saysDesk_ σ i0) (fun q1 =>
 if p1 = (-1 : Int32) then
 (some ((q1 i0 13), q1)) else
 (obd (fX12_isIn q1 p1 (0 : Int32) ((q1 i0 13) - (1 : Int32))) (fun q4 =>
 if q4 = 0 then
 (some ((-12 : Int32), q1)) else
 (grd (inb p1 (ln (i0 + 6))) (
 some ((q1 (i0 + 6) (ix p1)), q1))))))


def fJxf58ca_isNaN_12338 (σ : Mem) (p0 : UInt32) : Option Int32 :=
  if (Op.cmpValue (FP.fcmp p0 p0) .l) = 0 then
 (some (0 : Int32)) else
 (some (1 : Int32))


def fJxf58ca_floatToIntBits_5c35a (σ : Mem) (p0 : UInt32) : Option Int32 :=
  obd (fJxf58ca_isNaN_12338 σ p0) (fun q1 =>
 if q1 = 0 then
 (some ((p0).toInt32)) else
 (some (2143289344 : Int32)))

def sX12_spoken_21 (i0 : Nat) (p1 : Int32) (q4 : Mem) (a6 : Int32 × UInt32) : Option ((Int32 × UInt32) ⊕ (Int32 × Mem)) :=
  if (q4 i0 13) ≤ a6.1 then
 (oR (obd (fJxf58ca_floatToIntBits_5c35a q4 a6.2) (fun q8 =>
 some (q8, q4)))) else
 (grd (inb a6.1 (ln (i0 + 6))) (
 obd (fX12_isVowel q4 (q4 (i0 + 6) (ix a6.1))) (fun q10 =>
 bnd (fun (y12 : UInt32) =>
 if a6.1 ≤ 0 then
 (grd (fnn (FP.fdiv y12 (FP.i2f p1))) (
 grd (fnn (FP.fadd a6.2 (FP.fdiv y12 (FP.i2f p1)))) (
 bnd (FP.fadd a6.2 (FP.fdiv y12 (FP.i2f p1))) (fun x14 =>
 bnd (a6.1 + (1 : Int32)) (fun x15 =>
 oL (x15, x14)))))) else
 (grd (inb a6.1 (ln (i0 + 6))) (
 if (q4 (i0 + 6) (ix a6.1)) = (32 : Int32) then
 (grd (fnn (FP.fdiv y12 (FP.i2f p1))) (
 grd (fnn (FP.fadd a6.2 (FP.fdiv y12 (FP.i2f p1)))) (
 bnd (FP.fadd a6.2 (FP.fdiv y12 (FP.i2f p1))) (fun x17 =>
 bnd (a6.1 + (1 : Int32)) (fun x18 =>
 oL (x18, x17)))))) else
 (grd (inb a6.1 (ln (i0 + 6))) (
 grd (inb (a6.1 - (1 : Int32)) (ln (i0 + 6))) (
 if (q4 (i0 + 6) (ix a6.1)) = (q4 (i0 + 6) (ix (a6.1 - (1 : Int32)))) then
 (grd (fnn (FP.fmul y12 (1061158912 : UInt32))) (
 bnd (FP.fmul y12 (1061158912 : UInt32)) (fun x20 =>
 grd (fnn (FP.fdiv x20 (FP.i2f p1))) (
 grd (fnn (FP.fadd a6.2 (FP.fdiv x20 (FP.i2f p1)))) (
 bnd (FP.fadd a6.2 (FP.fdiv x20 (FP.i2f p1))) (fun x21 =>
 bnd (a6.1 + (1 : Int32)) (fun x22 =>
 oL (x22, x21)))))))) else
 (grd (fnn (FP.fdiv y12 (FP.i2f p1))) (
 grd (fnn (FP.fadd a6.2 (FP.fdiv y12 (FP.i2f p1)))) (
 bnd (FP.fadd a6.2 (FP.fdiv y12 (FP.i2f p1))) (fun x23 =>
 bnd (a6.1 + (1 : Int32)) (fun x24 =>
 oL (x24, x23)))))))))))) (fun k12 =>
 if q10 = 0 then
 (grd (inb a6.1 (ln (i0 + 6))) (
 if (q4 (i0 + 6) (ix a6.1)) = (32 : Int32) then
 (k12 (1091567616 : UInt32)) else
 (k12 (1082130432 : UInt32)))) else
 (k12 (1088421888 : UInt32))))))
def fX12_spoken (σ : Mem) (i0 : Nat) (p1 : Int32) : Option (Int32 × Mem) :=
  obd (fX12_isIn σ p1 (1 : Int32) (99 : Int32)) (fun q1 =>
 if q1 = 0 then
 (some ((-2 : Int32), σ)) else
 (obd (fX12_saysDesk_ σ i0) (fun q4 =>
 lp (sX12_spoken_21 i0 p1 q4) FU ((0 : Int32), FP.fconst0))))

def sX12_text_102 (i0 : Nat) (x1 : Int32) (a3 : Int32 × Int32) (a7 : Int32 × Mem) : Option ((Int32 × Mem) ⊕ (Int32 × Mem)) :=
  if x1 ≤ a7.1 then
 (oR (some (a3.2, a7.2))) else
 (grd (inb a7.1 (ln (i0 + 3))) (
 grd (inb ((467 : Int32) + a7.1) (ln (i0 + 1))) (bnd (mw a7.2 (i0 + 1) (ix ((467 : Int32) + a7.1)) (a7.2 (i0 + 3) (ix a7.1))) (fun m9 =>
 bnd (a7.1 + (1 : Int32)) (fun x10 =>
 oL (x10, m9))))))
def sX12_text_14 (i0 : Nat) (x1 : Int32) (m2 : Mem) (a3 : Int32 × Int32) : Option ((Int32 × Int32) ⊕ (Int32 × Mem)) :=
  if x1 ≤ a3.1 then
 (oR (if x1 = 0 then
 (some ((-3 : Int32), m2)) else
 (grd (inb (13 : Int32) (ln (i0 + 1))) (bnd (mw m2 (i0 + 1) (ix (13 : Int32)) x1) (fun m6 =>
 lp (sX12_text_102 i0 x1 a3) FU ((0 : Int32), m6)))))) else
 (grd (inb a3.1 (ln (i0 + 3))) (
 bnd (fun (y11 : Unit) =>
 grd (inb a3.1 (ln (i0 + 3))) (
 obd (fX12_isIn m2 (m2 (i0 + 3) (ix a3.1)) (97 : Int32) (122 : Int32)) (fun q12 =>
 if q12 = 0 then
 (oR (some ((-3 : Int32), m2))) else
 (bnd (a3.1 + (1 : Int32)) (fun x15 =>
 oL (x15, a3.2)))))) (fun k11 =>
 if (m2 (i0 + 3) (ix a3.1)) = (32 : Int32) then
 (if a3.1 ≤ 0 then
 (k11 ()) else
 (if (x1 - (1 : Int32)) ≤ a3.1 then
 (k11 ()) else
 (grd (inb (a3.1 - (1 : Int32)) (ln (i0 + 3))) (
 if (m2 (i0 + 3) (ix (a3.1 - (1 : Int32)))) = (32 : Int32) then
 (k11 ()) else
 (bnd (a3.2 + (1 : Int32)) (fun x20 =>
 bnd (a3.1 + (1 : Int32)) (fun x21 =>
 oL (x21, x20)))))))) else
 (k11 ()))))
def fX12_text (σ : Mem) (i0 : Nat) : Option (Int32 × Mem) :=
  bnd (σ i0 4) (fun x1 =>
 bnd (mw σ i0 4 (0 : Int32)) (fun m2 =>
 lp (sX12_text_14 i0 x1 m2) FU ((0 : Int32), (1 : Int32))))

def sX12_takesText_13 (i0 : Nat) (a2 : Int32 × Mem) : Option ((Int32 × Mem) ⊕ Mem) :=
  if (a2.2 i0 13) ≤ a2.1 then
 (oR (some a2.2)) else
 (grd (inb ((467 : Int32) + a2.1) (ln (i0 + 1))) (
 grd (inb a2.1 (ln (i0 + 6))) (bnd (mw a2.2 (i0 + 6) (ix a2.1) (a2.2 (i0 + 1) (ix ((467 : Int32) + a2.1)))) (fun m4 =>
 bnd (a2.1 + (1 : Int32)) (fun x5 =>
 oL (x5, m4))))))
def fX12_takesText (σ : Mem) (i0 : Nat) : Option Mem :=
  grd (inb (13 : Int32) (ln (i0 + 1))) (
 bnd (mw σ i0 13 (σ (i0 + 1) (ix (13 : Int32)))) (fun m1 =>
 lp (sX12_takesText_13 i0) FU ((0 : Int32), m1)))

def sX12_parts_22 (i0 : Nat) (a4 : Int32 × Mem) : Option ((Int32 × Mem) ⊕ Mem) :=
  if (a4.2 i0 13) ≤ a4.1 then
 (oR (grd (inb (a4.2 i0 14) (ln (i0 + 8))) (bnd (mw a4.2 (i0 + 8) (ix (a4.2 i0 14)) (a4.2 i0 13)) (fun m6 =>
 bnd (mw m6 i0 14 ((m6 i0 14) + (1 : Int32))) (fun m7 =>
 some m7))))) else
 (grd (inb a4.1 (ln (i0 + 6))) (
 if (a4.2 (i0 + 6) (ix a4.1)) = (32 : Int32) then
 (grd (inb (a4.2 i0 14) (ln (i0 + 8))) (bnd (mw a4.2 (i0 + 8) (ix (a4.2 i0 14)) a4.1) (fun m9 =>
 bnd (mw m9 i0 14 ((m9 i0 14) + (1 : Int32))) (fun m10 =>
 grd (inb (m10 i0 14) (ln (i0 + 7))) (bnd (mw m10 (i0 + 7) (ix (m10 i0 14)) (a4.1 + (1 : Int32))) (fun m11 =>
 bnd (a4.1 + (1 : Int32)) (fun x12 =>
 oL (x12, m11)))))))) else
 (bnd (a4.1 + (1 : Int32)) (fun x13 =>
 oL (x13, a4.2)))))
def fX12_parts (σ : Mem) (i0 : Nat) : Option Mem :=
  bnd (mw σ i0 14 (0 : Int32)) (fun m1 =>
 if (m1 i0 13) = 0 then
 (some m1) else
 (grd (inb (0 : Int32) (ln (i0 + 7))) (bnd (mw m1 (i0 + 7) (ix (0 : Int32)) (0 : Int32)) (fun m3 =>
 lp (sX12_parts_22 i0) FU ((0 : Int32), m3)))))

def sX12_isLike_24 (σ : Mem) (i0 : Nat) (p1 : Int32) (a2 : Int32) : Option ((Int32) ⊕ Int32) :=
  if (σ i0 6) ≤ a2 then
 (oR (some (1 : Int32))) else
 (grd (inb p1 (ln (i0 + 7))) (
 grd (inb ((σ (i0 + 7) (ix p1)) + a2) (ln (i0 + 6))) (
 grd (inb a2 (ln (i0 + 4))) (
 if (σ (i0 + 6) (ix ((σ (i0 + 7) (ix p1)) + a2))) = (σ (i0 + 4) (ix a2)) then
 (bnd (a2 + (1 : Int32)) (fun x5 =>
 oL x5)) else
 (oR (some (0 : Int32)))))))
def fX12_isLike (σ : Mem) (i0 : Nat) (p1 : Int32) : Option Int32 :=
  grd (inb p1 (ln (i0 + 8))) (
 grd (inb p1 (ln (i0 + 7))) (
 if ((σ (i0 + 8) (ix p1)) - (σ (i0 + 7) (ix p1))) = (σ i0 6) then
 (lp (sX12_isLike_24 σ i0 p1) FU (0 : Int32)) else
 (some (0 : Int32))))

def sX12_apart_142 (i0 : Nat) (x1 : Int32) (a4 : Int32 × Mem) (a9 : Int32 × Mem) : Option ((Int32 × Mem) ⊕ ((Int32 × Mem) ⊕ (Int32 × Mem))) :=
  if x1 < a9.1 then
 (oR (bnd (a4.1 + (1 : Int32)) (fun x11 =>
 oL (x11, a9.2)))) else
 (grd (inb a9.1 (ln (i0 + 10))) (
 grd (inb a9.1 (ln (i0 + 9))) (bnd (mw a9.2 (i0 + 9) (ix a9.1) (a9.2 (i0 + 10) (ix a9.1))) (fun m12 =>
 bnd (a9.1 + (1 : Int32)) (fun x13 =>
 oL (x13, m12))))))
def sX12_apart_54 (i0 : Nat) (p1 : Int32) (x1 : Int32) (a4 : Int32 × Mem) (a7 : Int32 × Mem) : Option ((Int32 × Mem) ⊕ ((Int32 × Mem) ⊕ (Int32 × Mem))) :=
  if x1 < a7.1 then
 (oR (lp (sX12_apart_142 i0 x1 a4) FU ((0 : Int32), a7.2))) else
 (grd (inb a7.1 (ln (i0 + 9))) (
 grd (inb (a7.1 - (1 : Int32)) (ln (i0 + 10))) (
 grd (inb (a7.1 - (1 : Int32)) (ln (i0 + 9))) (
 grd (inb (a4.1 - (1 : Int32)) (ln (i0 + 4))) (
 grd (inb p1 (ln (i0 + 7))) (
 grd (inb (((a7.2 (i0 + 7) (ix p1)) + a7.1) - (1 : Int32)) (ln (i0 + 6))) (
 bnd (fun (y14 : Int32) =>
 grd (inb a7.1 (ln (i0 + 10))) (bnd (mw a7.2 (i0 + 10) (ix a7.1) (imn ((imn (a7.2 (i0 + 9) (ix a7.1)) (a7.2 (i0 + 10) (ix (a7.1 - (1 : Int32))))) + (1 : Int32)) ((a7.2 (i0 + 9) (ix (a7.1 - (1 : Int32)))) + y14))) (fun m15 =>
 bnd (a7.1 + (1 : Int32)) (fun x16 =>
 oL (x16, m15))))) (fun k14 =>
 if (a7.2 (i0 + 4) (ix (a4.1 - (1 : Int32)))) = (a7.2 (i0 + 6) (ix (((a7.2 (i0 + 7) (ix p1)) + a7.1) - (1 : Int32)))) then
 (k14 (0 : Int32)) else
 (k14 (1 : Int32))))))))))
def sX12_apart_36 (i0 : Nat) (p1 : Int32) (x1 : Int32) (a4 : Int32 × Mem) : Option ((Int32 × Mem) ⊕ (Int32 × Mem)) :=
  if (a4.2 i0 6) < a4.1 then
 (oR (grd (inb x1 (ln (i0 + 9))) (
 some ((a4.2 (i0 + 9) (ix x1)), a4.2)))) else
 (grd (inb (0 : Int32) (ln (i0 + 10))) (bnd (mw a4.2 (i0 + 10) (ix (0 : Int32)) a4.1) (fun m6 =>
 lp (sX12_apart_54 i0 p1 x1 a4) FU ((1 : Int32), m6))))
def sX12_apart_16 (i0 : Nat) (p1 : Int32) (x1 : Int32) (a2 : Int32 × Mem) : Option ((Int32 × Mem) ⊕ (Int32 × Mem)) :=
  if x1 < a2.1 then
 (oR (lp (sX12_apart_36 i0 p1 x1) FU ((1 : Int32), a2.2))) else
 (grd (inb a2.1 (ln (i0 + 9))) (bnd (mw a2.2 (i0 + 9) (ix a2.1) a2.1) (fun m18 =>
 bnd (a2.1 + (1 : Int32)) (fun x19 =>
 oL (x19, m18)))))
def fX12_apart (σ : Mem) (i0 : Nat) (p1 : Int32) : Option (Int32 × Mem) :=
  grd (inb p1 (ln (i0 + 8))) (
 grd (inb p1 (ln (i0 + 7))) (
 bnd ((σ (i0 + 8) (ix p1)) - (σ (i0 + 7) (ix p1))) (fun x1 =>
 lp (sX12_apart_16 i0 p1 x1) FU ((0 : Int32), σ))))

def sX12_atHole_16 (i0 : Nat) (p1 : Int32) (p2 : Int32) (p3 : Int32) (p4 : Int32) (p5 : Int32) (p6 : Int32) (a2 : Int32 × Int32 × Mem) : Option ((Int32 × Int32 × Mem) ⊕ (Int32 × Mem)) :=
  grd (inb (0 : Int32) (ln (i0 + 1))) (
 if (a2.2.2 (i0 + 1) (ix (0 : Int32))) ≤ a2.1 then
 (oR (some (a2.2.1, a2.2.2))) else
 (obd (fX12_canBe a2.2.2 i0 p1 p2 a2.1) (fun q4 =>
 if q4 = 0 then
 (bnd (a2.1 + (1 : Int32)) (fun x7 =>
 oL (x7, a2.2.1, a2.2.2))) else
 (obd (fX12_ofHole a2.2.2 i0 p1 p2 (2 : Int32)) (fun q8 =>
 obd (fX12_forms a2.2.2 i0 a2.1 (imx (0 : Int32) q8) p3 p4 p5) (fun q10 =>
 if p6 = 0 then
 (obd (fX12_isLike q10 i0 p2) (fun q13 =>
 if q13 = 0 then
 (bnd (a2.1 + (1 : Int32)) (fun x16 =>
 oL (x16, a2.2.1, q10))) else
 (bnd (a2.2.1 + (1 : Int32)) (fun x17 =>
 bnd (a2.1 + (1 : Int32)) (fun x18 =>
 oL (x18, x17, q10)))))) else
 (obd (fX12_apart q10 i0 p2) (fun q19 =>
 bnd (imn a2.2.1 q19.1) (fun x21 =>
 bnd (a2.1 + (1 : Int32)) (fun x22 =>
 oL (x22, x21, q19.2)))))))))))
def fX12_atHole (σ : Mem) (i0 : Nat) (p1 : Int32) (p2 : Int32) (p3 : Int32) (p4 : Int32) (p5 : Int32) (p6 : Int32) : Option (Int32 × Mem) :=
  bnd (fun (y1 : Int32) =>
 lp (sX12_atHole_16 i0 p1 p2 p3 p4 p5 p6) FU ((0 : Int32), y1, σ)) (fun k1 =>
 if p6 = 0 then
 (k1 (0 : Int32)) else
 (k1 (1000000 : Int32)))

def sX12_byNoun_63 (i0 : Nat) (p1 : Int32) (p2 : Int32) (p3 : Int32) (p4 : Int32) (p5 : Int32) (p6 : Int32) (q1 : Int32) (a10 : Int32 × Int32 × Mem) : Option ((Int32 × Int32 × Mem) ⊕ (Int32 × Mem)) :=
  obd (fX12_holes a10.2.2 i0 p1) (fun q11 =>
 if q11 ≤ a10.1 then
 (oR (some (a10.2.1, a10.2.2))) else
 (bnd (fun (y14 : Unit) =>
 if a10.1 = q1 then
 (bnd (a10.1 + (1 : Int32)) (fun x16 =>
 oL (x16, a10.2.1, a10.2.2))) else
 (obd (fX12_ofHole a10.2.2 i0 p1 a10.1 (1 : Int32)) (fun q17 =>
 if q17 = p2 then
 (obd (fX12_gender a10.2.2 i0 p3) (fun q20 =>
 obd (fX12_atHole a10.2.2 i0 p1 a10.1 p4 q20 p5 p6) (fun q22 =>
 if p6 = 0 then
 (bnd (a10.2.1 * q22.1) (fun x25 =>
 bnd (a10.1 + (1 : Int32)) (fun x26 =>
 oL (x26, x25, q22.2)))) else
 (bnd (a10.2.1 + q22.1) (fun x27 =>
 bnd (a10.1 + (1 : Int32)) (fun x28 =>
 oL (x28, x27, q22.2))))))) else
 (bnd (a10.1 + (1 : Int32)) (fun x29 =>
 oL (x29, a10.2.1, a10.2.2)))))) (fun k14 =>
 if p6 = 0 then
 (if a10.2.1 ≤ 0 then
 (oR (some (a10.2.1, a10.2.2))) else
 (k14 ())) else
 (k14 ()))))
def fX12_byNoun (σ : Mem) (i0 : Nat) (p1 : Int32) (p2 : Int32) (p3 : Int32) (p4 : Int32) (p5 : Int32) (p6 : Int32) : Option (Int32 × Mem) :=
  obd (fX12_holeOf σ i0 p1 p2) (fun q1 =>
 obd (fX12_ofHole σ i0 p1 q1 (2 : Int32)) (fun q3 =>
 obd (fX12_gender σ i0 p3) (fun q5 =>
 obd (fX12_forms σ i0 p3 q3 p4 q5 p5) (fun q7 =>
 bnd (fun (y9 : Int32 × Mem) =>
 lp (sX12_byNoun_63 i0 p1 p2 p3 p4 p5 p6 q1) FU ((0 : Int32), y9.1, y9.2)) (fun k9 =>
 if p6 = 0 then
 (obd (fX12_isLike q7 i0 q1) (fun q33 =>
 if q33 = 0 then
 (k9 ((0 : Int32), q7)) else
 (k9 ((1 : Int32), q7)))) else
 (obd (fX12_apart q7 i0 q1) (fun q36 =>
 k9 (q36.1, q36.2))))))))

def sX12_byGroup_49 (i0 : Nat) (p1 : Int32) (p2 : Int32) (p3 : Int32) (p4 : Int32) (a2 : Int32 × Int32 × Mem) (a10 : Int32 × Int32 × Mem) : Option ((Int32 × Int32 × Mem) ⊕ ((Int32 × Int32 × Mem) ⊕ (Int32 × Mem))) :=
  obd (fX12_kind a10.2.2 i0 a2.1) (fun q11 =>
 bnd (fun (y13 : Int32) =>
 if y13 ≤ a10.1 then
 (oR (bnd (a2.1 + (1 : Int32)) (fun x15 =>
 oL (x15, a10.2.1, a10.2.2)))) else
 (obd (fX12_byNoun a10.2.2 i0 p1 p2 a2.1 a10.1 p3 p4) (fun q16 =>
 if p4 = 0 then
 (bnd (a10.2.1 + q16.1) (fun x19 =>
 bnd (a10.1 + (1 : Int32)) (fun x20 =>
 oL (x20, x19, q16.2)))) else
 (bnd (imn a10.2.1 q16.1) (fun x21 =>
 bnd (a10.1 + (1 : Int32)) (fun x22 =>
 oL (x22, x21, q16.2))))))) (fun k13 =>
 if q11 = (3 : Int32) then
 (k13 (1 : Int32)) else
 (k13 (2 : Int32))))
def sX12_byGroup_16 (i0 : Nat) (p1 : Int32) (p2 : Int32) (p3 : Int32) (p4 : Int32) (a2 : Int32 × Int32 × Mem) : Option ((Int32 × Int32 × Mem) ⊕ (Int32 × Mem)) :=
  grd (inb (0 : Int32) (ln (i0 + 1))) (
 if (a2.2.2 (i0 + 1) (ix (0 : Int32))) ≤ a2.1 then
 (oR (some (a2.2.1, a2.2.2))) else
 (obd (fX12_holeOf a2.2.2 i0 p1 p2) (fun q4 =>
 obd (fX12_canBe a2.2.2 i0 p1 q4 a2.1) (fun q6 =>
 if q6 = 0 then
 (bnd (a2.1 + (1 : Int32)) (fun x9 =>
 oL (x9, a2.2.1, a2.2.2))) else
 (lp (sX12_byGroup_49 i0 p1 p2 p3 p4 a2) FU ((0 : Int32), a2.2.1, a2.2.2))))))
def fX12_byGroup (σ : Mem) (i0 : Nat) (p1 : Int32) (p2 : Int32) (p3 : Int32) (p4 : Int32) : Option (Int32 × Mem) :=
  bnd (fun (y1 : Int32) =>
 lp (sX12_byGroup_16 i0 p1 p2 p3 p4) FU ((0 : Int32), y1, σ)) (fun k1 =>
 if p4 = 0 then
 (k1 (0 : Int32)) else
 (k1 (1000000 : Int32)))

def sX12_byFrame_14 (i0 : Nat) (p1 : Int32) (p2 : Int32) (p3 : Int32) (a2 : Int32 × Int32 × Mem) : Option ((Int32 × Int32 × Mem) ⊕ (Int32 × Mem)) :=
  obd (fX12_holes a2.2.2 i0 p1) (fun q3 =>
 if q3 ≤ a2.1 then
 (oR (some (a2.2.1, a2.2.2))) else
 (obd (fX12_ofHole a2.2.2 i0 p1 a2.1 (0 : Int32)) (fun q6 =>
 bnd (fun (y8 : Unit) =>
 obd (fX12_ofHole a2.2.2 i0 p1 a2.1 (0 : Int32)) (fun q9 =>
 bnd (fun (y11 : Int32 × Mem) =>
 if p3 = 0 then
 (bnd (a2.2.1 * y11.1) (fun x13 =>
 bnd (a2.1 + (1 : Int32)) (fun x14 =>
 oL (x14, x13, y11.2)))) else
 (bnd (a2.2.1 + y11.1) (fun x15 =>
 bnd (a2.1 + (1 : Int32)) (fun x16 =>
 oL (x16, x15, y11.2))))) (fun k11 =>
 if q9 = (112 : Int32) then
 (obd (fX12_atHole a2.2.2 i0 p1 a2.1 (0 : Int32) (0 : Int32) (0 : Int32) p3) (fun q18 =>
 k11 (q18.1, q18.2))) else
 (obd (fX12_ofHole a2.2.2 i0 p1 a2.1 (1 : Int32)) (fun q20 =>
 obd (fX12_byGroup a2.2.2 i0 p1 q20 p2 p3) (fun q22 =>
 k11 (q22.1, q22.2))))))) (fun k8 =>
 if q6 = (110 : Int32) then
 (k8 ()) else
 (obd (fX12_ofHole a2.2.2 i0 p1 a2.1 (0 : Int32)) (fun q25 =>
 if q25 = (112 : Int32) then
 (k8 ()) else
 (bnd (a2.1 + (1 : Int32)) (fun x28 =>
 oL (x28, a2.2.1, a2.2.2)))))))))
def fX12_byFrame (σ : Mem) (i0 : Nat) (p1 : Int32) (p2 : Int32) (p3 : Int32) : Option (Int32 × Mem) :=
  bnd (fun (y1 : Int32) =>
 lp (sX12_byFrame_14 i0 p1 p2 p3) FU ((0 : Int32), y1, σ)) (fun k1 =>
 if p3 = 0 then
 (k1 (1 : Int32)) else
 (k1 (0 : Int32)))

def sX12_counted_45 (i0 : Nat) (a5 : Int32 × Int32 × Mem) (a10 : Int32 × Int32 × Mem) : Option ((Int32 × Int32 × Mem) ⊕ ((Int32 × Int32 × Mem) ⊕ (Int32 × Mem))) :=
  if (4 : Int32) ≤ a10.1 then
 (oR (bnd (a5.1 + (1 : Int32)) (fun x12 =>
 oL (x12, a10.2.1, a10.2.2)))) else
 (obd (fX12_byFrame a10.2.2 i0 a5.1 a10.1 (0 : Int32)) (fun q13 =>
 if q13.1 ≤ 0 then
 (bnd (a10.2.1 + q13.1) (fun x16 =>
 bnd (a10.1 + (1 : Int32)) (fun x17 =>
 oL (x17, x16, q13.2)))) else
 (if a10.2.1 = 0 then
 (bnd (mw q13.2 i0 17 a5.1) (fun m19 =>
 bnd (mw m19 i0 18 a10.1) (fun m20 =>
 bnd (a10.2.1 + q13.1) (fun x21 =>
 bnd (a10.1 + (1 : Int32)) (fun x22 =>
 oL (x22, x21, m20)))))) else
 (bnd (a10.2.1 + q13.1) (fun x23 =>
 bnd (a10.1 + (1 : Int32)) (fun x24 =>
 oL (x24, x23, q13.2)))))))
def sX12_counted_18 (i0 : Nat) (a5 : Int32 × Int32 × Mem) : Option ((Int32 × Int32 × Mem) ⊕ (Int32 × Mem)) :=
  grd (inb (1 : Int32) (ln (i0 + 1))) (
 if (a5.2.2 (i0 + 1) (ix (1 : Int32))) ≤ a5.1 then
 (oR (some (a5.2.1, a5.2.2))) else
 (obd (fX12_holes a5.2.2 i0 a5.1) (fun q7 =>
 if q7 = (a5.2.2 i0 14) then
 (lp (sX12_counted_45 i0 a5) FU ((0 : Int32), a5.2.1, a5.2.2)) else
 (bnd (a5.1 + (1 : Int32)) (fun x25 =>
 oL (x25, a5.2.1, a5.2.2))))))
def fX12_counted (σ : Mem) (i0 : Nat) : Option (Int32 × Mem) :=
  bnd (mw σ i0 17 (-1 : Int32)) (fun m1 =>
 bnd (mw m1 i0 18 (-1 : Int32)) (fun m2 =>
 obd (fX12_parts m2 i0) (fun q3 =>
 lp (sX12_counted_18 i0) FU ((0 : Int32), (0 : Int32), q3))))


def fX12_readings (σ : Mem) (i0 : Nat) (p1 : Int32) : Option (Int32 × Mem) :=
  obd (fX12_isIn σ p1 (0 : Int32) (2 : Int32)) (fun q1 =>
 if q1 = 0 then
 (some ((-2 : Int32), σ)) else
 (obd (fX12_takesText σ i0) (fun q4 =>
 obd (fX12_counted q4 i0) (fun q6 =>
 if p1 = 0 then
 (some (q6.1, q6.2)) else
 (if p1 = (1 : Int32) then
 (some ((q6.2 i0 17), q6.2)) else
 (some ((q6.2 i0 18), q6.2)))))))

def sX12_near_58 (i0 : Nat) (a8 : Int32 × Int32 × Int32 × Mem) (a15 : Int32 × Int32 × Int32 × Mem) : Option ((Int32 × Int32 × Int32 × Mem) ⊕ ((Int32 × Int32 × Int32 × Mem) ⊕ (Int32 × Mem))) :=
  if (4 : Int32) ≤ a15.1 then
 (oR (bnd (a8.1 + (1 : Int32)) (fun x17 =>
 oL (x17, a15.2.1, a15.2.2.1, a15.2.2.2)))) else
 (obd (fX12_byFrame a15.2.2.2 i0 a8.1 a15.1 (1 : Int32)) (fun q18 =>
 if q18.1 < a15.2.2.1 then
 (bnd (a15.1 + (1 : Int32)) (fun x21 =>
 oL (x21, a8.1, q18.1, q18.2))) else
 (bnd (a15.1 + (1 : Int32)) (fun x22 =>
 oL (x22, a15.2.1, a15.2.2.1, q18.2)))))
def sX12_near_28 (i0 : Nat) (p1 : Int32) (a8 : Int32 × Int32 × Int32 × Mem) : Option ((Int32 × Int32 × Int32 × Mem) ⊕ (Int32 × Mem)) :=
  grd (inb (1 : Int32) (ln (i0 + 1))) (
 if (a8.2.2.2 (i0 + 1) (ix (1 : Int32))) ≤ a8.1 then
 (oR (if p1 = (1 : Int32) then
 (some (a8.2.1, a8.2.2.2)) else
 (if 0 ≤ a8.2.1 then
 (some (a8.2.2.1, a8.2.2.2)) else
 (some (a8.2.1, a8.2.2.2))))) else
 (obd (fX12_holes a8.2.2.2 i0 a8.1) (fun q12 =>
 if q12 = (a8.2.2.2 i0 14) then
 (lp (sX12_near_58 i0 a8) FU ((0 : Int32), a8.2.1, a8.2.2.1, a8.2.2.2)) else
 (bnd (a8.1 + (1 : Int32)) (fun x23 =>
 oL (x23, a8.2.1, a8.2.2.1, a8.2.2.2))))))
def fX12_near (σ : Mem) (i0 : Nat) (p1 : Int32) : Option (Int32 × Mem) :=
  obd (fX12_isIn σ p1 (0 : Int32) (1 : Int32)) (fun q1 =>
 if q1 = 0 then
 (some ((-2 : Int32), σ)) else
 (obd (fX12_takesText σ i0) (fun q4 =>
 obd (fX12_parts q4 i0) (fun q6 =>
 lp (sX12_near_28 i0 p1) FU ((0 : Int32), (-1 : Int32), (1000000 : Int32), q6)))))


def fX12_draws (σ : Mem) (i0 : Nat) (p1 : Int32) : Option (Int32 × Mem) :=
  bnd (mw σ i0 20 (((σ i0 20) * (1103515245 : Int32)) + (12345 : Int32))) (fun m1 =>
 if p1 = 0 then
 (some ((-1 : Int32), m1)) else
 (grd (!decide (p1 = 0)) (
 some ((irm (ius (m1 i0 20) (9 : Int32)) p1), m1))))

def sX12_drawsLine_56 (i0 : Nat) (q2 : (Int32 × Mem)) (q4 : (Int32 × Mem)) (x13 : Int32) (a14 : Int32 × Mem) : Option ((Int32 × Mem) ⊕ Mem) :=
  obd (fX12_holes a14.2 i0 q2.1) (fun q15 =>
 if q15 ≤ a14.1 then
 (oR (obd (fX12_says a14.2 i0 q2.1 (0 : Int32) (i0 + 11) x13 q4.1) (fun q18 =>
 some q18))) else
 (obd (fX12_ofHole a14.2 i0 q2.1 a14.1 (0 : Int32)) (fun q20 =>
 bnd (fun (y22 : Int32 × Mem) =>
 grd (inb a14.1 (ln (i0 + 11))) (bnd (mw y22.2 (i0 + 11) (ix a14.1) y22.1) (fun m23 =>
 bnd (a14.1 + (1 : Int32)) (fun x24 =>
 oL (x24, m23))))) (fun k22 =>
 if q20 = (112 : Int32) then
 (obd (fX12_ofHole a14.2 i0 q2.1 a14.1 (3 : Int32)) (fun q26 =>
 k22 (q26, a14.2))) else
 (obd (fX12_able a14.2 i0 q2.1 a14.1) (fun q28 =>
 obd (fX12_draws a14.2 i0 q28) (fun q30 =>
 obd (fX12_ableAt q30.2 i0 q2.1 a14.1 q30.1) (fun q32 =>
 k22 (q32, q30.2)))))))))
def fX12_drawsLine (σ : Mem) (i0 : Nat) (p1 : Int32) : Option Mem :=
  bnd (mw σ i0 20 p1) (fun m1 =>
 grd (inb (1 : Int32) (ln (i0 + 1))) (
 obd (fX12_draws m1 i0 (m1 (i0 + 1) (ix (1 : Int32)))) (fun q2 =>
 obd (fX12_draws q2.2 i0 (4 : Int32)) (fun q4 =>
 obd (fX12_draws q4.2 i0 (2 : Int32)) (fun q6 =>
 obd (fX12_draws q6.2 i0 (2 : Int32)) (fun q8 =>
 bnd (q6.1 ||| (q8.1 <<< ((1 : Int32) &&& 31))) (fun x10 =>
 obd (fX12_draws q8.2 i0 (2 : Int32)) (fun q11 =>
 bnd (x10 ||| (q11.1 <<< ((2 : Int32) &&& 31))) (fun x13 =>
 lp (sX12_drawsLine_56 i0 q2 q4 x13) FU ((0 : Int32), q11.2))))))))))


def fX12_drawn (σ : Mem) (i0 : Nat) (p1 : Int32) (p2 : Int32) : Option (Int32 × Mem) :=
  obd (fX12_isIn σ p2 (0 : Int32) (1 : Int32)) (fun q1 =>
 if q1 = 0 then
 (some ((-2 : Int32), σ)) else
 (grd (inb (1 : Int32) (ln (i0 + 1))) (
 if (σ (i0 + 1) (ix (1 : Int32))) = 0 then
 (some ((-3 : Int32), σ)) else
 (obd (fX12_drawsLine σ i0 p1) (fun q5 =>
 if p2 = (1 : Int32) then
 (some ((q5 i0 13), q5)) else
 (obd (fX12_counted q5 i0) (fun q8 =>
 some (q8.1, q8.2))))))))

def sX12_chance_81 (p2 : Int32) (p3 : Int32) (a8 : Int32 × Int32 × Mem) (a10 : Int32) : Option ((Int32) ⊕ (Int32 × Mem)) :=
  grd (!decide (a10 = 0)) (
 if (irm a8.2.1 a10) = 0 then
 (grd (!decide (a10 = 0)) (
 if (irm p2 a10) = 0 then
 (oR (if p3 = 0 then
 (grd (!decide (a10 = 0)) (
 some ((a8.2.1 / a10), a8.2.2))) else
 (grd (!decide (a10 = 0)) (
 some ((p2 / a10), a8.2.2))))) else
 (bnd (a10 + (-1 : Int32)) (fun x14 =>
 oL x14)))) else
 (bnd (a10 + (-1 : Int32)) (fun x15 =>
 oL x15)))
def sX12_chance_40 (i0 : Nat) (p1 : Int32) (p2 : Int32) (p3 : Int32) (a8 : Int32 × Int32 × Mem) : Option ((Int32 × Int32 × Mem) ⊕ (Int32 × Mem)) :=
  if p2 ≤ a8.1 then
 (oR (lp (sX12_chance_81 p2 p3 a8) FU p2)) else
 (obd (fX12_drawsLine a8.2.2 i0 (p1 + a8.1)) (fun q16 =>
 obd (fX12_counted q16 i0) (fun q18 =>
 if q18.1 = (1 : Int32) then
 (bnd (a8.2.1 + (1 : Int32)) (fun x21 =>
 bnd (a8.1 + (1 : Int32)) (fun x22 =>
 oL (x22, x21, q18.2)))) else
 (bnd (a8.2.1 + (0 : Int32)) (fun x23 =>
 bnd (a8.1 + (1 : Int32)) (fun x24 =>
 oL (x24, x23, q18.2)))))))
def fX12_chance (σ : Mem) (i0 : Nat) (p1 : Int32) (p2 : Int32) (p3 : Int32) : Option (Int32 × Mem) :=
  obd (fX12_isIn σ p2 (1 : Int32) (8 : Int32)) (fun q1 =>
 if q1 = 0 then
 (some ((-2 : Int32), σ)) else
 (obd (fX12_isIn σ p3 (0 : Int32) (1 : Int32)) (fun q4 =>
 if q4 = 0 then
 (some ((-2 : Int32), σ)) else
 (grd (inb (1 : Int32) (ln (i0 + 1))) (
 if (σ (i0 + 1) (ix (1 : Int32))) = 0 then
 (some ((-3 : Int32), σ)) else
 (lp (sX12_chance_40 i0 p1 p2 p3) FU ((0 : Int32), (0 : Int32), σ)))))))

def sX12_tray_51 (i0 : Nat) (p1 : Int32) (p3 : Int32) (a11 : Int32 × Mem) : Option ((Int32 × Mem) ⊕ (Int32 × Mem)) :=
  if p3 ≤ a11.1 then
 (oR (some ((1 : Int32), a11.2))) else
 (grd (inb (((20 : Int32) * p1) + a11.1) (ln (i0 + 14))) (bnd (mw a11.2 (i0 + 14) (ix (((20 : Int32) * p1) + a11.1)) (-1 : Int32)) (fun m13 =>
 bnd (a11.1 + (1 : Int32)) (fun x14 =>
 oL (x14, m13)))))
def fX12_tray (σ : Mem) (i0 : Nat) (p1 : Int32) (p2 : Int32) (p3 : Int32) : Option (Int32 × Mem) :=
  obd (fX12_isIn σ p1 (0 : Int32) (3 : Int32)) (fun q1 =>
 if q1 = 0 then
 (some ((-2 : Int32), σ)) else
 (obd (fX12_isIn σ p2 (0 : Int32) (5 : Int32)) (fun q4 =>
 if q4 = 0 then
 (some ((-2 : Int32), σ)) else
 (if p3 ≤ (20 : Int32) then
 (if 0 ≤ p3 then
 (grd (inb p1 (ln (i0 + 12))) (bnd (mw σ (i0 + 12) (ix p1) p2) (fun m9 =>
 grd (inb p1 (ln (i0 + 13))) (bnd (mw m9 (i0 + 13) (ix p1) p3) (fun m10 =>
 lp (sX12_tray_51 i0 p1 p3) FU ((0 : Int32), m10)))))) else
 (some ((-14 : Int32), σ))) else
 (some ((-2 : Int32), σ))))))


def fX12_wrongPlace (σ : Mem) (i0 : Nat) (p1 : Int32) (p2 : Int32) : Option Int32 :=
  grd (inb p1 (ln (i0 + 12))) (
 if 0 ≤ (σ (i0 + 12) (ix p1)) then
 (grd (inb p1 (ln (i0 + 13))) (
 obd (fX12_isIn σ p2 (0 : Int32) ((σ (i0 + 13) (ix p1)) - (1 : Int32))) (fun q2 =>
 if q2 = 0 then
 (some (-12 : Int32)) else
 (some (0 : Int32))))) else
 (some (-11 : Int32)))


def fX12_lays (σ : Mem) (i0 : Nat) (p1 : Int32) (p2 : Int32) (p3 : Int32) : Option (Int32 × Mem) :=
  obd (fX12_isIn σ p1 (0 : Int32) (3 : Int32)) (fun q1 =>
 if q1 = 0 then
 (some ((-2 : Int32), σ)) else
 (bnd (fun (y4 : Unit) =>
 obd (fX12_wrongPlace σ i0 p1 p2) (fun q5 =>
 if q5 = 0 then
 (bnd (fun (y8 : Unit) =>
 grd (inb (((20 : Int32) * p1) + p2) (ln (i0 + 14))) (bnd (mw σ (i0 + 14) (ix (((20 : Int32) * p1) + p2)) p3) (fun m9 =>
 some ((1 : Int32), m9)))) (fun k8 =>
 if p3 = (-1 : Int32) then
 (k8 ()) else
 (obd (fX12_kind σ i0 p3) (fun q11 =>
 grd (inb p1 (ln (i0 + 12))) (
 obd (fX12_isUnder σ q11 (σ (i0 + 12) (ix p1))) (fun q13 =>
 if q13 = 0 then
 (some ((-16 : Int32), σ)) else
 (k8 ()))))))) else
 (some (q5, σ)))) (fun k4 =>
 if p3 = (-1 : Int32) then
 (k4 ()) else
 (obd (fX12_isWord σ i0 p3) (fun q17 =>
 if q17 = 0 then
 (some ((-2 : Int32), σ)) else
 (k4 ()))))))


def fX12_laid (σ : Mem) (i0 : Nat) (p1 : Int32) (p2 : Int32) : Option Int32 :=
  obd (fX12_isIn σ p1 (0 : Int32) (3 : Int32)) (fun q1 =>
 if q1 = 0 then
 (some (-2 : Int32)) else
 (obd (fX12_wrongPlace σ i0 p1 p2) (fun q4 =>
 if q4 = 0 then
 (grd (inb (((20 : Int32) * p1) + p2) (ln (i0 + 14))) (
 some (σ (i0 + 14) (ix (((20 : Int32) * p1) + p2))))) else
 (some q4))))

def sX12_like_59 (i0 : Nat) (p1 : Int32) (p2 : Int32) (a10 : Int32 × Mem) : Option ((Int32 × Mem) ⊕ (Int32 × Mem)) :=
  grd (inb p2 (ln (i0 + 13))) (
 if (a10.2 (i0 + 13) (ix p2)) ≤ a10.1 then
 (oR (grd (inb p1 (ln (i0 + 13))) (
 some ((a10.2 (i0 + 13) (ix p1)), a10.2)))) else
 (grd (inb (((20 : Int32) * p2) + a10.1) (ln (i0 + 14))) (
 grd (inb (((20 : Int32) * p1) + a10.1) (ln (i0 + 14))) (bnd (mw a10.2 (i0 + 14) (ix (((20 : Int32) * p1) + a10.1)) (a10.2 (i0 + 14) (ix (((20 : Int32) * p2) + a10.1)))) (fun m12 =>
 bnd (a10.1 + (1 : Int32)) (fun x13 =>
 oL (x13, m12)))))))
def fX12_like (σ : Mem) (i0 : Nat) (p1 : Int32) (p2 : Int32) : Option (Int32 × Mem) :=
  obd (fX12_isIn σ p1 (0 : Int32) (3 : Int32)) (fun q1 =>
 if q1 = 0 then
 (some ((-2 : Int32), σ)) else
 (obd (fX12_isIn σ p2 (0 : Int32) (3 : Int32)) (fun q4 =>
 if q4 = 0 then
 (some ((-2 : Int32), σ)) else
 (grd (inb p2 (ln (i0 + 12))) (
 if 0 ≤ (σ (i0 + 12) (ix p2)) then
 (grd (inb p2 (ln (i0 + 12))) (
 grd (inb p1 (ln (i0 + 12))) (bnd (mw σ (i0 + 12) (ix p1) (σ (i0 + 12) (ix p2))) (fun m8 =>
 grd (inb p2 (ln (i0 + 13))) (
 grd (inb p1 (ln (i0 + 13))) (bnd (mw m8 (i0 + 13) (ix p1) (m8 (i0 + 13) (ix p2))) (fun m9 =>
 lp (sX12_like_59 i0 p1 p2) FU ((0 : Int32), m9)))))))) else
 (some ((-11 : Int32), σ)))))))

def sX12_unlike_6 (i0 : Nat) (p1 : Int32) (q1 : Mem) (a3 : Int32) : Option ((Int32) ⊕ (Int32 × Mem)) :=
  grd (inb p1 (ln (i0 + 16))) (
 bnd (fun (y4 : Unit) =>
 oR (grd (inb p1 (ln (i0 + 16))) (
 if a3 = (q1 (i0 + 16) (ix p1)) then
 (if a3 = (q1 i0 14) then
 (some ((-1 : Int32), q1)) else
 (some (a3, q1))) else
 (some (a3, q1))))) (fun k4 =>
 if (q1 (i0 + 16) (ix p1)) ≤ a3 then
 (k4 ()) else
 (if (q1 i0 14) ≤ a3 then
 (k4 ()) else
 (grd (inb (((40 : Int32) * p1) + a3) (ln (i0 + 17))) (
 grd (inb a3 (ln (i0 + 8))) (
 grd (inb a3 (ln (i0 + 7))) (
 if (q1 (i0 + 17) (ix (((40 : Int32) * p1) + a3))) = ((q1 (i0 + 8) (ix a3)) - (q1 (i0 + 7) (ix a3))) then
 (bnd (a3 + (1 : Int32)) (fun x10 =>
 oL x10)) else
 (k4 ()))))))))
def fX12_unlike (σ : Mem) (i0 : Nat) (p1 : Int32) : Option (Int32 × Mem) :=
  obd (fX12_parts σ i0) (fun q1 =>
 lp (sX12_unlike_6 i0 p1 q1) FU (0 : Int32))


def fX12_isSheet (σ : Mem) (p0 : Int32) : Option Int32 :=
  obd (fX12_isIn σ p0 (0 : Int32) (3 : Int32)) (fun q1 =>
 some q1)

def sX12_tells_95 (i0 : Nat) (p1 : Int32) (p2 : Int32) (a18 : Int32 × Int32 × Mem) : Option ((Int32 × Int32 × Mem) ⊕ (Int32 × Mem)) :=
  bnd (fun (y19 : Int32) =>
 if y19 ≤ a18.1 then
 (oR (some (a18.2.1, a18.2.2))) else
 (bnd (fun (y21 : Int32) =>
 bnd (fun (y22 : Int32) =>
 obd (fX12_saysDesk a18.2.2 i0 y21 y22) (fun q23 =>
 obd (fX12_unlike q23 i0 p1) (fun q25 =>
 if 0 ≤ q25.1 then
 (bnd (a18.2.1 ||| (0 : Int32)) (fun x28 =>
 bnd (a18.1 + (1 : Int32)) (fun x29 =>
 oL (x29, x28, q25.2)))) else
 (bnd (a18.2.1 ||| ((1 : Int32) <<< (a18.1 &&& 31))) (fun x30 =>
 bnd (a18.1 + (1 : Int32)) (fun x31 =>
 oL (x31, x30, q25.2))))))) (fun k22 =>
 if p2 = (1 : Int32) then
 (k22 a18.1) else
 (grd (inb (3 : Int32) (ln (i0 + 1))) (
 k22 (a18.2.2 (i0 + 1) (ix (3 : Int32))))))) (fun k21 =>
 if p2 = (1 : Int32) then
 (obd (fX12_numbers a18.2.2 i0) (fun q34 =>
 k21 q34)) else
 (k21 a18.1)))) (fun k19 =>
 if p2 = (1 : Int32) then
 (k19 (4 : Int32)) else
 (k19 (8 : Int32)))
def fX12_tells (σ : Mem) (i0 : Nat) (p1 : Int32) (p2 : Int32) : Option (Int32 × Mem) :=
  obd (fX12_isSheet σ p1) (fun q1 =>
 if q1 = 0 then
 (some ((-2 : Int32), σ)) else
 (obd (fX12_isIn σ p2 (0 : Int32) (2 : Int32)) (fun q4 =>
 if q4 = 0 then
 (some ((-2 : Int32), σ)) else
 (grd (inb p1 (ln (i0 + 15))) (
 if 0 ≤ (σ (i0 + 15) (ix p1)) then
 (grd (inb p1 (ln (i0 + 16))) (
 if (σ (i0 + 16) (ix p1)) ≤ (6 : Int32) then
 (grd (inb (2 : Int32) (ln (i0 + 1))) (
 if (σ (i0 + 1) (ix (2 : Int32))) < 0 then
 (some ((-3 : Int32), σ)) else
 (grd (inb (2 : Int32) (ln (i0 + 1))) (
 obd (fX12_isFilled σ i0 (σ (i0 + 1) (ix (2 : Int32))) (7 : Int32) (i0 + 1)) (fun q10 =>
 if q10 = 0 then
 (some ((-3 : Int32), σ)) else
 (obd (fX12_saysDesk_ σ i0) (fun q13 =>
 if p2 = 0 then
 (obd (fX12_unlike q13 i0 p1) (fun q16 =>
 some (q16.1, q16.2))) else
 (lp (sX12_tells_95 i0 p1 p2) FU ((0 : Int32), (0 : Int32), q13))))))))) else
 (some ((-2 : Int32), σ)))) else
 (some ((-11 : Int32), σ)))))))

def sX12_image_2 (i0 : Nat) (a1 : Int32 × Mem) : Option ((Int32 × Mem) ⊕ (Int32 × Mem)) :=
  if (517 : Int32) ≤ a1.1 then
 (oR (bnd (mw a1.2 i0 2 (1 : Int32)) (fun m3 =>
 grd (inb (0 : Int32) (ln (i0 + 1))) (
 some ((m3 (i0 + 1) (ix (0 : Int32))), m3))))) else
 (grd (inb a1.1 (ln (i0 + 1))) (
 grd (inb a1.1 (ln (i0 + 2))) (bnd (mw a1.2 (i0 + 2) (ix a1.1) (a1.2 (i0 + 1) (ix a1.1))) (fun m4 =>
 bnd (a1.1 + (1 : Int32)) (fun x5 =>
 oL (x5, m4))))))
def fX12_image (σ : Mem) (i0 : Nat) : Option (Int32 × Mem) :=
  lp (sX12_image_2 i0) FU ((0 : Int32), σ)

def sX12_back_12 (i0 : Nat) (a2 : Int32 × Mem) : Option ((Int32 × Mem) ⊕ (Int32 × Mem)) :=
  if (517 : Int32) ≤ a2.1 then
 (oR (grd (inb (0 : Int32) (ln (i0 + 1))) (
 some ((a2.2 (i0 + 1) (ix (0 : Int32))), a2.2)))) else
 (grd (inb a2.1 (ln (i0 + 2))) (
 grd (inb a2.1 (ln (i0 + 1))) (bnd (mw a2.2 (i0 + 1) (ix a2.1) (a2.2 (i0 + 2) (ix a2.1))) (fun m4 =>
 bnd (a2.1 + (1 : Int32)) (fun x5 =>
 oL (x5, m4))))))
def fX12_back (σ : Mem) (i0 : Nat) : Option (Int32 × Mem) :=
  if (σ i0 2) = 0 then
 (some ((-3 : Int32), σ)) else
 (lp (sX12_back_12 i0) FU ((0 : Int32), σ))


def fX12_count (σ : Mem) (i0 : Nat) (p1 : Int32) : Option (Int32 × Mem) :=
  if p1 = (2 : Int32) then
 (obd (fX12_takesText σ i0) (fun q2 =>
 obd (fX12_parts q2 i0) (fun q4 =>
 some ((q4 i0 14), q4)))) else
 (bnd (fun (y6 : Mem) =>
 if p1 = 0 then
 (grd (inb (0 : Int32) (ln (i0 + 1))) (
 some ((y6 (i0 + 1) (ix (0 : Int32))), y6))) else
 (if p1 = (1 : Int32) then
 (grd (inb (1 : Int32) (ln (i0 + 1))) (
 some ((y6 (i0 + 1) (ix (1 : Int32))), y6))) else
 (if p1 = (3 : Int32) then
 (some ((y6 i0 13), y6)) else
 (if p1 = (4 : Int32) then
 (some ((y6 i0 4), y6)) else
 (some ((-2 : Int32), y6)))))) (fun k6 =>
 if p1 = (3 : Int32) then
 (obd (fX12_saysDesk_ σ i0) (fun q12 =>
 k6 q12)) else
 (k6 σ)))

def sX12_sheet_65 (i0 : Nat) (p1 : Int32) (a12 : Int32 × Mem) : Option ((Int32 × Mem) ⊕ (Int32 × Mem)) :=
  grd (inb p1 (ln (i0 + 16))) (
 if (a12.2 (i0 + 16) (ix p1)) ≤ a12.1 then
 (oR (some ((1 : Int32), a12.2))) else
 (grd (inb (((40 : Int32) * p1) + a12.1) (ln (i0 + 17))) (bnd (mw a12.2 (i0 + 17) (ix (((40 : Int32) * p1) + a12.1)) (0 : Int32)) (fun m14 =>
 bnd (a12.1 + (1 : Int32)) (fun x15 =>
 oL (x15, m14))))))
def fX12_sheet (σ : Mem) (i0 : Nat) (p1 : Int32) (p2 : Int32) (p3 : Int32) : Option (Int32 × Mem) :=
  obd (fX12_isSheet σ p1) (fun q1 =>
 if q1 = 0 then
 (some ((-2 : Int32), σ)) else
 (obd (fX12_isIn σ p2 (-1 : Int32) (1 : Int32)) (fun q4 =>
 if q4 = 0 then
 (some ((-2 : Int32), σ)) else
 (bnd (fun (y7 : Unit) =>
 bnd (fun (y8 : Unit) =>
 grd (inb p1 (ln (i0 + 15))) (bnd (mw σ (i0 + 15) (ix p1) p2) (fun m9 =>
 bnd (fun (y10 : Int32) =>
 grd (inb p1 (ln (i0 + 16))) (bnd (mw m9 (i0 + 16) (ix p1) y10) (fun m11 =>
 lp (sX12_sheet_65 i0 p1) FU ((0 : Int32), m11)))) (fun k10 =>
 if 0 ≤ p2 then
 (k10 p3) else
 (k10 (0 : Int32)))))) (fun k8 =>
 if p2 < 0 then
 (k8 ()) else
 (if 0 ≤ p3 then
 (k8 ()) else
 (some ((-14 : Int32), σ))))) (fun k7 =>
 if p2 < 0 then
 (k7 ()) else
 (if p3 ≤ (40 : Int32) then
 (k7 ()) else
 (some ((-2 : Int32), σ))))))))


def fX12_put (σ : Mem) (i0 : Nat) (p1 : Int32) (p2 : Int32) (p3 : Int32) : Option (Int32 × Mem) :=
  obd (fX12_isSheet σ p1) (fun q1 =>
 if q1 = 0 then
 (some ((-2 : Int32), σ)) else
 (grd (inb p1 (ln (i0 + 15))) (
 if 0 ≤ (σ (i0 + 15) (ix p1)) then
 (grd (inb p1 (ln (i0 + 16))) (
 obd (fX12_isIn σ p2 (0 : Int32) ((σ (i0 + 16) (ix p1)) - (1 : Int32))) (fun q5 =>
 if q5 = 0 then
 (some ((-12 : Int32), σ)) else
 (grd (inb p1 (ln (i0 + 15))) (
 bnd (fun (y8 : Int32) =>
 grd (inb (((40 : Int32) * p1) + p2) (ln (i0 + 17))) (bnd (mw σ (i0 + 17) (ix (((40 : Int32) * p1) + p2)) y8) (fun m9 =>
 some ((1 : Int32), m9)))) (fun k8 =>
 if (σ (i0 + 15) (ix p1)) = 0 then
 (k8 ((p3).toInt16.toInt32)) else
 (k8 p3))))))) else
 (some ((-11 : Int32), σ)))))

def sX12_copy_140 (i0 : Nat) (p3 : Int32) (p4 : Int32) (p5 : Int32) (a17 : Int32 × Mem) : Option ((Int32 × Mem) ⊕ (Int32 × Mem)) :=
  if p5 ≤ a17.1 then
 (oR (some (p5, a17.2))) else
 (grd (inb a17.1 (ln (i0 + 18))) (
 grd (inb ((((40 : Int32) * p3) + p4) + a17.1) (ln (i0 + 17))) (bnd (mw a17.2 (i0 + 17) (ix ((((40 : Int32) * p3) + p4) + a17.1)) (a17.2 (i0 + 18) (ix a17.1))) (fun m19 =>
 bnd (a17.1 + (1 : Int32)) (fun x20 =>
 oL (x20, m19))))))
def sX12_copy_103 (i0 : Nat) (p1 : Int32) (p2 : Int32) (p3 : Int32) (p4 : Int32) (p5 : Int32) (a15 : Int32 × Mem) : Option ((Int32 × Mem) ⊕ (Int32 × Mem)) :=
  if p5 ≤ a15.1 then
 (oR (lp (sX12_copy_140 i0 p3 p4 p5) FU ((0 : Int32), a15.2))) else
 (grd (inb ((((40 : Int32) * p1) + p2) + a15.1) (ln (i0 + 17))) (
 grd (inb a15.1 (ln (i0 + 18))) (bnd (mw a15.2 (i0 + 18) (ix a15.1) (a15.2 (i0 + 17) (ix ((((40 : Int32) * p1) + p2) + a15.1)))) (fun m21 =>
 bnd (a15.1 + (1 : Int32)) (fun x22 =>
 oL (x22, m21))))))
def fX12_copy (σ : Mem) (i0 : Nat) (p1 : Int32) (p2 : Int32) (p3 : Int32) (p4 : Int32) (p5 : Int32) : Option (Int32 × Mem) :=
  obd (fX12_isSheet σ p1) (fun q1 =>
 if q1 = 0 then
 (some ((-2 : Int32), σ)) else
 (obd (fX12_isSheet σ p3) (fun q4 =>
 if q4 = 0 then
 (some ((-2 : Int32), σ)) else
 (grd (inb p1 (ln (i0 + 15))) (
 if (σ (i0 + 15) (ix p1)) < 0 then
 (some ((-11 : Int32), σ)) else
 (grd (inb p3 (ln (i0 + 15))) (
 if 0 ≤ (σ (i0 + 15) (ix p3)) then
 (grd (inb p1 (ln (i0 + 15))) (
 grd (inb p3 (ln (i0 + 15))) (
 if (σ (i0 + 15) (ix p1)) = (σ (i0 + 15) (ix p3)) then
 (if p5 < 0 then
 (some ((-12 : Int32), σ)) else
 (if p2 < 0 then
 (some ((-12 : Int32), σ)) else
 (if p4 < 0 then
 (some ((-12 : Int32), σ)) else
 (grd (inb p1 (ln (i0 + 16))) (
 if ((σ (i0 + 16) (ix p1)) - p5) < p2 then
 (some ((-12 : Int32), σ)) else
 (grd (inb p3 (ln (i0 + 16))) (
 if p4 ≤ ((σ (i0 + 16) (ix p3)) - p5) then
 (lp (sX12_copy_103 i0 p1 p2 p3 p4 p5) FU ((0 : Int32), σ)) else
 (some ((-12 : Int32), σ))))))))) else
 (some ((-13 : Int32), σ))))) else
 (some ((-11 : Int32), σ)))))))))


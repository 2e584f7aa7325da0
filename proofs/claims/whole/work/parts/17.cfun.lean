def fX0_gather_7 (n : Nat) : Nat → (MS → Option MS) → Int32 → Int32 → MS → Option MS
  | 0, _, _, _, _ => none
  | fu + 1, k, v1, v2, M => (if 6 ≤ v2 then (k M) else (gd v2 6 (gd v2 6 (om (fX5_buyerOf n v2) (fX0_gather_7 n fu k v1 (v2 + 1) (u2 (u2 M 12 v2.toNatClampNeg (-1)) 13 v2.toNatClampNeg 0)) (fun j5 => (if (fX8_isIn v1 v2) = 0 then (fX0_gather_7 n fu k v1 (v2 + 1) (u2 (u2 M 12 v2.toNatClampNeg (-1)) 13 v2.toNatClampNeg 0)) else (gd v2 6 (gd v2 6 (if (vhat ((u2 (u2 (u2 (u2 M 12 v2.toNatClampNeg (-1)) 13 v2.toNatClampNeg 0) 12 v2.toNatClampNeg ((u2 (u2 M 12 v2.toNatClampNeg (-1)) 13 v2.toNatClampNeg 0) 22 j5)) 13 v2.toNatClampNeg ((u2 (u2 (u2 M 12 v2.toNatClampNeg (-1)) 13 v2.toNatClampNeg 0) 12 v2.toNatClampNeg ((u2 (u2 M 12 v2.toNatClampNeg (-1)) 13 v2.toNatClampNeg 0) 22 j5)) 21 j5)) 20 j5)) = 0 then (fX0_gather_7 n fu k v1 (v2 + 1) (u2 (u2 (u2 (u2 (u2 M 12 v2.toNatClampNeg (-1)) 13 v2.toNatClampNeg 0) 12 v2.toNatClampNeg ((u2 (u2 M 12 v2.toNatClampNeg (-1)) 13 v2.toNatClampNeg 0) 22 j5)) 13 v2.toNatClampNeg ((u2 (u2 (u2 M 12 v2.toNatClampNeg (-1)) 13 v2.toNatClampNeg 0) 12 v2.toNatClampNeg ((u2 (u2 M 12 v2.toNatClampNeg (-1)) 13 v2.toNatClampNeg 0) 22 j5)) 21 j5)) 11 1 (((u2 (u2 (u2 (u2 M 12 v2.toNatClampNeg (-1)) 13 v2.toNatClampNeg 0) 12 v2.toNatClampNeg ((u2 (u2 M 12 v2.toNatClampNeg (-1)) 13 v2.toNatClampNeg 0) 22 j5)) 13 v2.toNatClampNeg ((u2 (u2 (u2 M 12 v2.toNatClampNeg (-1)) 13 v2.toNatClampNeg 0) 12 v2.toNatClampNeg ((u2 (u2 M 12 v2.toNatClampNeg (-1)) 13 v2.toNatClampNeg 0) 22 j5)) 21 j5)) 11 1) ||| 0))) else (fX0_gather_7 n fu k v1 (v2 + 1) (u2 (u2 (u2 (u2 (u2 M 12 v2.toNatClampNeg (-1)) 13 v2.toNatClampNeg 0) 12 v2.toNatClampNeg ((u2 (u2 M 12 v2.toNatClampNeg (-1)) 13 v2.toNatClampNeg 0) 22 j5)) 13 v2.toNatClampNeg ((u2 (u2 (u2 M 12 v2.toNatClampNeg (-1)) 13 v2.toNatClampNeg 0) 12 v2.toNatClampNeg ((u2 (u2 M 12 v2.toNatClampNeg (-1)) 13 v2.toNatClampNeg 0) 22 j5)) 21 j5)) 11 1 (((u2 (u2 (u2 (u2 M 12 v2.toNatClampNeg (-1)) 13 v2.toNatClampNeg 0) 12 v2.toNatClampNeg ((u2 (u2 M 12 v2.toNatClampNeg (-1)) 13 v2.toNatClampNeg 0) 22 j5)) 13 v2.toNatClampNeg ((u2 (u2 (u2 M 12 v2.toNatClampNeg (-1)) 13 v2.toNatClampNeg 0) 12 v2.toNatClampNeg ((u2 (u2 M 12 v2.toNatClampNeg (-1)) 13 v2.toNatClampNeg 0) 22 j5)) 21 j5)) 11 1) ||| ((1 : Int32) <<< (v2 &&& 31))))))))))))))
def fX0_gather (n : Nat) (p1 : Int32) (M : MS) : Option MS :=
  (fX0_gather_7 n 300 (fun M10 => (some M10)) p1 (0 : Int32) (u2 M 11 1 0))
def fX0_offer_2 (n : Nat) : Nat → (MS → Option MS) → Int32 → Int32 → MS → Option MS
  | 0, _, _, _, _ => none
  | fu + 1, k, v1, v2, M => (if 6 ≤ v2 then (k M) else (gd v2 6 (om (fX5_buyerOf n v2) (fX0_offer_2 n fu k v1 (v2 + 1) (u2 M 14 v2.toNatClampNeg 0)) (fun j4 => (gd v2 6 (if ((u2 M 14 v2.toNatClampNeg 0) 12 v2.toNatClampNeg) = (-1) then (fX0_offer_2 n fu k v1 (v2 + 1) (u2 M 14 v2.toNatClampNeg 0)) else (if (fX8_isLot v1) = 0 then (fX0_offer_2 n fu k v1 (v2 + 1) (u2 M 14 v2.toNatClampNeg 0)) else (gd v1 4 (gd v2 6 (gd v2 6 (fX0_offer_2 n fu k v1 (v2 + 1) (u2 (u2 M 14 v2.toNatClampNeg 0) 14 v2.toNatClampNeg (vlim ((u2 M 14 v2.toNatClampNeg 0) 20 j4) ((u2 M 14 v2.toNatClampNeg 0) 23 (6 * v1.toNatClampNeg + j4)) ((u2 M 14 v2.toNatClampNeg 0) 13 v2.toNatClampNeg))))))))))))))
def fX0_offer (n : Nat) (p1 : Int32) (M : MS) : Option MS :=
  (fX0_offer_2 n 300 (fun M11 => (some M11)) p1 (0 : Int32) M)
def fX0_silenceAllButFirst_5 (n : Nat) : Nat → (Int32 → MS → Option MS) → Int32 → Int32 → Int32 → MS → Option MS
  | 0, _, _, _, _, _ => none
  | fu + 1, k, v1, v2, v3, M => (if 6 ≤ v3 then (k v2 M) else (if (fX8_isIn v1 v3) = 0 then (fX0_silenceAllButFirst_5 n fu k v1 v2 (v3 + 1) M) else (if v2 = (-9) then (fX0_silenceAllButFirst_5 n fu k v1 v3 (v3 + 1) M) else (gd v3 6 (gd v2 6 (if (M 14 v3.toNatClampNeg) ≤ (M 14 v2.toNatClampNeg) then (fX0_silenceAllButFirst_5 n fu k v1 v2 (v3 + 1) M) else (fX0_silenceAllButFirst_5 n fu k v1 v3 (v3 + 1) M)))))))
def fX0_silenceAllButFirst_50 (n : Nat) : Nat → (MS → Option MS) → Int32 → Int32 → Int32 → MS → Option MS
  | 0, _, _, _, _, _ => none
  | fu + 1, k, v1, v2, v3, M => (if 6 ≤ v3 then (k M) else (if (fX8_isIn v1 v3) = 0 then (fX0_silenceAllButFirst_50 n fu k v1 v2 (v3 + 1) M) else (if v3 = v2 then (fX0_silenceAllButFirst_50 n fu k v1 v2 (v3 + 1) M) else (gd v3 6 (fX0_silenceAllButFirst_50 n fu k v1 v2 (v3 + 1) (u2 M 14 v3.toNatClampNeg 0))))))
def fX0_silenceAllButFirst (n : Nat) (p1 : Int32) (M : MS) : Option MS :=
  (fX0_silenceAllButFirst_5 n 300 (fun x7 M8 => (fX0_silenceAllButFirst_50 n 300 (fun M13 => (some M13)) p1 x7 (0 : Int32) M8)) p1 (-9 : Int32) (0 : Int32) M)
def fX5_seatsTwice (n : Nat) (M : MS) : Int32 :=
  (if (M 10 3) = 0 then (M 10 4) else (if (M 10 3) = 1 then ((M 10 4) ^^^ (-1)) else 0))
def fX0_lineUp_53 (n : Nat) : Nat → (Int32 → MS → Option MS) → Int32 → Int32 → MS → Option MS
  | 0, _, _, _, _ => none
  | fu + 1, k, v1, v2, M => (if v2 ≤ 0 then (k v2 M) else (gd (v2 - 1) 6 (gd (M 15 (v2 - 1).toNatClampNeg) 6 (gd v1 6 (if (M 12 (M 15 (v2 - 1).toNatClampNeg).toNatClampNeg) ≤ (M 12 v1.toNatClampNeg) then (k v2 M) else (gd (v2 - 1) 6 (gd v2 6 (fX0_lineUp_53 n fu k v1 (v2 + (-1)) (u2 M 15 v2.toNatClampNeg (M 15 (v2 - 1).toNatClampNeg))))))))))
def fX0_lineUp_12 (n : Nat) : Nat → (MS → Option MS) → Int32 → MS → Option MS
  | 0, _, _, _ => none
  | fu + 1, k, v1, M => (if 6 ≤ v1 then (k M) else (gd v1 6 (if (M 12 v1.toNatClampNeg) = (-1) then (fX0_lineUp_12 n fu k (v1 + 1) M) else (gd v1 6 (fX0_lineUp_53 n 300 (fun x12 M13 => (gd x12 6 (fX0_lineUp_12 n fu k (v1 + 1) (u2 (u2 M13 15 x12.toNatClampNeg v1) 11 0 (((u2 M13 15 x12.toNatClampNeg v1) 11 0) + 1))))) v1 ((u2 M 11 2 ((M 11 2) ||| ((1 : Int32) <<< ((M 12 v1.toNatClampNeg) &&& 31)))) 11 0) (u2 M 11 2 ((M 11 2) ||| ((1 : Int32) <<< ((M 12 v1.toNatClampNeg) &&& 31)))))))))
def fX0_lineUp (n : Nat) (M : MS) : Option MS :=
  (fX0_lineUp_12 n 300 (fun M15 => (some M15)) (0 : Int32) (u2 (u2 M 11 0 0) 11 2 0))
def fX0_riseBy (n : Nat) (p1 : Int32) (M : MS) : Option Int32 :=
  (gd p1 6 (if (fX8_isIn (M 11 3) (M 12 p1.toNatClampNeg)) = 0 then (some 1) else (some 2)))
def fX0_isSeen (n : Nat) (p1 : Int32) (M : MS) : Option Int32 :=
  (gd p1 6 (if (fX8_isIn (M 11 1) p1) = 0 then (some 1) else (if ((M 12 p1.toNatClampNeg) - (M 10 2)) < 0 then (some 1) else (if (fX8_isIn (M 11 2) ((M 12 p1.toNatClampNeg) - (M 10 2))) = 0 then (some 1) else (some 0)))))
def fX0_nextBidder_2 (n : Nat) : Nat → (Unit → Option Int32) → Int32 → MS → Option Int32
  | 0, _, _, _ => none
  | fu + 1, k, v1, M => (if (M 11 0) ≤ v1 then (k ()) else (gd v1 6 (if (M 15 v1.toNatClampNeg) = (M 11 5) then (fX0_nextBidder_2 n fu k (v1 + 1) M) else ((fX0_riseBy n (M 15 v1.toNatClampNeg) M).bind fun r4 => (gd (M 15 v1.toNatClampNeg) 6 (if (M 14 (M 15 v1.toNatClampNeg).toNatClampNeg) < ((M 11 4) + r4) then (fX0_nextBidder_2 n fu k (v1 + 1) M) else ((fX0_isSeen n (M 15 v1.toNatClampNeg) M).bind fun r8 => (if r8 = 0 then (fX0_nextBidder_2 n fu k (v1 + 1) M) else (some (M 15 v1.toNatClampNeg))))))))))
def fX0_nextBidder (n : Nat) (M : MS) : Option Int32 :=
  (fX0_nextBidder_2 n 300 (fun (_ : Unit) => (some (-9))) (0 : Int32) M)
def fX0_takeBidOf (n : Nat) (p1 : Int32) (M : MS) : Option MS :=
  ((fX0_riseBy n p1 M).bind fun r1 => (if 99 ≤ ((u2 (u2 M 11 4 ((M 11 4) + r1)) 11 5 p1) 11 6) then (gd p1 6 (if (fX8_isIn ((u2 (u2 M 11 4 ((M 11 4) + r1)) 11 5 p1) 10 5) ((u2 (u2 M 11 4 ((M 11 4) + r1)) 11 5 p1) 12 p1.toNatClampNeg)) = 0 then (if (fX8_isIn ((u2 (u2 M 11 4 ((M 11 4) + r1)) 11 5 p1) 11 2) (((u2 (u2 M 11 4 ((M 11 4) + r1)) 11 5 p1) 12 p1.toNatClampNeg) + 1)) = 0 then (gd p1 6 (some (u2 (u2 (u2 (u2 (u2 M 11 4 ((M 11 4) + r1)) 11 5 p1) 11 2 (((u2 (u2 M 11 4 ((M 11 4) + r1)) 11 5 p1) 11 2) &&& (((1 : Int32) <<< (((u2 (u2 M 11 4 ((M 11 4) + r1)) 11 5 p1) 12 p1.toNatClampNeg) &&& 31)) ^^^ (-1)))) 11 2 (((u2 (u2 (u2 M 11 4 ((M 11 4) + r1)) 11 5 p1) 11 2 (((u2 (u2 M 11 4 ((M 11 4) + r1)) 11 5 p1) 11 2) &&& (((1 : Int32) <<< (((u2 (u2 M 11 4 ((M 11 4) + r1)) 11 5 p1) 12 p1.toNatClampNeg) &&& 31)) ^^^ (-1)))) 11 2) ||| ((1 : Int32) <<< ((((u2 (u2 M 11 4 ((M 11 4) + r1)) 11 5 p1) 12 p1.toNatClampNeg) + 1) &&& 31)))) 12 p1.toNatClampNeg (((u2 (u2 M 11 4 ((M 11 4) + r1)) 11 5 p1) 12 p1.toNatClampNeg) + 1)))) else (some (u2 (u2 M 11 4 ((M 11 4) + r1)) 11 5 p1))) else (some (u2 (u2 M 11 4 ((M 11 4) + r1)) 11 5 p1)))) else (gd ((u2 (u2 M 11 4 ((M 11 4) + r1)) 11 5 p1) 11 6) 99 (gd p1 6 (if (fX8_isIn ((u2 (u2 (u2 (u2 M 11 4 ((M 11 4) + r1)) 11 5 p1) 16 ((u2 (u2 M 11 4 ((M 11 4) + r1)) 11 5 p1) 11 6).toNatClampNeg ((100 * ((u2 (u2 M 11 4 ((M 11 4) + r1)) 11 5 p1) 11 4)) + p1)) 11 6 (((u2 (u2 (u2 M 11 4 ((M 11 4) + r1)) 11 5 p1) 16 ((u2 (u2 M 11 4 ((M 11 4) + r1)) 11 5 p1) 11 6).toNatClampNeg ((100 * ((u2 (u2 M 11 4 ((M 11 4) + r1)) 11 5 p1) 11 4)) + p1)) 11 6) + 1)) 10 5) ((u2 (u2 (u2 (u2 M 11 4 ((M 11 4) + r1)) 11 5 p1) 16 ((u2 (u2 M 11 4 ((M 11 4) + r1)) 11 5 p1) 11 6).toNatClampNeg ((100 * ((u2 (u2 M 11 4 ((M 11 4) + r1)) 11 5 p1) 11 4)) + p1)) 11 6 (((u2 (u2 (u2 M 11 4 ((M 11 4) + r1)) 11 5 p1) 16 ((u2 (u2 M 11 4 ((M 11 4) + r1)) 11 5 p1) 11 6).toNatClampNeg ((100 * ((u2 (u2 M 11 4 ((M 11 4) + r1)) 11 5 p1) 11 4)) + p1)) 11 6) + 1)) 12 p1.toNatClampNeg)) = 0 then (if (fX8_isIn ((u2 (u2 (u2 (u2 M 11 4 ((M 11 4) + r1)) 11 5 p1) 16 ((u2 (u2 M 11 4 ((M 11 4) + r1)) 11 5 p1) 11 6).toNatClampNeg ((100 * ((u2 (u2 M 11 4 ((M 11 4) + r1)) 11 5 p1) 11 4)) + p1)) 11 6 (((u2 (u2 (u2 M 11 4 ((M 11 4) + r1)) 11 5 p1) 16 ((u2 (u2 M 11 4 ((M 11 4) + r1)) 11 5 p1) 11 6).toNatClampNeg ((100 * ((u2 (u2 M 11 4 ((M 11 4) + r1)) 11 5 p1) 11 4)) + p1)) 11 6) + 1)) 11 2) (((u2 (u2 (u2 (u2 M 11 4 ((M 11 4) + r1)) 11 5 p1) 16 ((u2 (u2 M 11 4 ((M 11 4) + r1)) 11 5 p1) 11 6).toNatClampNeg ((100 * ((u2 (u2 M 11 4 ((M 11 4) + r1)) 11 5 p1) 11 4)) + p1)) 11 6 (((u2 (u2 (u2 M 11 4 ((M 11 4) + r1)) 11 5 p1) 16 ((u2 (u2 M 11 4 ((M 11 4) + r1)) 11 5 p1) 11 6).toNatClampNeg ((100 * ((u2 (u2 M 11 4 ((M 11 4) + r1)) 11 5 p1) 11 4)) + p1)) 11 6) + 1)) 12 p1.toNatClampNeg) + 1)) = 0 then (gd p1 6 (some (u2 (u2 (u2 (u2 (u2 (u2 (u2 M 11 4 ((M 11 4) + r1)) 11 5 p1) 16 ((u2 (u2 M 11 4 ((M 11 4) + r1)) 11 5 p1) 11 6).toNatClampNeg ((100 * ((u2 (u2 M 11 4 ((M 11 4) + r1)) 11 5 p1) 11 4)) + p1)) 11 6 (((u2 (u2 (u2 M 11 4 ((M 11 4) + r1)) 11 5 p1) 16 ((u2 (u2 M 11 4 ((M 11 4) + r1)) 11 5 p1) 11 6).toNatClampNeg ((100 * ((u2 (u2 M 11 4 ((M 11 4) + r1)) 11 5 p1) 11 4)) + p1)) 11 6) + 1)) 11 2 (((u2 (u2 (u2 (u2 M 11 4 ((M 11 4) + r1)) 11 5 p1) 16 ((u2 (u2 M 11 4 ((M 11 4) + r1)) 11 5 p1) 11 6).toNatClampNeg ((100 * ((u2 (u2 M 11 4 ((M 11 4) + r1)) 11 5 p1) 11 4)) + p1)) 11 6 (((u2 (u2 (u2 M 11 4 ((M 11 4) + r1)) 11 5 p1) 16 ((u2 (u2 M 11 4 ((M 11 4) + r1)) 11 5 p1) 11 6).toNatClampNeg ((100 * ((u2 (u2 M 11 4 ((M 11 4) + r1)) 11 5 p1) 11 4)) + p1)) 11 6) + 1)) 11 2) &&& (((1 : Int32) <<< (((u2 (u2 (u2 (u2 M 11 4 ((M 11 4) + r1)) 11 5 p1) 16 ((u2 (u2 M 11 4 ((M 11 4) + r1)) 11 5 p1) 11 6).toNatClampNeg ((100 * ((u2 (u2 M 11 4 ((M 11 4) + r1)) 11 5 p1) 11 4)) + p1)) 11 6 (((u2 (u2 (u2 M 11 4 ((M 11 4) + r1)) 11 5 p1) 16 ((u2 (u2 M 11 4 ((M 11 4) + r1)) 11 5 p1) 11 6).toNatClampNeg ((100 * ((u2 (u2 M 11 4 ((M 11 4) + r1)) 11 5 p1) 11 4)) + p1)) 11 6) + 1)) 12 p1.toNatClampNeg) &&& 31)) ^^^ (-1)))) 11 2 (((u2 (u2 (u2 (u2 (u2 M 11 4 ((M 11 4) + r1)) 11 5 p1) 16 ((u2 (u2 M 11 4 ((M 11 4) + r1)) 11 5 p1) 11 6).toNatClampNeg ((100 * ((u2 (u2 M 11 4 ((M 11 4) + r1)) 11 5 p1) 11 4)) + p1)) 11 6 (((u2 (u2 (u2 M 11 4 ((M 11 4) + r1)) 11 5 p1) 16 ((u2 (u2 M 11 4 ((M 11 4) + r1)) 11 5 p1) 11 6).toNatClampNeg ((100 * ((u2 (u2 M 11 4 ((M 11 4) + r1)) 11 5 p1) 11 4)) + p1)) 11 6) + 1)) 11 2 (((u2 (u2 (u2 (u2 M 11 4 ((M 11 4) + r1)) 11 5 p1) 16 ((u2 (u2 M 11 4 ((M 11 4) + r1)) 11 5 p1) 11 6).toNatClampNeg ((100 * ((u2 (u2 M 11 4 ((M 11 4) + r1)) 11 5 p1) 11 4)) + p1)) 11 6 (((u2 (u2 (u2 M 11 4 ((M 11 4) + r1)) 11 5 p1) 16 ((u2 (u2 M 11 4 ((M 11 4) + r1)) 11 5 p1) 11 6).toNatClampNeg ((100 * ((u2 (u2 M 11 4 ((M 11 4) + r1)) 11 5 p1) 11 4)) + p1)) 11 6) + 1)) 11 2) &&& (((1 : Int32) <<< (((u2 (u2 (u2 (u2 M 11 4 ((M 11 4) + r1)) 11 5 p1) 16 ((u2 (u2 M 11 4 ((M 11 4) + r1)) 11 5 p1) 11 6).toNatClampNeg ((100 * ((u2 (u2 M 11 4 ((M 11 4) + r1)) 11 5 p1) 11 4)) + p1)) 11 6 (((u2 (u2 (u2 M 11 4 ((M 11 4) + r1)) 11 5 p1) 16 ((u2 (u2 M 11 4 ((M 11 4) + r1)) 11 5 p1) 11 6).toNatClampNeg ((100 * ((u2 (u2 M 11 4 ((M 11 4) + r1)) 11 5 p1) 11 4)) + p1)) 11 6) + 1)) 12 p1.toNatClampNeg) &&& 31)) ^^^ (-1)))) 11 2) ||| ((1 : Int32) <<< ((((u2 (u2 (u2 (u2 M 11 4 ((M 11 4) + r1)) 11 5 p1) 16 ((u2 (u2 M 11 4 ((M 11 4) + r1)) 11 5 p1) 11 6).toNatClampNeg ((100 * ((u2 (u2 M 11 4 ((M 11 4) + r1)) 11 5 p1) 11 4)) + p1)) 11 6 (((u2 (u2 (u2 M 11 4 ((M 11 4) + r1)) 11 5 p1) 16 ((u2 (u2 M 11 4 ((M 11 4) + r1)) 11 5 p1) 11 6).toNatClampNeg ((100 * ((u2 (u2 M 11 4 ((M 11 4) + r1)) 11 5 p1) 11 4)) + p1)) 11 6) + 1)) 12 p1.toNatClampNeg) + 1) &&& 31)))) 12 p1.toNatClampNeg (((u2 (u2 (u2 (u2 M 11 4 ((M 11 4) + r1)) 11 5 p1) 16 ((u2 (u2 M 11 4 ((M 11 4) + r1)) 11 5 p1) 11 6).toNatClampNeg ((100 * ((u2 (u2 M 11 4 ((M 11 4) + r1)) 11 5 p1) 11 4)) + p1)) 11 6 (((u2 (u2 (u2 M 11 4 ((M 11 4) + r1)) 11 5 p1) 16 ((u2 (u2 M 11 4 ((M 11 4) + r1)) 11 5 p1) 11 6).toNatClampNeg ((100 * ((u2 (u2 M 11 4 ((M 11 4) + r1)) 11 5 p1) 11 4)) + p1)) 11 6) + 1)) 12 p1.toNatClampNeg) + 1)))) else (some (u2 (u2 (u2 (u2 M 11 4 ((M 11 4) + r1)) 11 5 p1) 16 ((u2 (u2 M 11 4 ((M 11 4) + r1)) 11 5 p1) 11 6).toNatClampNeg ((100 * ((u2 (u2 M 11 4 ((M 11 4) + r1)) 11 5 p1) 11 4)) + p1)) 11 6 (((u2 (u2 (u2 M 11 4 ((M 11 4) + r1)) 11 5 p1) 16 ((u2 (u2 M 11 4 ((M 11 4) + r1)) 11 5 p1) 11 6).toNatClampNeg ((100 * ((u2 (u2 M 11 4 ((M 11 4) + r1)) 11 5 p1) 11 4)) + p1)) 11 6) + 1)))) else (some (u2 (u2 (u2 (u2 M 11 4 ((M 11 4) + r1)) 11 5 p1) 16 ((u2 (u2 M 11 4 ((M 11 4) + r1)) 11 5 p1) 11 6).toNatClampNeg ((100 * ((u2 (u2 M 11 4 ((M 11 4) + r1)) 11 5 p1) 11 4)) + p1)) 11 6 (((u2 (u2 (u2 M 11 4 ((M 11 4) + r1)) 11 5 p1) 16 ((u2 (u2 M 11 4 ((M 11 4) + r1)) 11 5 p1) 11 6).toNatClampNeg ((100 * ((u2 (u2 M 11 4 ((M 11 4) + r1)) 11 5 p1) 11 4)) + p1)) 11 6) + 1))))))))
def fX0_hold_33 (n : Nat) : Nat → (MS → Option MS) → Int32 → MS → Option MS
  | 0, _, _, _ => none
  | fu + 1, k, v1, M => (if 99 ≤ v1 then (k M) else ((fX0_nextBidder n M).bind fun r4 => (if r4 = (-9) then (k M) else ((fX0_takeBidOf n r4 M).bind fun r7 => (fX0_hold_33 n fu k (v1 + 1) r7)))))
def fX0_hold (n : Nat) (M : MS) : Option MS :=
  ((fX0_lineUp n (u2 (u2 (u2 (u2 M 11 4 0) 11 5 (-9)) 11 6 0) 11 3 (fX5_seatsTwice n (u2 (u2 (u2 M 11 4 0) 11 5 (-9)) 11 6 0)))).bind fun r1 => (fX0_hold_33 n 300 (fun M9 => (some M9)) (0 : Int32) r1))
def fX0_sellOn (n : Nat) (p1 : Int32) (M : MS) : Option (Int32 × MS) :=
  ((fX0_offer n p1 M).bind fun r1 => ((fX0_hold n r1).bind fun r3 => (if (r3 11 5) = (-9) then (some ((r3 11 4), r3)) else (gd (r3 11 5) 6 (gd (r3 11 5) 6 (some (((u2 r3 13 (r3 11 5).toNatClampNeg ((r3 13 (r3 11 5).toNatClampNeg) - (r3 11 4))) 11 4), (u2 r3 13 (r3 11 5).toNatClampNeg ((r3 13 (r3 11 5).toNatClampNeg) - (r3 11 4))))))))))
def fX0_bidOf (n : Nat) (p1 : Int32) (M : MS) : Option Int32 :=
  (if p1 < 0 then (some (-9)) else (if (M 11 6) ≤ p1 then (some (-9)) else (if 99 ≤ p1 then (some (-9)) else (gd p1 99 (some (M 16 p1.toNatClampNeg))))))
def fX2_write (n : Nat) (p1 : Int32) (p2 : Int32) (M : MS) : Option MS :=
  (if 6 ≤ (M 17 0) then (some M) else (gd (M 17 0) 6 (gd ((u2 M 18 (M 17 0).toNatClampNeg p1) 17 0) 6 (some (u2 (u2 (u2 M 18 (M 17 0).toNatClampNeg p1) 19 ((u2 M 18 (M 17 0).toNatClampNeg p1) 17 0).toNatClampNeg p2) 17 0 (((u2 (u2 M 18 (M 17 0).toNatClampNeg p1) 19 ((u2 M 18 (M 17 0).toNatClampNeg p1) 17 0).toNatClampNeg p2) 17 0) + 1))))))
def fX2_keepOnly (n : Nat) (p1 : Int32) (M : MS) : MS :=
  (u2 M 17 0 p1)
def fX2_hasOf_2 (n : Nat) : Nat → (Unit → Option Int32) → Int32 → Int32 → MS → Option Int32
  | 0, _, _, _, _ => none
  | fu + 1, k, v1, v2, M => (if (M 17 0) ≤ v2 then (k ()) else (if 6 ≤ v2 then (k ()) else (gd v2 6 (if (M 18 v2.toNatClampNeg) = v1 then (some 1) else (fX2_hasOf_2 n fu k v1 (v2 + 1) M)))))
def fX2_hasOf (n : Nat) (p1 : Int32) (M : MS) : Option Int32 :=
  (fX2_hasOf_2 n 300 (fun (_ : Unit) => (some 0)) p1 (0 : Int32) M)
def fX2_agrees_2 (n : Nat) : Nat → (Unit → Option Int32) → Int32 → Int32 → Int32 → MS → Option Int32
  | 0, _, _, _, _, _ => none
  | fu + 1, k, v1, v2, v3, M => (if (M 17 0) ≤ v3 then (k ()) else (if 6 ≤ v3 then (k ()) else (gd v3 6 (if (M 18 v3.toNatClampNeg) = v1 then (gd v3 6 (if (M 19 v3.toNatClampNeg) = v2 then (fX2_agrees_2 n fu k v1 v2 (v3 + 1) M) else (some 0))) else (fX2_agrees_2 n fu k v1 v2 (v3 + 1) M)))))
def fX2_agrees (n : Nat) (p1 : Int32) (p2 : Int32) (M : MS) : Option Int32 :=
  (fX2_agrees_2 n 300 (fun (_ : Unit) => (some 1)) p1 p2 (0 : Int32) M)
def fX5_lay_40 (n : Nat) : Nat → (MS → Option MS) → Int32 → Int32 → MS → Option MS
  | 0, _, _, _, _ => none
  | fu + 1, k, v2, v4, M => (if v2 ≤ v4 then (k M) else (if (v2 / 2) ≤ v4 then (if v4 = (v2 - 1) then (fX5_lay_40 n fu k v2 (v4 + 1) (u2 (u2 (u2 M 10 4 ((M 10 4) ||| 0)) 10 5 (((u2 M 10 4 ((M 10 4) ||| 0)) 10 5) ||| ((1 : Int32) <<< (((u2 M 10 4 ((M 10 4) ||| 0)) 10 1) &&& 31)))) 10 1 (((u2 (u2 M 10 4 ((M 10 4) ||| 0)) 10 5 (((u2 M 10 4 ((M 10 4) ||| 0)) 10 5) ||| ((1 : Int32) <<< (((u2 M 10 4 ((M 10 4) ||| 0)) 10 1) &&& 31)))) 10 1) + 1))) else (fX5_lay_40 n fu k v2 (v4 + 1) (u2 (u2 (u2 M 10 4 ((M 10 4) ||| 0)) 10 5 (((u2 M 10 4 ((M 10 4) ||| 0)) 10 5) ||| 0)) 10 1 (((u2 (u2 M 10 4 ((M 10 4) ||| 0)) 10 5 (((u2 M 10 4 ((M 10 4) ||| 0)) 10 5) ||| 0)) 10 1) + 1)))) else (if v4 = (v2 - 1) then (fX5_lay_40 n fu k v2 (v4 + 1) (u2 (u2 (u2 M 10 4 ((M 10 4) ||| ((1 : Int32) <<< ((M 10 1) &&& 31)))) 10 5 (((u2 M 10 4 ((M 10 4) ||| ((1 : Int32) <<< ((M 10 1) &&& 31)))) 10 5) ||| ((1 : Int32) <<< (((u2 M 10 4 ((M 10 4) ||| ((1 : Int32) <<< ((M 10 1) &&& 31)))) 10 1) &&& 31)))) 10 1 (((u2 (u2 M 10 4 ((M 10 4) ||| ((1 : Int32) <<< ((M 10 1) &&& 31)))) 10 5 (((u2 M 10 4 ((M 10 4) ||| ((1 : Int32) <<< ((M 10 1) &&& 31)))) 10 5) ||| ((1 : Int32) <<< (((u2 M 10 4 ((M 10 4) ||| ((1 : Int32) <<< ((M 10 1) &&& 31)))) 10 1) &&& 31)))) 10 1) + 1))) else (fX5_lay_40 n fu k v2 (v4 + 1) (u2 (u2 (u2 M 10 4 ((M 10 4) ||| ((1 : Int32) <<< ((M 10 1) &&& 31)))) 10 5 (((u2 M 10 4 ((M 10 4) ||| ((1 : Int32) <<< ((M 10 1) &&& 31)))) 10 5) ||| 0)) 10 1 (((u2 (u2 M 10 4 ((M 10 4) ||| ((1 : Int32) <<< ((M 10 1) &&& 31)))) 10 5 (((u2 M 10 4 ((M 10 4) ||| ((1 : Int32) <<< ((M 10 1) &&& 31)))) 10 5) ||| 0)) 10 1) + 1))))))
def fX5_lay_32 (n : Nat) : Nat → (MS → Option MS) → Int32 → Int32 → Int32 → MS → Option MS
  | 0, _, _, _, _, _ => none
  | fu + 1, k, v1, v2, v3, M => (if v1 ≤ v3 then (k M) else (fX5_lay_40 n 300 (fun M6 => (fX5_lay_32 n fu k v1 v2 (v3 + 1) M6)) v2 (0 : Int32) M))
def fX5_lay (n : Nat) (p1 : Int32) (p2 : Int32) (M : MS) : Option MS :=
  (fX5_lay_32 0 300 (fun M7 => (some M7)) p1 p2 (0 : Int32) (u2 (u2 (u2 (u2 (u2 M 10 3 0) 10 2 p2) 10 1 0) 10 4 0) 10 5 0))
def fX5_isThere (n : Nat) (M : MS) : Int32 :=
  (if (nI n) ≤ 0 then 0 else 1)
def fX5_setOfAll (n : Nat) (M : MS) : Int32 :=
  (((1 : Int32) <<< ((nI n) &&& 31)) - 1)
def fX5_isFreeFor_2 (n : Nat) : Nat → (Unit → Option Int32) → Nat → Int32 → Int32 → MS → Option Int32
  | 0, _, _, _, _, _ => none
  | fu + 1, k, v1, v2, v3, M => (if 6 ≤ v3 then (k ()) else (om (fX5_buyerOf n v3) (fX5_isFreeFor_2 n fu k v1 v2 (v3 + 1) M) (fun j3 => (if j3 = v1 then (fX5_isFreeFor_2 n fu k v1 v2 (v3 + 1) M) else (if (M 22 j3) = v2 then (some 0) else (fX5_isFreeFor_2 n fu k v1 v2 (v3 + 1) M))))))
def fX5_isFreeFor (n : Nat) (p1 : Nat) (p2 : Int32) (M : MS) : Option Int32 :=
  (fX5_isFreeFor_2 n 300 (fun (_ : Unit) => (some 1)) p1 p2 (0 : Int32) M)
def fX5_shows (n : Nat) (p1 : Nat) (M : MS) : Option Int32 :=
  (if (vhat (M 20 p1)) = 0 then (some 1) else (if ((M 22 p1) - (M 10 2)) < 0 then (some 1) else ((fX5_isFreeFor n p1 ((M 22 p1) - (M 10 2)) M).bind fun r3 => (if r3 = 0 then (some 0) else (some 1)))))
def fX6_lay_12 (n : Nat) : Nat → (MS → Option MS) → Nat → Int32 → MS → Option MS
  | 0, _, _, _, _ => none
  | fu + 1, k, v0, v3, M => (if 60 ≤ v3 then (k M) else (gd v3 60 (fX6_lay_12 n fu k v0 (v3 + 1) (u2 M (5 + v0) v3.toNatClampNeg 0))))
def fX6_lay (n : Nat) (p0 : Nat) (p1 : Int32) (p2 : Int32) (M : MS) : Option MS :=
  (fX6_lay_12 n 300 (fun M3 => (some M3)) p0 (0 : Int32) (u2 (u2 M (1 + p0) 0 p1) (1 + p0) 1 p2))
def fX6_holds (n : Nat) (p0 : Nat) (p1 : Int32) (p2 : Int32) (M : MS) : Int32 :=
  (if p1 < 0 then 0 else (if (M (1 + p0) 1) < p1 then 0 else (if ((M (1 + p0) 1) - p1) < p2 then 0 else 1)))
def fX6_faultOfTaking (n : Nat) (p0 : Nat) (p1 : Int32) (p2 : Int32) (p3 : Int32) (M : MS) : Int32 :=
  (if (M (1 + p0) 0) = (-1) then 1 else (if (M (1 + p0) 0) = p1 then (if 0 ≤ p3 then (if (fX6_holds n p0 p2 p3 M) = 0 then 3 else 0) else 4) else 2))
def fX6_at (n : Nat) (p0 : Nat) (p1 : Int32) (M : MS) : Option Int32 :=
  (if (fX8_isBelow p1 (M (1 + p0) 1)) = 0 then (some 0) else (if 60 ≤ p1 then (some 0) else (gd p1 60 (some (M (5 + p0) p1.toNatClampNeg)))))
def fX6_cut (n : Nat) (p0 : Nat) (p1 : Int32) (M : MS) : Int32 :=
  (if (M (1 + p0) 0) = 0 then (p1.toInt8.toInt32) else (if (M (1 + p0) 0) = 1 then (p1.toInt16.toInt32) else p1))
def fX6_write (n : Nat) (p0 : Nat) (p1 : Int32) (p2 : Int32) (M : MS) : Option MS :=
  (if (fX8_isBelow p1 (M (1 + p0) 1)) = 0 then (some M) else (if 60 ≤ p1 then (some M) else (gd p1 60 (some (u2 M (5 + p0) p1.toNatClampNeg (fX6_cut n p0 p2 M))))))
def fX8_ofBuyer (n : Nat) (p1 : Int32) (p2 : Int32) (M : MS) : Option Int32 :=
  (om (fX5_buyerOf n p1) (some (-1)) (fun j2 => (if p2 = 0 then (some (vkind (M 20 j2))) else (if p2 = 1 then (some (M 22 j2)) else (if p2 = 2 then (some (M 21 j2)) else (if p2 = 3 then ((fX5_shows n j2 M).bind fun r7 => (if r7 = 0 then (some 0) else (some 1))) else (some (-2))))))))
def fX8_worth (n : Nat) (p1 : Int32) (p2 : Int32) (p3 : Int32) (M : MS) : Option (Int32 × MS) :=
  (om (fX5_buyerOf n p1) (some ((-1), M)) (fun j2 => (if (fX8_isLot p2) = 0 then (some ((-1), M)) else (if p3 < 0 then (some ((-2), M)) else (if p3 ≤ 99 then (gd p2 4 (gd p2 4 (some ((M 23 (6 * p2.toNatClampNeg + j2)), (u2 M 23 (6 * p2.toNatClampNeg + j2) p3))))) else (some ((-2), M)))))))
def fX8_limit (n : Nat) (p1 : Int32) (p2 : Int32) (M : MS) : Option Int32 :=
  (om (fX5_buyerOf n p1) (some (-1)) (fun j2 => (if (fX8_isLot p2) = 0 then (some (-1)) else (gd p2 4 (some (vlim (M 20 j2) (M 23 (6 * p2.toNatClampNeg + j2)) (M 21 j2)))))))
def fX8_sit (n : Nat) (p1 : Int32) (p2 : Int32) (M : MS) : Option (Int32 × MS) :=
  (om (fX5_buyerOf n p1) (some ((-1), M)) (fun j2 => (if (fX8_isBelow p2 (M 10 1)) = 0 then (some ((-1), M)) else ((fX5_isFreeFor n j2 p2 M).bind fun r4 => (if r4 = 0 then (some ((-3), M)) else (some ((M 22 j2), (u2 M 22 j2 p2))))))))
def fX8_law (n : Nat) (p1 : Int32) (M : MS) : (Int32 × MS) :=
  (if (fX8_isBelow p1 (3 : Int32)) = 0 then ((-2), M) else (if (fX5_isThere n M) = 0 then ((-3), M) else ((M 10 3), (u2 M 10 3 p1))))
def fX8_sellTo (n : Nat) (p1 : Int32) (p2 : Int32) (M : MS) : Option MS :=
  ((fX0_gather n p1 M).bind fun r1 => ((fX0_offer n p2 r1).bind fun r3 => ((fX0_hold n r3).bind fun r5 => (some r5))))
def fX8_sale (n : Nat) (p1 : Int32) (p2 : Int32) (M : MS) : Option (Int32 × MS) :=
  (if (fX8_isLot p1) = 0 then (some ((-1), M)) else (if (fX8_isBelow p2 (3 : Int32)) = 0 then (some ((-2), M)) else (if (fX5_isThere n M) = 0 then (some ((-3), M)) else ((fX8_sellTo n (63 : Int32) p1 M).bind fun r4 => (if p2 = 0 then (some ((r4 11 4), r4)) else (if p2 = 1 then (some ((r4 11 5), r4)) else (some ((r4 11 6), r4))))))))
def fX8_bid (n : Nat) (p1 : Int32) (p2 : Int32) (M : MS) : Option (Int32 × MS) :=
  (if (fX8_isLot p1) = 0 then (some ((-1), M)) else (if 0 ≤ p2 then (if (fX5_isThere n M) = 0 then (some ((-3), M)) else ((fX8_sellTo n (63 : Int32) p1 M).bind fun r4 => ((fX0_bidOf n p2 r4).bind fun r6 => (some (r6, r4))))) else (some ((-1), M))))
def fX8_ends (n : Nat) (p1 : Int32) (p2 : Int32) (M : MS) : Option (Int32 × MS) :=
  (om (fX5_buyerOf n p1) (some ((-1), M)) (fun j2 => (if (fX8_isLot p2) = 0 then (some ((-1), M)) else ((fX8_sellTo n (63 : Int32) p2 M).bind fun r4 => (gd p1 6 (some ((r4 12 p1.toNatClampNeg), r4)))))))
def fX8_meet (n : Nat) (p1 : Int32) (M : MS) : (Int32 × MS) :=
  (((-10) - p1), (u2 M 0 0 p1))
def fX8_areLotsOnce_5 (n : Nat) : Nat → (Unit → Option Int32) → Nat → Int32 → Int32 → Int32 → Int32 → MS → Option Int32
  | 0, _, _, _, _, _, _, _ => none
  | fu + 1, k, v0, v1, v2, v3, v4, M => (if v2 ≤ v4 then (k ()) else ((fX6_at n v0 (v1 + v4) M).bind fun r2 => (if (fX8_isLot r2) = 0 then (some 0) else (if (fX8_isIn v3 r2) = 0 then (fX8_areLotsOnce_5 n fu k v0 v1 v2 (v3 ||| ((1 : Int32) <<< (r2 &&& 31))) (v4 + 1) M) else (some 0)))))
def fX8_areLotsOnce (n : Nat) (p1 : Nat) (p2 : Int32) (p3 : Int32) (M : MS) : Option Int32 :=
  (fX8_areLotsOnce_5 n 300 (fun (_ : Unit) => (some 1)) p1 p2 p3 (0 : Int32) (0 : Int32) M)
def fX8_sellRow_15 (n : Nat) : Nat → (Int32 → MS → Option (Int32 × MS)) → Nat → Int32 → Int32 → Int32 → Int32 → MS → Option (Int32 × MS)
  | 0, _, _, _, _, _, _, _ => none
  | fu + 1, k, v1, v2, v3, v4, v5, M => (if v3 ≤ v5 then (k v4 M) else ((fX6_at n v1 (v2 + v5) M).bind fun r4 => ((fX0_sellOn n r4 M).bind fun r6 => (fX8_sellRow_15 n fu k v1 v2 v3 (v4 + r6.1) (v5 + 1) r6.2))))
def fX8_sellRow (n : Nat) (p1 : Nat) (p2 : Int32) (p3 : Int32) (M : MS) : Option (Int32 × MS) :=
  ((fX0_gather n (63 : Int32) M).bind fun r1 => (fX8_sellRow_15 n 300 (fun x8 M9 => (some (x8, M9))) p1 p2 p3 (0 : Int32) (0 : Int32) r1))
def fX8_row (n : Nat) (p1 : Int32) (p2 : Int32) (p3 : Int32) (p4 : Int32) (p5 : Int32) (M : MS) : Option (Int32 × MS) :=
  (om (fX8_sheetOf p2) (if p1 = (-1) then (some ((-1), (u2 M 0 0 0))) else (om (fX5_buyerOf n p1) (some ((-1), (u2 M 0 0 0))) (fun j5 => (some ((-1), (u2 M 0 0 0)))))) (fun j2 => (if p1 = (-1) then (if (fX8_isLane p3) = 0 then (some ((-2), (u2 M 0 0 0))) else (if (fX5_isThere n (u2 M 0 0 0)) = 0 then (some ((-3), (u2 M 0 0 0))) else (if (fX6_faultOfTaking n j2 p3 p4 p5 (u2 M 0 0 0)) = 0 then ((fX8_areLotsOnce n j2 p4 p5 (u2 M 0 0 0)).bind fun r10 => (if r10 = 0 then (some ((-1), (u2 M 0 0 0))) else ((fX8_sellRow n j2 p4 p5 (u2 M 0 0 0)).bind fun r13 => (if p1 = (-1) then (some (r13.1, r13.2)) else (gd p1 6 (some ((r13.2 13 p1.toNatClampNeg), r13.2))))))) else (some ((fX8_meet n (fX6_faultOfTaking n j2 p3 p4 p5 (u2 M 0 0 0)) (u2 M 0 0 0)).1, (fX8_meet n (fX6_faultOfTaking n j2 p3 p4 p5 (u2 M 0 0 0)) (u2 M 0 0 0)).2))))) else (om (fX5_buyerOf n p1) (some ((-1), (u2 M 0 0 0))) (fun j18 => (if (fX8_isLane p3) = 0 then (some ((-2), (u2 M 0 0 0))) else (if (fX5_isThere n (u2 M 0 0 0)) = 0 then (some ((-3), (u2 M 0 0 0))) else (if (fX6_faultOfTaking n j2 p3 p4 p5 (u2 M 0 0 0)) = 0 then ((fX8_areLotsOnce n j2 p4 p5 (u2 M 0 0 0)).bind fun r22 => (if r22 = 0 then (some ((-1), (u2 M 0 0 0))) else ((fX8_sellRow n j2 p4 p5 (u2 M 0 0 0)).bind fun r25 => (if p1 = (-1) then (some (r25.1, r25.2)) else (gd p1 6 (some ((r25.2 13 p1.toNatClampNeg), r25.2))))))) else (some ((fX8_meet n (fX6_faultOfTaking n j2 p3 p4 p5 (u2 M 0 0 0)) (u2 M 0 0 0)).1, (fX8_meet n (fX6_faultOfTaking n j2 p3 p4 p5 (u2 M 0 0 0)) (u2 M 0 0 0)).2))))))))))
def fX8_sellFrom (n : Nat) (p1 : Int32) (p2 : Int32) (p3 : Int32) (M : MS) : Option MS :=
  ((fX0_gather n (63 : Int32) M).bind fun r1 => (gd p1 6 ((fX0_offer n p3 (u2 r1 12 p1.toNatClampNeg p2)).bind fun r4 => ((fX0_hold n r4).bind fun r6 => (some r6)))))
def fX8_gainFrom (n : Nat) (p1 : Nat) (p2 : Int32) (p3 : Int32) (M : MS) : Option (Int32 × MS) :=
  ((fX8_sellFrom n (nI p1) p2 p3 M).bind fun r1 => (if (r1 11 5) = (nI p1) then (gd p3 4 (some (((r1 23 (6 * p3.toNatClampNeg + p1)) - (r1 11 4)), r1))) else (some (0, r1))))
def fX8_gain (n : Nat) (p1 : Int32) (p2 : Int32) (M : MS) : Option (Int32 × MS) :=
  (om (fX5_buyerOf n p1) (some ((-1), M)) (fun j2 => (if (fX8_isLot p2) = 0 then (some ((-1), M)) else ((fX8_gainFrom n j2 (M 22 j2) p2 M).bind fun r4 => (some ((100 + r4.1), r4.2))))))
def fX8_best_49 (n : Nat) : Nat → (Int32 → Int32 → MS → Option (Int32 × MS)) → Int32 → Nat → Int32 → Int32 → Int32 → MS → Option (Int32 × MS)
  | 0, _, _, _, _, _, _, _ => none
  | fu + 1, k, v2, v4, v5, v6, v7, M => (if (M 10 1) ≤ v7 then (k v5 v6 M) else ((fX5_isFreeFor n v4 v7 M).bind fun r6 => (if r6 = 0 then (fX8_best_49 n fu k v2 v4 v5 v6 (v7 + 1) M) else ((fX8_gainFrom n v4 v7 v2 M).bind fun r9 => (if r9.1 ≤ v6 then (fX8_best_49 n fu k v2 v4 v5 v6 (v7 + 1) r9.2) else (fX8_best_49 n fu k v2 v4 v7 r9.1 (v7 + 1) r9.2))))))
def fX8_best (n : Nat) (p1 : Int32) (p2 : Int32) (p3 : Int32) (M : MS) : Option (Int32 × MS) :=
  (om (fX5_buyerOf n p1) (some ((-1), M)) (fun j2 => (if (fX8_isLot p2) = 0 then (some ((-1), M)) else (if (fX8_isBelow p3 (2 : Int32)) = 0 then (some ((-2), M)) else (fX8_best_49 n 300 (fun x12 x13 M14 => (if p3 = 0 then (some (x12, M14)) else (some ((100 + x13), M14)))) p2 j2 (M 22 j2) (-9 : Int32) (0 : Int32) M)))))
def fX8_isEachLotOnce_4 : Nat → (Int32 → Option Int32) → Int32 → Int32 → Int32 → Option Int32
  | 0, _, _, _, _ => none
  | fu + 1, k, v0, v1, v2 => (if 4 ≤ v2 then (k v1) else (fX8_isEachLotOnce_4 fu k v0 (v1 ||| ((1 : Int32) <<< ((fX8_lotOfOrder v0 v2) &&& 31))) (v2 + 1)))
def fX8_isEachLotOnce (p1 : Int32) : Option Int32 :=
  (fX8_isEachLotOnce_4 300 (fun x2 => (if x2 = 15 then (some 1) else (some 0))) p1 (0 : Int32) (0 : Int32))
def fX8_sellOrder_13 (n : Nat) : Nat → (Int32 → MS → Option (Int32 × MS)) → Int32 → Int32 → Int32 → MS → Option (Int32 × MS)
  | 0, _, _, _, _, _ => none
  | fu + 1, k, v1, v2, v3, M => (if 4 ≤ v3 then (k v2 M) else ((fX0_sellOn n (fX8_lotOfOrder v1 v3) M).bind fun r4 => (fX8_sellOrder_13 n fu k v1 (v2 + r4.1) (v3 + 1) r4.2)))
def fX8_sellOrder (n : Nat) (p1 : Int32) (M : MS) : Option (Int32 × MS) :=
  ((fX0_gather n (63 : Int32) M).bind fun r1 => (fX8_sellOrder_13 n 300 (fun x6 M7 => (some (x6, M7))) p1 (0 : Int32) (0 : Int32) r1))
def fX8_order_36 (n : Nat) : Nat → (Int32 → Int32 → MS → Option (Int32 × MS)) → Int32 → Int32 → Int32 → MS → Option (Int32 × MS)
  | 0, _, _, _, _, _ => none
  | fu + 1, k, v2, v3, v4, M => (if 256 ≤ v4 then (k v2 v3 M) else ((fX8_isEachLotOnce v4).bind fun r4 => (if r4 = 0 then (fX8_order_36 n fu k v2 v3 (v4 + 1) M) else ((fX8_sellOrder n v4 M).bind fun r7 => (if r7.1 ≤ v2 then (fX8_order_36 n fu k v2 v3 (v4 + 1) r7.2) else (fX8_order_36 n fu k r7.1 v4 (v4 + 1) r7.2))))))
def fX8_order (n : Nat) (p1 : Int32) (M : MS) : Option (Int32 × MS) :=
  (if p1 = (-1) then (if (fX5_isThere n M) = 0 then (some ((-3), M)) else (fX8_order_36 n 300 (fun x10 x11 M12 => (if p1 = (-1) then (some (x10, M12)) else (some ((fX8_lotOfOrder x11 p1), M12)))) (-9 : Int32) (0 : Int32) (0 : Int32) M)) else (if (fX8_isBelow p1 (4 : Int32)) = 0 then (some ((-1), M)) else (if (fX5_isThere n M) = 0 then (some ((-3), M)) else (fX8_order_36 n 300 (fun x16 x17 M18 => (if p1 = (-1) then (some (x16, M18)) else (some ((fX8_lotOfOrder x17 p1), M18)))) (-9 : Int32) (0 : Int32) (0 : Int32) M))))
def fX8_ring (n : Nat) (p1 : Int32) (p2 : Int32) (M : MS) : Option (Int32 × MS) :=
  (if (fX8_isLot p2) = 0 then (some ((-1), M)) else (if (p1 &&& ((fX5_setOfAll n M) ^^^ (-1))) = 0 then (if (fX5_isThere n M) = 0 then (some ((-3), M)) else ((fX0_gather n (63 : Int32) M).bind fun r4 => ((fX0_offer n p2 r4).bind fun r6 => ((fX0_silenceAllButFirst n p1 r6).bind fun r8 => ((fX0_hold n r8).bind fun r10 => (some ((r10 11 4), r10))))))) else (some ((-2), M))))
def fX8_mean_43 (n : Nat) : Nat → (Int64 → MS → Option (Int64 × MS)) → Int32 → Int32 → Int64 → Int32 → MS → Option (Int64 × MS)
  | 0, _, _, _, _, _, _ => none
  | fu + 1, k, v1, v3, v4, v6, M => (if v3 < v6 then (k v4 M) else ((fX8_sellTo n v6 v1 M).bind fun r5 => (fX8_mean_43 n fu k v1 v3 (v4 + ((r5 11 4).toInt64)) (v6 + 1) r5)))
def fX8_mean_81 (n : Nat) : Nat → (Int64 → Int64 → MS → Option (Int64 × MS)) → Int64 → Int64 → MS → Option (Int64 × MS)
  | 0, _, _, _, _ => none
  | fu + 1, k, v4, v6, M => (if (lg_cmp v6 1) ≤ 0 then (k v4 v6 M) else (if (lg_cmp (v4 &&& 1) 0) = 0 then (fX8_mean_81 n fu k (v4 >>> ((1 : Int32).toInt64 &&& 63)) (v6 >>> ((1 : Int32).toInt64 &&& 63)) M) else (k v4 v6 M)))
def fX8_mean (n : Nat) (p1 : Int32) (p2 : Int32) (M : MS) : Option (Int64 × MS) :=
  (if (fX8_isLot p1) = 0 then (some ((-9223372036854775808 : Int64), M)) else (if (fX8_isBelow p2 (2 : Int32)) = 0 then (some ((-9223372036854775808 : Int64), M)) else (if (fX5_isThere n M) = 0 then (some ((-9223372036854775808 : Int64), M)) else (fX8_mean_43 n 300 (fun x7 M8 => (fX8_mean_81 n 300 (fun x11 x12 M13 => (if p2 = 0 then (some (x11, M13)) else (some (x12, M13)))) x7 (((fX5_setOfAll n M).toInt64) + 1) M8)) p1 (fX5_setOfAll n M) 0 (0 : Int32) M))))
def fX8_hangs_42 (n : Nat) : Nat → (Int32 → MS → Option (Int32 × MS)) → Int32 → Int32 → Int32 → Int32 → MS → Option (Int32 × MS)
  | 0, _, _, _, _, _, _ => none
  | fu + 1, k, v1, v2, v3, v4, M => (if (nI n) ≤ v4 then (k v3 M) else ((fX8_sellTo n (63 &&& (((1 : Int32) <<< (v4 &&& 31)) ^^^ (-1))) v1 M).bind fun r6 => (if (r6 11 5) = v2 then (fX8_hangs_42 n fu k v1 v2 v3 (v4 + 1) r6) else (fX8_hangs_42 n fu k v1 v2 (v3 ||| ((1 : Int32) <<< (v4 &&& 31))) (v4 + 1) r6))))
def fX8_hangs (n : Nat) (p1 : Int32) (M : MS) : Option (Int32 × MS) :=
  (if (fX8_isLot p1) = 0 then (some ((-1), M)) else (if (fX5_isThere n M) = 0 then (some ((-3), M)) else ((fX8_sellTo n (63 : Int32) p1 M).bind fun r3 => (fX8_hangs_42 n 300 (fun x9 M10 => (some (x9, M10))) p1 (r3 11 5) (0 : Int32) (0 : Int32) r3))))
def fX8_reading (n : Nat) (p1 : Int32) (p2 : Int32) (M : MS) : Option (Int32 × MS) :=
  (if (fX8_isLot p1) = 0 then (some ((-1), M)) else (if p2 < 0 then (some ((-2), M)) else (if p2 ≤ 99 then (if (fX5_isThere n M) = 0 then (some ((-3), M)) else (if (M 17 0) < 6 then ((fX2_write n p1 p2 M).bind fun r6 => (some (((r6 17 0) - 1), r6))) else (some ((-4), M)))) else (some ((-2), M)))))
def fX8_back (n : Nat) (p1 : Int32) (M : MS) : (Int32 × MS) :=
  (if p1 < 0 then ((-2), M) else (if p1 ≤ (M 17 0) then (((fX2_keepOnly n ((M 17 0) - p1) M) 17 0), (fX2_keepOnly n ((M 17 0) - p1) M)) else ((-2), M)))
def fX8_areReadingsSo_3 (n : Nat) : Nat → (MS → Option (Int32 × MS)) → Int32 → Int32 → Int32 → Int32 → MS → Option (Int32 × MS)
  | 0, _, _, _, _, _, _ => none
  | fu + 1, k, v1, v2, v3, v4, M => (if 4 ≤ v4 then (k M) else (if v4 = v3 then (fX8_areReadingsSo_3 n fu k v1 v2 v3 (v4 + 1) M) else ((fX2_hasOf n v4 M).bind fun r3 => (if r3 = 0 then (fX8_areReadingsSo_3 n fu k v1 v2 v3 (v4 + 1) M) else ((fX8_sellFrom n v1 v2 v4 M).bind fun r6 => ((fX2_agrees n v4 (r6 11 4) r6).bind fun r8 => (if r8 = 0 then (some (0, r6)) else (fX8_areReadingsSo_3 n fu k v1 v2 v3 (v4 + 1) r6))))))))
def fX8_areReadingsSo (n : Nat) (p1 : Int32) (p2 : Int32) (p3 : Int32) (M : MS) : Option (Int32 × MS) :=
  (fX8_areReadingsSo_3 n 300 (fun M11 => (some (1, M11))) p1 p2 p3 (0 : Int32) M)
def fX8_isReadingSo (n : Nat) (p1 : Int32) (p2 : Int32) (p3 : Int32) (M : MS) : Option (Int32 × MS) :=
  ((fX2_hasOf n p2 M).bind fun r1 => (if r1 = 0 then (some (1, M)) else ((fX0_gather n (63 : Int32) M).bind fun r4 => ((fX0_offer n p2 r4).bind fun r6 => (gd p1 6 ((fX0_hold n (u2 r6 14 p1.toNatClampNeg p3)).bind fun r9 => ((fX2_agrees n p2 (r9 11 4) r9).bind fun r11 => (zb r11 (some (r11, r9))))))))))
def fX8_values_55 (n : Nat) : Nat → (Int32 → MS → Option (Int32 × MS)) → Int32 → Int32 → Int32 → Nat → Int32 → Int32 → Int32 → Int32 → Int32 → MS → Option (Int32 × MS)
  | 0, _, _, _, _, _, _, _, _, _, _, _ => none
  | fu + 1, k, v1, v2, v3, v4, v5, v6, v7, v8, v9, M => (if v8 = 0 then (k v5 M) else (if 99 < v9 then (k v5 M) else (if (vlim (M 20 v4) v9 (M 21 v4)) = v6 then (if v7 = 0 then (if v7 = 0 then (fX8_values_55 n fu k v1 v2 v3 v4 (v5 + 0) v6 v7 v8 (v9 + 1) M) else (fX8_values_55 n fu k v1 v2 v3 v4 (v5 + 1) v6 v7 v8 (v9 + 1) M)) else (if v5 = v3 then (some (v9, M)) else (if v7 = 0 then (fX8_values_55 n fu k v1 v2 v3 v4 (v5 + 0) v6 v7 v8 (v9 + 1) M) else (fX8_values_55 n fu k v1 v2 v3 v4 (v5 + 1) v6 v7 v8 (v9 + 1) M)))) else ((fX8_isReadingSo n v1 v2 (vlim (M 20 v4) v9 (M 21 v4)) M).bind fun r14 => (if r14.1 = 0 then (if r14.1 = 0 then (fX8_values_55 n fu k v1 v2 v3 v4 (v5 + 0) (vlim (M 20 v4) v9 (M 21 v4)) r14.1 v8 (v9 + 1) r14.2) else (fX8_values_55 n fu k v1 v2 v3 v4 (v5 + 1) (vlim (M 20 v4) v9 (M 21 v4)) r14.1 v8 (v9 + 1) r14.2)) else (if v5 = v3 then (some (v9, r14.2)) else (if r14.1 = 0 then (fX8_values_55 n fu k v1 v2 v3 v4 (v5 + 0) (vlim (M 20 v4) v9 (M 21 v4)) r14.1 v8 (v9 + 1) r14.2) else (fX8_values_55 n fu k v1 v2 v3 v4 (v5 + 1) (vlim (M 20 v4) v9 (M 21 v4)) r14.1 v8 (v9 + 1) r14.2))))))))
def fX8_values (n : Nat) (p1 : Int32) (p2 : Int32) (p3 : Int32) (M : MS) : Option (Int32 × MS) :=
  (om (fX5_buyerOf n p1) (some ((-1), M)) (fun j2 => (if (fX8_isLot p2) = 0 then (some ((-1), M)) else (if (-1) ≤ p3 then ((fX8_areReadingsSo n p1 (M 22 j2) p2 M).bind fun r5 => (fX8_values_55 n 300 (fun x20 M21 => (if p3 = (-1) then (some (x20, M21)) else (some ((-9), M21)))) p1 p2 p3 j2 (0 : Int32) (-9 : Int32) (0 : Int32) r5.1 (0 : Int32) r5.2)) else (some ((-1), M))))))
def fX8_places_20 (n : Nat) : Nat → (Int32 → MS → Option (Int32 × MS)) → Int32 → Nat → Int32 → Int32 → MS → Option (Int32 × MS)
  | 0, _, _, _, _, _, _ => none
  | fu + 1, k, v1, v2, v3, v4, M => (if (M 10 1) ≤ v4 then (k v3 M) else ((fX5_isFreeFor n v2 v4 M).bind fun r4 => (if r4 = 0 then (fX8_places_20 n fu k v1 v2 v3 (v4 + 1) M) else ((fX8_areReadingsSo n v1 v4 (-9 : Int32) M).bind fun r7 => (if r7.1 = 0 then (fX8_places_20 n fu k v1 v2 v3 (v4 + 1) r7.2) else (fX8_places_20 n fu k v1 v2 (v3 ||| ((1 : Int32) <<< (v4 &&& 31))) (v4 + 1) r7.2))))))
def fX8_places (n : Nat) (p1 : Int32) (M : MS) : Option (Int32 × MS) :=
  (om (fX5_buyerOf n p1) (some ((-1), M)) (fun j2 => (fX8_places_20 n 300 (fun x10 M11 => (some (x10, M11))) p1 j2 (0 : Int32) (0 : Int32) M)))
def fX8_sheet (n : Nat) (p1 : Int32) (p2 : Int32) (p3 : Int32) (M : MS) : Option (Int32 × MS) :=
  (om (fX8_sheetOf p1) (some ((-1), (u2 M 0 0 0))) (fun j2 => (if (fX8_isLane p2) = 0 then (some ((-2), (u2 M 0 0 0))) else (if p3 ≤ 60 then (if 0 ≤ p3 then ((fX6_lay n j2 p2 p3 (u2 M 0 0 0)).bind fun r6 => (some (1, r6))) else (some ((fX8_meet n (4 : Int32) (u2 M 0 0 0)).1, (fX8_meet n (4 : Int32) (u2 M 0 0 0)).2))) else (some ((-2), (u2 M 0 0 0)))))))
def fX8_lose (n : Nat) (p1 : Int32) (M : MS) : Option (Int32 × MS) :=
  (om (fX8_sheetOf p1) (some ((-1), M)) (fun j2 => (if (M (1 + j2) 0) = (-1) then (some (0, M)) else ((fX6_lay n j2 (-1 : Int32) (0 : Int32) M).bind fun r4 => (some (1, r4))))))
def fX8_put (n : Nat) (p1 : Int32) (p2 : Int32) (p3 : Int32) (M : MS) : Option (Int32 × MS) :=
  (om (fX8_sheetOf p1) (some ((-1), (u2 M 0 0 0))) (fun j2 => (if (fX6_faultOfTaking n j2 ((u2 M 0 0 0) (1 + j2) 0) p2 (1 : Int32) (u2 M 0 0 0)) = 0 then ((fX6_write n j2 p2 p3 (u2 M 0 0 0)).bind fun r4 => (some (1, r4))) else (some ((fX8_meet n (fX6_faultOfTaking n j2 ((u2 M 0 0 0) (1 + j2) 0) p2 (1 : Int32) (u2 M 0 0 0)) (u2 M 0 0 0)).1, (fX8_meet n (fX6_faultOfTaking n j2 ((u2 M 0 0 0) (1 + j2) 0) p2 (1 : Int32) (u2 M 0 0 0)) (u2 M 0 0 0)).2)))))
def fX8_cell (n : Nat) (p1 : Int32) (p2 : Int32) (p3 : Int32) (M : MS) : Option (Int64 × MS) :=
  (om (fX8_sheetOf p1) (some ((-9223372036854775808 : Int64), (u2 M 0 0 0))) (fun j2 => (if (fX8_isLane p3) = 0 then (some ((-9223372036854775808 : Int64), (u2 M 0 0 0))) else (if (fX6_faultOfTaking n j2 p3 p2 (1 : Int32) (u2 M 0 0 0)) = 0 then ((fX6_at n j2 p2 (u2 M 0 0 0)).bind fun r5 => (some ((r5.toInt64), (u2 M 0 0 0)))) else (some ((-9223372036854775808 : Int64), (fX8_meet n (fX6_faultOfTaking n j2 p3 p2 (1 : Int32) (u2 M 0 0 0)) (u2 M 0 0 0)).2))))))
def fX8_copy (n : Nat) (p1 : Int32) (p2 : Int32) (p3 : Int32) (p4 : Int32) (p5 : Int32) (M : MS) : Option (Int32 × MS) :=
  (om (fX8_sheetOf p1) (om (fX8_sheetOf p3) (some ((-1), (u2 M 0 0 0))) (fun j4 => (some ((-1), (u2 M 0 0 0))))) (fun j2 => (om (fX8_sheetOf p3) (some ((-1), (u2 M 0 0 0))) (fun j6 => (if ((u2 M 0 0 0) (1 + j2) 0) = (-1) then (some ((fX8_meet n (1 : Int32) (u2 M 0 0 0)).1, (fX8_meet n (1 : Int32) (u2 M 0 0 0)).2)) else (if ((u2 M 0 0 0) (1 + j6) 0) = (-1) then (some ((fX8_meet n (1 : Int32) (u2 M 0 0 0)).1, (fX8_meet n (1 : Int32) (u2 M 0 0 0)).2)) else (if ((u2 M 0 0 0) (1 + j2) 0) = ((u2 M 0 0 0) (1 + j6) 0) then (if p5 < 0 then (some ((fX8_meet n (3 : Int32) (u2 M 0 0 0)).1, (fX8_meet n (3 : Int32) (u2 M 0 0 0)).2)) else (if (fX6_holds n j2 p2 p5 (u2 M 0 0 0)) = 0 then (some ((fX8_meet n (3 : Int32) (u2 M 0 0 0)).1, (fX8_meet n (3 : Int32) (u2 M 0 0 0)).2)) else (if (fX6_holds n j6 p4 p5 (u2 M 0 0 0)) = 0 then (some ((fX8_meet n (3 : Int32) (u2 M 0 0 0)).1, (fX8_meet n (3 : Int32) (u2 M 0 0 0)).2)) else (gc p2 p4 p5 (some (p5, (u1 (u2 M 0 0 0) (5 + j6) (va_cpy ((u2 M 0 0 0) (5 + j2)) ((u2 M 0 0 0) (5 + j6)) p2.toNatClampNeg p4.toNatClampNeg p5.toNatClampNeg)))))))) else (some ((fX8_meet n (2 : Int32) (u2 M 0 0 0)).1, (fX8_meet n (2 : Int32) (u2 M 0 0 0)).2)))))))))
def fX8_tell (n : Nat) (p1 : Int32) (M : MS) : (Int32 × MS) :=
  (om (fX5_buyerOf n p1) ((-1), M) (fun j2 => ((vtell n j2 M).1, (vtell n j2 M).2)))
def fX8_nod (n : Nat) (p1 : Int32) (M : MS) : (Int32 × MS) :=
  (om (fX5_buyerOf n p1) ((-1), M) (fun j2 => ((vnod n j2 M).1, (vnod n j2 M).2)))
def fX8_as (n : Nat) (p1 : Int32) (p2 : Int32) (M : MS) : (Int32 × MS) :=
  (om (fX5_buyerOf n p1) ((-1), (u2 M 0 0 0)) (fun j2 => (if (fX8_isBelow p2 (3 : Int32)) = 0 then ((-2), (u2 M 0 0 0)) else (if p2 = 0 then (1, (u2 M 0 0 0)) else (if p2 = 1 then (if (vinsHatted ((u2 M 0 0 0) 20 j2)) = 0 then (if p2 = 2 then (if (vinsNervous ((u2 M 0 0 0) 20 j2)) = 0 then ((fX8_meet n (2 : Int32) (u2 M 0 0 0)).1, (fX8_meet n (2 : Int32) (u2 M 0 0 0)).2) else (1, (u2 M 0 0 0))) else ((fX8_meet n (2 : Int32) (u2 M 0 0 0)).1, (fX8_meet n (2 : Int32) (u2 M 0 0 0)).2)) else (1, (u2 M 0 0 0))) else (if p2 = 2 then (if (vinsNervous ((u2 M 0 0 0) 20 j2)) = 0 then ((fX8_meet n (2 : Int32) (u2 M 0 0 0)).1, (fX8_meet n (2 : Int32) (u2 M 0 0 0)).2) else (1, (u2 M 0 0 0))) else ((fX8_meet n (2 : Int32) (u2 M 0 0 0)).1, (fX8_meet n (2 : Int32) (u2 M 0 0 0)).2)))))))
def fX8_trace (n : Nat) (M : MS) : Int32 :=
  (M 9 0)
def fX8_fault (n : Nat) (M : MS) : Int32 :=
  (M 0 0)
def fX8_many (n : Nat) (p1 : Int32) (M : MS) : Int32 :=
  (if p1 = 0 then (nI n) else (if p1 = 1 then (M 10 1) else (if p1 = 2 then (M 10 3) else (if p1 = 3 then (M 17 0) else (-2)))))
def fX8_digitAt (n : Nat) (p1 : Nat) (p2 : Int32) (M : MS) : Option Int32 :=
  ((fX6_at n p1 p2 M).bind fun r1 => (some (r1 - 48)))
def fX8_isOneMoreLetIn (n : Nat) (p1 : Nat) (p2 : Int32) (p3 : Int32) (M : MS) : Option Int32 :=
  ((fX8_digitAt n p1 (p2 + 1) M).bind fun r1 => ((fX8_digitAt n p1 (p2 + 2) M).bind fun r3 => (if 6 ≤ ((p3 - 3) / 4) then (some 0) else (if (r1 * r3) ≤ ((p3 - 3) / 4) then (some 0) else (some 1)))))
def fX8_goesOn (n : Nat) (p1 : Nat) (p2 : Int32) (p3 : Int32) (M : MS) : Option Int32 :=
  ((fX6_at n p1 (p2 + p3) M).bind fun r1 => (if p3 = 0 then (if r1 = 97 then (some 1) else (some 0)) else (if p3 = 1 then (some (fX8_isAmong r1 (49 : Int32) (52 : Int32))) else (if p3 = 2 then (some (fX8_isAmong r1 (50 : Int32) (54 : Int32))) else (if ((p3 - 3) - (p3 - 3) / 4 * 4) = 0 then (if r1 = 59 then ((fX8_isOneMoreLetIn n p1 p2 p3 M).bind fun r8 => (if r8 = 0 then (some 0) else (some 1))) else (some 0)) else (if ((p3 - 3) - (p3 - 3) / 4 * 4) = 1 then (if r1 = 98 then (some 1) else (if r1 = 104 then (some 1) else (if r1 = 110 then (some 1) else (some 0)))) else (if ((p3 - 3) - (p3 - 3) / 4 * 4) = 2 then (some (fX8_isAmong r1 (48 : Int32) (57 : Int32))) else ((fX6_at n p1 ((p2 + p3) - 1) M).bind fun r16 => (if r16 = 48 then (some (fX8_isAmong r1 (49 : Int32) (57 : Int32))) else (some (fX8_isAmong r1 (48 : Int32) (57 : Int32))))))))))))
def fX8_firstFault_2 (n : Nat) : Nat → (Unit → Option Int32) → Nat → Int32 → Int32 → Int32 → MS → Option Int32
  | 0, _, _, _, _, _, _ => none
  | fu + 1, k, v0, v1, v2, v3, M => (if v2 ≤ v3 then (k ()) else ((fX8_goesOn n v0 v1 v3 M).bind fun r2 => (if r2 = 0 then (some v3) else (fX8_firstFault_2 n fu k v0 v1 v2 (v3 + 1) M))))
def fX8_firstFault (n : Nat) (p1 : Nat) (p2 : Int32) (p3 : Int32) (M : MS) : Option Int32 :=
  (fX8_firstFault_2 n 300 (fun (_ : Unit) => (if p3 < 11 then (some p3) else (if ((p3 - 3) - (p3 - 3) / 4 * 4) = 0 then (some (-1)) else (some p3)))) p1 p2 p3 (0 : Int32) M)

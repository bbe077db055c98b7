set_option maxRecDepth 10000 in
theorem b223_18 {xs : Nat → Int32} {Lx d : Nat} {V : km_V} {Q : Option Value → km_V → Prop} {x3 : Int} 
    (h : (kR x3) ∧ (kR ((Lx : Int) - 6)) ∧ ((((Lx : Int) - 6) < x3 →
    Q (some (kI 1)) V) ∧
   (x3 ≤ ((Lx : Int) - 6) →
    (0 ≤ x3 ∧ x3 < Lx) ∧ (Lx ≤ 10000) ∧ (kR ((xs (Int.toNat x3)).toInt % 32)) ∧ (((((xs (Int.toNat x3)).toInt % 32) < 0 ∨ 25 < ((xs (Int.toNat x3)).toInt % 32)) → kGo xs Lx (d + 8) 223 18 [some (.ref km_scr), some (.ref 0), some (.ref 299), some (kI (x3 + 6))] [] V Q) ∧ (((xs (Int.toNat x3)).toInt % 32) = 0 →
      (0 ≤ (x3 + 1) ∧ (x3 + 1) < Lx) ∧ (0 ≤ (x3 + 2) ∧ (x3 + 2) < Lx) ∧ (0 ≤ (x3 + 3) ∧ (x3 + 3) < Lx) ∧ (0 ≤ (x3 + 4) ∧ (x3 + 4) < Lx) ∧ (0 ≤ (x3 + 5) ∧ (x3 + 5) < Lx) ∧ kCI xs Lx (d + 7) 91 6 [.ref 0, kI ((xs (Int.toNat (x3 + 1))).toInt), kI ((xs (Int.toNat (x3 + 2))).toInt), kI ((xs (Int.toNat (x3 + 3))).toInt), kI ((xs (Int.toNat (x3 + 4))).toInt), kI ((xs (Int.toNat (x3 + 5))).toInt)] V (fun y1 W1 =>
      kCI xs Lx (d + 7) 125 6 [.ref 299, kI ((xs (Int.toNat (x3 + 1))).toInt), kI ((xs (Int.toNat (x3 + 2))).toInt), kI ((xs (Int.toNat (x3 + 3))).toInt), kI ((xs (Int.toNat (x3 + 4))).toInt), kI ((xs (Int.toNat (x3 + 5))).toInt)] W1 (fun y2 W2 =>
      (kR y1) ∧ (kR y2) ∧ ((y1 = y2 →
        kGo xs Lx (d + 8) 223 18 [some (.ref km_scr), some (.ref 0), some (.ref 299), some (kI (x3 + 6))] [] W2 Q) ∧
       (y1 ≠ y2 →
        Q (some (kI 0)) W2))))) ∧ (((xs (Int.toNat x3)).toInt % 32) = 1 →
      (0 ≤ (x3 + 1) ∧ (x3 + 1) < Lx) ∧ kCI xs Lx (d + 7) 92 2 [.ref 0, kI ((xs (Int.toNat (x3 + 1))).toInt)] V (fun y3 W3 =>
      kCI xs Lx (d + 7) 127 2 [.ref 299, kI ((xs (Int.toNat (x3 + 1))).toInt)] W3 (fun y4 W4 =>
      (kR y3) ∧ (kR y4) ∧ ((y3 = y4 →
        kGo xs Lx (d + 8) 223 18 [some (.ref km_scr), some (.ref 0), some (.ref 299), some (kI (x3 + 6))] [] W4 Q) ∧
       (y3 ≠ y4 →
        Q (some (kI 0)) W4))))) ∧ (((xs (Int.toNat x3)).toInt % 32) = 2 →
      kCI xs Lx (d + 7) 93 3 [.ref 0] V (fun y5 W5 =>
      kCI xs Lx (d + 7) 141 2 [.ref 299] W5 (fun y6 W6 =>
      (kR y5) ∧ (kR y6) ∧ ((y5 = y6 →
        kGo xs Lx (d + 8) 223 18 [some (.ref km_scr), some (.ref 0), some (.ref 299), some (kI (x3 + 6))] [] W6 Q) ∧
       (y5 ≠ y6 →
        Q (some (kI 0)) W6))))) ∧ (((xs (Int.toNat x3)).toInt % 32) = 3 →
      kCI xs Lx (d + 7) 94 1 [.ref 0] V (fun y7 W7 =>
      kCI xs Lx (d + 7) 142 1 [.ref 299] W7 (fun y8 W8 =>
      (kR y7) ∧ (kR y8) ∧ ((y7 = y8 →
        kGo xs Lx (d + 8) 223 18 [some (.ref km_scr), some (.ref 0), some (.ref 299), some (kI (x3 + 6))] [] W8 Q) ∧
       (y7 ≠ y8 →
        Q (some (kI 0)) W8))))) ∧ (((xs (Int.toNat x3)).toInt % 32) = 4 →
      (0 ≤ (x3 + 1) ∧ (x3 + 1) < Lx) ∧ kCI xs Lx (d + 7) 95 3 [.ref 0, kI ((xs (Int.toNat (x3 + 1))).toInt)] V (fun y9 W9 =>
      kCI xs Lx (d + 7) 181 3 [.ref 299, kI ((xs (Int.toNat (x3 + 1))).toInt)] W9 (fun y10 W10 =>
      (kR y9) ∧ (kR y10) ∧ ((y9 = y10 →
        kGo xs Lx (d + 8) 223 18 [some (.ref km_scr), some (.ref 0), some (.ref 299), some (kI (x3 + 6))] [] W10 Q) ∧
       (y9 ≠ y10 →
        Q (some (kI 0)) W10))))) ∧ (((xs (Int.toNat x3)).toInt % 32) = 5 →
      (0 ≤ (x3 + 1) ∧ (x3 + 1) < Lx) ∧ kCI xs Lx (d + 7) 96 2 [.ref 0, kI ((xs (Int.toNat (x3 + 1))).toInt)] V (fun y11 W11 =>
      kCI xs Lx (d + 7) 182 2 [.ref 299, kI ((xs (Int.toNat (x3 + 1))).toInt)] W11 (fun y12 W12 =>
      (kR y11) ∧ (kR y12) ∧ ((y11 = y12 →
        kGo xs Lx (d + 8) 223 18 [some (.ref km_scr), some (.ref 0), some (.ref 299), some (kI (x3 + 6))] [] W12 Q) ∧
       (y11 ≠ y12 →
        Q (some (kI 0)) W12))))) ∧ (((xs (Int.toNat x3)).toInt % 32) = 6 →
      (0 ≤ (x3 + 1) ∧ (x3 + 1) < Lx) ∧ (0 ≤ (x3 + 2) ∧ (x3 + 2) < Lx) ∧ (kR ((xs (Int.toNat (x3 + 2))).toInt)) ∧ (((xs (Int.toNat (x3 + 2))).toInt = 0 →
        (0 ≤ (x3 + 3) ∧ (x3 + 3) < Lx) ∧ (kR ((xs (Int.toNat (x3 + 3))).toInt)) ∧ (((xs (Int.toNat (x3 + 3))).toInt = 0 →
          kCI xs Lx (d + 7) 97 4 [.ref 0, kI ((xs (Int.toNat (x3 + 1))).toInt), kI 0, kI 0] V (fun y13 W13 =>
          kCI xs Lx (d + 7) 183 8 [.ref 299, kI ((xs (Int.toNat (x3 + 1))).toInt), kI 0, kI 0] W13 (fun y14 W14 =>
          (kR y13) ∧ (kR y14) ∧ ((y13 = y14 →
            kGo xs Lx (d + 8) 223 18 [some (.ref km_scr), some (.ref 0), some (.ref 299), some (kI (x3 + 6))] [] W14 Q) ∧
           (y13 ≠ y14 →
            Q (some (kI 0)) W14))))) ∧
         ((xs (Int.toNat (x3 + 3))).toInt ≠ 0 →
          kCI xs Lx (d + 7) 97 4 [.ref 0, kI ((xs (Int.toNat (x3 + 1))).toInt), kI 0, kI 1] V (fun y15 W15 =>
          kCI xs Lx (d + 7) 183 8 [.ref 299, kI ((xs (Int.toNat (x3 + 1))).toInt), kI 0, kI 1] W15 (fun y16 W16 =>
          (kR y15) ∧ (kR y16) ∧ ((y15 = y16 →
            kGo xs Lx (d + 8) 223 18 [some (.ref km_scr), some (.ref 0), some (.ref 299), some (kI (x3 + 6))] [] W16 Q) ∧
           (y15 ≠ y16 →
            Q (some (kI 0)) W16))))))) ∧
       ((xs (Int.toNat (x3 + 2))).toInt ≠ 0 →
        (0 ≤ (x3 + 3) ∧ (x3 + 3) < Lx) ∧ (kR ((xs (Int.toNat (x3 + 3))).toInt)) ∧ (((xs (Int.toNat (x3 + 3))).toInt = 0 →
          kCI xs Lx (d + 7) 97 4 [.ref 0, kI ((xs (Int.toNat (x3 + 1))).toInt), kI 1, kI 0] V (fun y17 W17 =>
          kCI xs Lx (d + 7) 183 8 [.ref 299, kI ((xs (Int.toNat (x3 + 1))).toInt), kI 1, kI 0] W17 (fun y18 W18 =>
          (kR y17) ∧ (kR y18) ∧ ((y17 = y18 →
            kGo xs Lx (d + 8) 223 18 [some (.ref km_scr), some (.ref 0), some (.ref 299), some (kI (x3 + 6))] [] W18 Q) ∧
           (y17 ≠ y18 →
            Q (some (kI 0)) W18))))) ∧
         ((xs (Int.toNat (x3 + 3))).toInt ≠ 0 →
          kCI xs Lx (d + 7) 97 4 [.ref 0, kI ((xs (Int.toNat (x3 + 1))).toInt), kI 1, kI 1] V (fun y19 W19 =>
          kCI xs Lx (d + 7) 183 8 [.ref 299, kI ((xs (Int.toNat (x3 + 1))).toInt), kI 1, kI 1] W19 (fun y20 W20 =>
          (kR y19) ∧ (kR y20) ∧ ((y19 = y20 →
            kGo xs Lx (d + 8) 223 18 [some (.ref km_scr), some (.ref 0), some (.ref 299), some (kI (x3 + 6))] [] W20 Q) ∧
           (y19 ≠ y20 →
            Q (some (kI 0)) W20))))))))) ∧ (((xs (Int.toNat x3)).toInt % 32) = 7 →
      kCI xs Lx (d + 7) 98 2 [.ref 0] V (fun y21 W21 =>
      kCI xs Lx (d + 7) 184 2 [.ref 299] W21 (fun y22 W22 =>
      (kR y21) ∧ (kR y22) ∧ ((y21 = y22 →
        kGo xs Lx (d + 8) 223 18 [some (.ref km_scr), some (.ref 0), some (.ref 299), some (kI (x3 + 6))] [] W22 Q) ∧
       (y21 ≠ y22 →
        Q (some (kI 0)) W22))))) ∧ (((xs (Int.toNat x3)).toInt % 32) = 8 →
      kCI xs Lx (d + 7) 99 1 [.ref 0] V (fun y23 W23 =>
      kCI xs Lx (d + 7) 185 2 [.ref 299] W23 (fun y24 W24 =>
      (kR y23) ∧ (kR y24) ∧ ((y23 = y24 →
        kGo xs Lx (d + 8) 223 18 [some (.ref km_scr), some (.ref 0), some (.ref 299), some (kI (x3 + 6))] [] W24 Q) ∧
       (y23 ≠ y24 →
        Q (some (kI 0)) W24))))) ∧ (((xs (Int.toNat x3)).toInt % 32) = 9 →
      (0 ≤ (x3 + 1) ∧ (x3 + 1) < Lx) ∧ kCI xs Lx (d + 7) 100 2 [.ref 0, kI ((xs (Int.toNat (x3 + 1))).toInt)] V (fun y25 W25 =>
      kCI xs Lx (d + 7) 186 7 [.ref 299, kI ((xs (Int.toNat (x3 + 1))).toInt)] W25 (fun y26 W26 =>
      (kR y25) ∧ (kR y26) ∧ ((y25 = y26 →
        kGo xs Lx (d + 8) 223 18 [some (.ref km_scr), some (.ref 0), some (.ref 299), some (kI (x3 + 6))] [] W26 Q) ∧
       (y25 ≠ y26 →
        Q (some (kI 0)) W26))))) ∧ (((xs (Int.toNat x3)).toInt % 32) = 10 →
      (0 ≤ (x3 + 1) ∧ (x3 + 1) < Lx) ∧ kCI xs Lx (d + 7) 101 2 [.ref 0, kI ((xs (Int.toNat (x3 + 1))).toInt)] V (fun y27 W27 =>
      kCI xs Lx (d + 7) 187 2 [.ref 299, kI ((xs (Int.toNat (x3 + 1))).toInt)] W27 (fun y28 W28 =>
      (kR y27) ∧ (kR y28) ∧ ((y27 = y28 →
        kGo xs Lx (d + 8) 223 18 [some (.ref km_scr), some (.ref 0), some (.ref 299), some (kI (x3 + 6))] [] W28 Q) ∧
       (y27 ≠ y28 →
        Q (some (kI 0)) W28))))) ∧ (((xs (Int.toNat x3)).toInt % 32) = 11 →
      (0 ≤ (x3 + 1) ∧ (x3 + 1) < Lx) ∧ kCI xs Lx (d + 7) 102 2 [.ref 0, kI ((xs (Int.toNat (x3 + 1))).toInt)] V (fun y29 W29 =>
      kCI xs Lx (d + 7) 188 6 [.ref 299, kI ((xs (Int.toNat (x3 + 1))).toInt)] W29 (fun y30 W30 =>
      (kR y29) ∧ (kR y30) ∧ ((y29 = y30 →
        kGo xs Lx (d + 8) 223 18 [some (.ref km_scr), some (.ref 0), some (.ref 299), some (kI (x3 + 6))] [] W30 Q) ∧
       (y29 ≠ y30 →
        Q (some (kI 0)) W30))))) ∧ (((xs (Int.toNat x3)).toInt % 32) = 12 →
      kCI xs Lx (d + 7) 103 1 [.ref 0] V (fun y31 W31 =>
      kCI xs Lx (d + 7) 177 3 [.ref 299] W31 (fun y32 W32 =>
      (kR y31) ∧ (kR y32) ∧ ((y31 = y32 →
        kGo xs Lx (d + 8) 223 18 [some (.ref km_scr), some (.ref 0), some (.ref 299), some (kI (x3 + 6))] [] W32 Q) ∧
       (y31 ≠ y32 →
        Q (some (kI 0)) W32))))) ∧ (((xs (Int.toNat x3)).toInt % 32) = 13 →
      (0 ≤ (x3 + 1) ∧ (x3 + 1) < Lx) ∧ (0 ≤ (x3 + 2) ∧ (x3 + 2) < Lx) ∧ kCI xs Lx (d + 7) 104 5 [.ref 0, kI ((xs (Int.toNat (x3 + 1))).toInt), kI ((xs (Int.toNat (x3 + 2))).toInt)] V (fun y33 W33 =>
      kCI xs Lx (d + 7) 189 5 [.ref 299, kI ((xs (Int.toNat (x3 + 1))).toInt), kI ((xs (Int.toNat (x3 + 2))).toInt)] W33 (fun y34 W34 =>
      (kR y33) ∧ (kR y34) ∧ ((y33 = y34 →
        kGo xs Lx (d + 8) 223 18 [some (.ref km_scr), some (.ref 0), some (.ref 299), some (kI (x3 + 6))] [] W34 Q) ∧
       (y33 ≠ y34 →
        Q (some (kI 0)) W34))))) ∧ (((xs (Int.toNat x3)).toInt % 32) = 14 →
      (0 ≤ (x3 + 1) ∧ (x3 + 1) < Lx) ∧ (0 ≤ (x3 + 2) ∧ (x3 + 2) < Lx) ∧ kCI xs Lx (d + 7) 105 3 [.ref 0, kI ((xs (Int.toNat (x3 + 1))).toInt), kI ((xs (Int.toNat (x3 + 2))).toInt)] V (fun y35 W35 =>
      kCI xs Lx (d + 7) 191 4 [.ref 299, kI ((xs (Int.toNat (x3 + 1))).toInt), kI ((xs (Int.toNat (x3 + 2))).toInt)] W35 (fun y36 W36 =>
      (kR y35) ∧ (kR y36) ∧ ((y35 = y36 →
        kGo xs Lx (d + 8) 223 18 [some (.ref km_scr), some (.ref 0), some (.ref 299), some (kI (x3 + 6))] [] W36 Q) ∧
       (y35 ≠ y36 →
        Q (some (kI 0)) W36))))) ∧ (((xs (Int.toNat x3)).toInt % 32) = 15 →
      (0 ≤ (x3 + 1) ∧ (x3 + 1) < Lx) ∧ (0 ≤ (x3 + 2) ∧ (x3 + 2) < Lx) ∧ kCI xs Lx (d + 7) 106 4 [.ref 0, kI ((xs (Int.toNat (x3 + 1))).toInt), kI ((xs (Int.toNat (x3 + 2))).toInt)] V (fun y37 W37 =>
      kCI xs Lx (d + 7) 192 6 [.ref 299, kI ((xs (Int.toNat (x3 + 1))).toInt), kI ((xs (Int.toNat (x3 + 2))).toInt)] W37 (fun y38 W38 =>
      (kR y37) ∧ (kR y38) ∧ ((y37 = y38 →
        kGo xs Lx (d + 8) 223 18 [some (.ref km_scr), some (.ref 0), some (.ref 299), some (kI (x3 + 6))] [] W38 Q) ∧
       (y37 ≠ y38 →
        Q (some (kI 0)) W38))))) ∧ (((xs (Int.toNat x3)).toInt % 32) = 16 →
      (0 ≤ (x3 + 1) ∧ (x3 + 1) < Lx) ∧ kCI xs Lx (d + 7) 107 2 [.ref 0, kI ((xs (Int.toNat (x3 + 1))).toInt)] V (fun y39 W39 =>
      kCI xs Lx (d + 7) 195 2 [.ref 299, kI ((xs (Int.toNat (x3 + 1))).toInt)] W39 (fun y40 W40 =>
      (kR y39) ∧ (kR y40) ∧ ((y39 = y40 →
        kGo xs Lx (d + 8) 223 18 [some (.ref km_scr), some (.ref 0), some (.ref 299), some (kI (x3 + 6))] [] W40 Q) ∧
       (y39 ≠ y40 →
        Q (some (kI 0)) W40))))) ∧ (((xs (Int.toNat x3)).toInt % 32) = 17 →
      (0 ≤ (x3 + 1) ∧ (x3 + 1) < Lx) ∧ (0 ≤ (x3 + 2) ∧ (x3 + 2) < Lx) ∧ (kR ((xs (Int.toNat (x3 + 2))).toInt)) ∧ (((xs (Int.toNat (x3 + 2))).toInt = 0 →
        kCI xs Lx (d + 7) 108 4 [.ref 0, kI ((xs (Int.toNat (x3 + 1))).toInt), kI 0] V (fun y41 W41 =>
        kCI xs Lx (d + 7) 200 3 [.ref 299, kI ((xs (Int.toNat (x3 + 1))).toInt), kI 0] W41 (fun y42 W42 =>
        (kR y41) ∧ (kR y42) ∧ ((y41 = y42 →
          kGo xs Lx (d + 8) 223 18 [some (.ref km_scr), some (.ref 0), some (.ref 299), some (kI (x3 + 6))] [] W42 Q) ∧
         (y41 ≠ y42 →
          Q (some (kI 0)) W42))))) ∧
       ((xs (Int.toNat (x3 + 2))).toInt ≠ 0 →
        kCI xs Lx (d + 7) 108 4 [.ref 0, kI ((xs (Int.toNat (x3 + 1))).toInt), kI 1] V (fun y43 W43 =>
        kCI xs Lx (d + 7) 200 3 [.ref 299, kI ((xs (Int.toNat (x3 + 1))).toInt), kI 1] W43 (fun y44 W44 =>
        (kR y43) ∧ (kR y44) ∧ ((y43 = y44 →
          kGo xs Lx (d + 8) 223 18 [some (.ref km_scr), some (.ref 0), some (.ref 299), some (kI (x3 + 6))] [] W44 Q) ∧
         (y43 ≠ y44 →
          Q (some (kI 0)) W44))))))) ∧ (((xs (Int.toNat x3)).toInt % 32) = 18 →
      (0 ≤ (x3 + 1) ∧ (x3 + 1) < Lx) ∧ (0 ≤ (x3 + 2) ∧ (x3 + 2) < Lx) ∧ kCI xs Lx (d + 7) 109 7 [.ref 0, kI ((xs (Int.toNat (x3 + 1))).toInt), kI ((xs (Int.toNat (x3 + 2))).toInt)] V (fun y45 W45 =>
      kCI xs Lx (d + 7) 202 7 [.ref 299, kI ((xs (Int.toNat (x3 + 1))).toInt), kI ((xs (Int.toNat (x3 + 2))).toInt)] W45 (fun y46 W46 =>
      (kR y45) ∧ (kR y46) ∧ ((y45 = y46 →
        kGo xs Lx (d + 8) 223 18 [some (.ref km_scr), some (.ref 0), some (.ref 299), some (kI (x3 + 6))] [] W46 Q) ∧
       (y45 ≠ y46 →
        Q (some (kI 0)) W46))))) ∧ (((xs (Int.toNat x3)).toInt % 32) = 19 →
      (0 ≤ (x3 + 1) ∧ (x3 + 1) < Lx) ∧ kCJ xs Lx (d + 7) 110 2 [.ref 0, kI ((xs (Int.toNat (x3 + 1))).toInt)] V (fun y47 W47 =>
      kCJ xs Lx (d + 7) 205 8 [.ref 299, kI ((xs (Int.toNat (x3 + 1))).toInt)] W47 (fun y48 W48 =>
      (kR64 y47) ∧ (kR64 y48) ∧ (kR (kcmp y47 y48)) ∧ (((kcmp y47 y48) = 0 →
        kGo xs Lx (d + 8) 223 18 [some (.ref km_scr), some (.ref 0), some (.ref 299), some (kI (x3 + 6))] [] W48 Q) ∧
       ((kcmp y47 y48) ≠ 0 →
        Q (some (kI 0)) W48))))) ∧ (((xs (Int.toNat x3)).toInt % 32) = 20 →
      (0 ≤ (x3 + 1) ∧ (x3 + 1) < Lx) ∧ kCI xs Lx (d + 7) 111 2 [.ref 0, kI ((xs (Int.toNat (x3 + 1))).toInt)] V (fun y49 W49 =>
      kCI xs Lx (d + 7) 211 3 [.ref 299, kI ((xs (Int.toNat (x3 + 1))).toInt)] W49 (fun y50 W50 =>
      (kR y49) ∧ (kR y50) ∧ ((y49 = y50 →
        kGo xs Lx (d + 8) 223 18 [some (.ref km_scr), some (.ref 0), some (.ref 299), some (kI (x3 + 6))] [] W50 Q) ∧
       (y49 ≠ y50 →
        Q (some (kI 0)) W50))))) ∧ (((xs (Int.toNat x3)).toInt % 32) = 21 →
      (0 ≤ (x3 + 1) ∧ (x3 + 1) < Lx) ∧ kCI xs Lx (d + 7) 112 2 [.ref 0, kI ((xs (Int.toNat (x3 + 1))).toInt)] V (fun y51 W51 =>
      kCI xs Lx (d + 7) 213 5 [.ref 299, kI ((xs (Int.toNat (x3 + 1))).toInt)] W51 (fun y52 W52 =>
      (kR y51) ∧ (kR y52) ∧ ((y51 = y52 →
        kGo xs Lx (d + 8) 223 18 [some (.ref km_scr), some (.ref 0), some (.ref 299), some (kI (x3 + 6))] [] W52 Q) ∧
       (y51 ≠ y52 →
        Q (some (kI 0)) W52))))) ∧ (((xs (Int.toNat x3)).toInt % 32) = 22 →
      (0 ≤ (x3 + 1) ∧ (x3 + 1) < Lx) ∧ (0 ≤ (x3 + 2) ∧ (x3 + 2) < Lx) ∧ kCI xs Lx (d + 7) 113 3 [.ref 0, kI ((xs (Int.toNat (x3 + 1))).toInt), kI ((xs (Int.toNat (x3 + 2))).toInt)] V (fun y53 W53 =>
      kCI xs Lx (d + 7) 215 4 [.ref 299, kI ((xs (Int.toNat (x3 + 1))).toInt), kI ((xs (Int.toNat (x3 + 2))).toInt)] W53 (fun y54 W54 =>
      (kR y53) ∧ (kR y54) ∧ ((y53 = y54 →
        kGo xs Lx (d + 8) 223 18 [some (.ref km_scr), some (.ref 0), some (.ref 299), some (kI (x3 + 6))] [] W54 Q) ∧
       (y53 ≠ y54 →
        Q (some (kI 0)) W54))))) ∧ (((xs (Int.toNat x3)).toInt % 32) = 23 →
      (0 ≤ (x3 + 1) ∧ (x3 + 1) < Lx) ∧ kCI xs Lx (d + 7) 114 2 [.ref 0, kI ((xs (Int.toNat (x3 + 1))).toInt)] V (fun y55 W55 =>
      kCI xs Lx (d + 7) 178 3 [.ref 299, kI ((xs (Int.toNat (x3 + 1))).toInt)] W55 (fun y56 W56 =>
      (kR y55) ∧ (kR y56) ∧ ((y55 = y56 →
        kGo xs Lx (d + 8) 223 18 [some (.ref km_scr), some (.ref 0), some (.ref 299), some (kI (x3 + 6))] [] W56 Q) ∧
       (y55 ≠ y56 →
        Q (some (kI 0)) W56))))) ∧ (((xs (Int.toNat x3)).toInt % 32) = 24 →
      (0 ≤ (x3 + 1) ∧ (x3 + 1) < Lx) ∧ kCI xs Lx (d + 7) 115 2 [.ref 0, kI ((xs (Int.toNat (x3 + 1))).toInt)] V (fun y57 W57 =>
      kCI xs Lx (d + 7) 180 2 [.ref 299, kI ((xs (Int.toNat (x3 + 1))).toInt)] W57 (fun y58 W58 =>
      (kR y57) ∧ (kR y58) ∧ ((y57 = y58 →
        kGo xs Lx (d + 8) 223 18 [some (.ref km_scr), some (.ref 0), some (.ref 299), some (kI (x3 + 6))] [] W58 Q) ∧
       (y57 ≠ y58 →
        Q (some (kI 0)) W58))))) ∧ (((xs (Int.toNat x3)).toInt % 32) = 25 →
      (0 ≤ (x3 + 1) ∧ (x3 + 1) < Lx) ∧ kCI xs Lx (d + 7) 116 2 [.ref 0, kI ((xs (Int.toNat (x3 + 1))).toInt)] V (fun y59 W59 =>
      kCI xs Lx (d + 7) 217 2 [.ref 299, kI ((xs (Int.toNat (x3 + 1))).toInt)] W59 (fun y60 W60 =>
      (kR y59) ∧ (kR y60) ∧ ((y59 = y60 →
        kGo xs Lx (d + 8) 223 18 [some (.ref km_scr), some (.ref 0), some (.ref 299), some (kI (x3 + 6))] [] W60 Q) ∧
       (y59 ≠ y60 →
        Q (some (kI 0)) W60))))))))) :
    kGo xs Lx (d + 8) 223 18 [some (.ref km_scr), some (.ref 0), some (.ref 299), some (kI x3)] [] V Q := by
  refine g_iload_n 19 gq223 rfl rfl rfl ?_
  refine g_aload_n 20 gq223 rfl rfl rfl ?_
  refine g_scrlen 21 gq223 rfl rfl ?_
  refine g_bipush 23 gq223 rfl rfl rfl ?_
  refine g_isub 24 gq223 rfl rfl ?_
  have c5 := h.1
  replace h := h.2
  have c7 := h.1
  replace h := h.2
  refine g_icmp_gt 875 27 gq223 rfl rfl rfl c5 c7 (fun c => ?_) (fun c => ?_)
  · replace h := h.1 c
    refine g_iconst 876 gq223 rfl rfl ?_
    exact g_zret gq223 rfl rfl (by omega) h
  · replace h := h.2 c
    refine g_aload_n 28 gq223 rfl rfl rfl ?_
    refine g_iload_n 29 gq223 rfl rfl rfl ?_
    have c16 := h.1
    replace h := h.2
    have c18 := h.1
    replace h := h.2
    refine g_script 30 gq223 rfl rfl c16 c18 ?_
    refine g_bipush 32 gq223 rfl rfl rfl ?_
    refine g_iandM 33 5 gq223 rfl rfl (by decide) rfl ?_
    have c23 := h.1
    replace h := h.2
    by_cases hd : ((xs (Int.toNat x3)).toInt % 32) < 0 ∨ 25 < ((xs (Int.toNat x3)).toInt % 32)
    · replace h := h.1 hd
      refine g_switch (x := ((xs (Int.toNat x3)).toInt % 32)) 869 gq223 rfl c23 (by rw [if_pos hd]; rfl) ?_
      refine g_iinc 872 gq223 rfl rfl rfl rfl ?_
      refine g_goto 18 gq223 rfl rfl ?_
      exact kGo.weak (km_Le.s (km_Le.s (km_Le.s (km_Le.s km_Le.nil)))) h
    replace h := h.2
    have hv : ((xs (Int.toNat x3)).toInt % 32) = 0 ∨ ((xs (Int.toNat x3)).toInt % 32) = 1 ∨ ((xs (Int.toNat x3)).toInt % 32) = 2 ∨ ((xs (Int.toNat x3)).toInt % 32) = 3 ∨ ((xs (Int.toNat x3)).toInt % 32) = 4 ∨ ((xs (Int.toNat x3)).toInt % 32) = 5 ∨ ((xs (Int.toNat x3)).toInt % 32) = 6 ∨ ((xs (Int.toNat x3)).toInt % 32) = 7 ∨ ((xs (Int.toNat x3)).toInt % 32) = 8 ∨ ((xs (Int.toNat x3)).toInt % 32) = 9 ∨ ((xs (Int.toNat x3)).toInt % 32) = 10 ∨ ((xs (Int.toNat x3)).toInt % 32) = 11 ∨ ((xs (Int.toNat x3)).toInt % 32) = 12 ∨ ((xs (Int.toNat x3)).toInt % 32) = 13 ∨ ((xs (Int.toNat x3)).toInt % 32) = 14 ∨ ((xs (Int.toNat x3)).toInt % 32) = 15 ∨ ((xs (Int.toNat x3)).toInt % 32) = 16 ∨ ((xs (Int.toNat x3)).toInt % 32) = 17 ∨ ((xs (Int.toNat x3)).toInt % 32) = 18 ∨ ((xs (Int.toNat x3)).toInt % 32) = 19 ∨ ((xs (Int.toNat x3)).toInt % 32) = 20 ∨ ((xs (Int.toNat x3)).toInt % 32) = 21 ∨ ((xs (Int.toNat x3)).toInt % 32) = 22 ∨ ((xs (Int.toNat x3)).toInt % 32) = 23 ∨ ((xs (Int.toNat x3)).toInt % 32) = 24 ∨ ((xs (Int.toNat x3)).toInt % 32) = 25 := by omega
    rcases hv with hv | hv | hv | hv | hv | hv | hv | hv | hv | hv | hv | hv | hv | hv | hv | hv | hv | hv | hv | hv | hv | hv | hv | hv | hv | hv
    · replace h := h.1 hv
      refine g_switch (x := ((xs (Int.toNat x3)).toInt % 32)) 152 gq223 rfl c23 (by rw [hv]; rfl) ?_
      refine g_aload_n 153 gq223 rfl rfl rfl ?_
      refine g_aload_n 154 gq223 rfl rfl rfl ?_
      refine g_iload_n 155 gq223 rfl rfl rfl ?_
      refine g_iconst 156 gq223 rfl rfl ?_
      refine g_iadd 157 gq223 rfl rfl ?_
      have c41 := h.1
      replace h := h.2
      refine g_script 158 gq223 rfl rfl c41 c18 ?_
      refine g_aload_n 159 gq223 rfl rfl rfl ?_
      refine g_iload_n 160 gq223 rfl rfl rfl ?_
      refine g_iconst 161 gq223 rfl rfl ?_
      refine g_iadd 162 gq223 rfl rfl ?_
      have c48 := h.1
      replace h := h.2
      refine g_script 163 gq223 rfl rfl c48 c18 ?_
      refine g_aload_n 164 gq223 rfl rfl rfl ?_
      refine g_iload_n 165 gq223 rfl rfl rfl ?_
      refine g_iconst 166 gq223 rfl rfl ?_
      refine g_iadd 167 gq223 rfl rfl ?_
      have c55 := h.1
      replace h := h.2
      refine g_script 168 gq223 rfl rfl c55 c18 ?_
      refine g_aload_n 169 gq223 rfl rfl rfl ?_
      refine g_iload_n 170 gq223 rfl rfl rfl ?_
      refine g_iconst 171 gq223 rfl rfl ?_
      refine g_iadd 172 gq223 rfl rfl ?_
      have c62 := h.1
      replace h := h.2
      refine g_script 173 gq223 rfl rfl c62 c18 ?_
      refine g_aload_n 174 gq223 rfl rfl rfl ?_
      refine g_iload_n 175 gq223 rfl rfl rfl ?_
      refine g_iconst 176 gq223 rfl rfl ?_
      refine g_iadd 177 gq223 rfl rfl ?_
      have c69 := h.1
      replace h := h.2
      refine g_script 178 gq223 rfl rfl c69 c18 ?_
      refine g_virt 91 _ (i := 13) gq223 rfl rfl gq91 rfl rfl rfl rfl rfl rfl ?_
      refine kGo.mono h (fun r W1 hr => ?_)
      obtain ⟨y1, rfl, h⟩ := hr
      refine g_aload_n 182 gq223 rfl rfl rfl ?_
      refine g_aload_n 183 gq223 rfl rfl rfl ?_
      refine g_iload_n 184 gq223 rfl rfl rfl ?_
      refine g_iconst 185 gq223 rfl rfl ?_
      refine g_iadd 186 gq223 rfl rfl ?_
      refine g_script 187 gq223 rfl rfl c41 c18 ?_
      refine g_aload_n 188 gq223 rfl rfl rfl ?_
      refine g_iload_n 189 gq223 rfl rfl rfl ?_
      refine g_iconst 190 gq223 rfl rfl ?_
      refine g_iadd 191 gq223 rfl rfl ?_
      refine g_script 192 gq223 rfl rfl c48 c18 ?_
      refine g_aload_n 193 gq223 rfl rfl rfl ?_
      refine g_iload_n 194 gq223 rfl rfl rfl ?_
      refine g_iconst 195 gq223 rfl rfl ?_
      refine g_iadd 196 gq223 rfl rfl ?_
      refine g_script 197 gq223 rfl rfl c55 c18 ?_
      refine g_aload_n 198 gq223 rfl rfl rfl ?_
      refine g_iload_n 199 gq223 rfl rfl rfl ?_
      refine g_iconst 200 gq223 rfl rfl ?_
      refine g_iadd 201 gq223 rfl rfl ?_
      refine g_script 202 gq223 rfl rfl c62 c18 ?_
      refine g_aload_n 203 gq223 rfl rfl rfl ?_
      refine g_iload_n 204 gq223 rfl rfl rfl ?_
      refine g_iconst 205 gq223 rfl rfl ?_
      refine g_iadd 206 gq223 rfl rfl ?_
      refine g_script 207 gq223 rfl rfl c69 c18 ?_
      refine g_virt 125 _ (i := 17) gq223 rfl rfl gq125 rfl rfl rfl rfl rfl rfl ?_
      refine kGo.mono h (fun r W2 hr => ?_)
      obtain ⟨y2, rfl, h⟩ := hr
      have c104 := h.1
      replace h := h.2
      have c106 := h.1
      replace h := h.2
      refine g_icmp_eq 869 213 gq223 rfl rfl rfl c104 c106 (fun c => ?_) (fun c => ?_)
      · replace h := h.1 c
        refine g_iinc 872 gq223 rfl rfl rfl rfl ?_
        refine g_goto 18 gq223 rfl rfl ?_
        exact kGo.weak (km_Le.s (km_Le.s (km_Le.s (km_Le.s km_Le.nil)))) h
      · replace h := h.2 c
        refine g_iconst 214 gq223 rfl rfl ?_
        exact g_zret gq223 rfl rfl (by omega) h
    · replace h := h.2.1 hv
      refine g_switch (x := ((xs (Int.toNat x3)).toInt % 32)) 215 gq223 rfl c23 (by rw [hv]; rfl) ?_
      refine g_aload_n 216 gq223 rfl rfl rfl ?_
      refine g_aload_n 217 gq223 rfl rfl rfl ?_
      refine g_iload_n 218 gq223 rfl rfl rfl ?_
      refine g_iconst 219 gq223 rfl rfl ?_
      refine g_iadd 220 gq223 rfl rfl ?_
      have c123 := h.1
      replace h := h.2
      refine g_script 221 gq223 rfl rfl c123 c18 ?_
      refine g_virt 92 _ (i := 18) gq223 rfl rfl gq92 rfl rfl rfl rfl rfl rfl ?_
      refine kGo.mono h (fun r W3 hr => ?_)
      obtain ⟨y3, rfl, h⟩ := hr
      refine g_aload_n 225 gq223 rfl rfl rfl ?_
      refine g_aload_n 226 gq223 rfl rfl rfl ?_
      refine g_iload_n 227 gq223 rfl rfl rfl ?_
      refine g_iconst 228 gq223 rfl rfl ?_
      refine g_iadd 229 gq223 rfl rfl ?_
      refine g_script 230 gq223 rfl rfl c123 c18 ?_
      refine g_virt 127 _ (i := 22) gq223 rfl rfl gq127 rfl rfl rfl rfl rfl rfl ?_
      refine kGo.mono h (fun r W4 hr => ?_)
      obtain ⟨y4, rfl, h⟩ := hr
      have c138 := h.1
      replace h := h.2
      have c140 := h.1
      replace h := h.2
      refine g_icmp_eq 869 236 gq223 rfl rfl rfl c138 c140 (fun c => ?_) (fun c => ?_)
      · replace h := h.1 c
        refine g_iinc 872 gq223 rfl rfl rfl rfl ?_
        refine g_goto 18 gq223 rfl rfl ?_
        exact kGo.weak (km_Le.s (km_Le.s (km_Le.s (km_Le.s km_Le.nil)))) h
      · replace h := h.2 c
        refine g_iconst 237 gq223 rfl rfl ?_
        exact g_zret gq223 rfl rfl (by omega) h
    · replace h := h.2.2.1 hv
      refine g_switch (x := ((xs (Int.toNat x3)).toInt % 32)) 238 gq223 rfl c23 (by rw [hv]; rfl) ?_
      refine g_aload_n 239 gq223 rfl rfl rfl ?_
      refine g_virt 93 _ (i := 23) gq223 rfl rfl gq93 rfl rfl rfl rfl rfl rfl ?_
      refine kGo.mono h (fun r W5 hr => ?_)
      obtain ⟨y5, rfl, h⟩ := hr
      refine g_aload_n 243 gq223 rfl rfl rfl ?_
      refine g_virt 141 _ (i := 27) gq223 rfl rfl gq141 rfl rfl rfl rfl rfl rfl ?_
      refine kGo.mono h (fun r W6 hr => ?_)
      obtain ⟨y6, rfl, h⟩ := hr
      have c160 := h.1
      replace h := h.2
      have c162 := h.1
      replace h := h.2
      refine g_icmp_eq 869 249 gq223 rfl rfl rfl c160 c162 (fun c => ?_) (fun c => ?_)
      · replace h := h.1 c
        refine g_iinc 872 gq223 rfl rfl rfl rfl ?_
        refine g_goto 18 gq223 rfl rfl ?_
        exact kGo.weak (km_Le.s (km_Le.s (km_Le.s (km_Le.s km_Le.nil)))) h
      · replace h := h.2 c
        refine g_iconst 250 gq223 rfl rfl ?_
        exact g_zret gq223 rfl rfl (by omega) h
    · replace h := h.2.2.2.1 hv
      refine g_switch (x := ((xs (Int.toNat x3)).toInt % 32)) 251 gq223 rfl c23 (by rw [hv]; rfl) ?_
      refine g_aload_n 252 gq223 rfl rfl rfl ?_
      refine g_virt 94 _ (i := 28) gq223 rfl rfl gq94 rfl rfl rfl rfl rfl rfl ?_
      refine kGo.mono h (fun r W7 hr => ?_)
      obtain ⟨y7, rfl, h⟩ := hr
      refine g_aload_n 256 gq223 rfl rfl rfl ?_
      refine g_virt 142 _ (i := 31) gq223 rfl rfl gq142 rfl rfl rfl rfl rfl rfl ?_
      refine kGo.mono h (fun r W8 hr => ?_)
      obtain ⟨y8, rfl, h⟩ := hr
      have c182 := h.1
      replace h := h.2
      have c184 := h.1
      replace h := h.2
      refine g_icmp_eq 869 262 gq223 rfl rfl rfl c182 c184 (fun c => ?_) (fun c => ?_)
      · replace h := h.1 c
        refine g_iinc 872 gq223 rfl rfl rfl rfl ?_
        refine g_goto 18 gq223 rfl rfl ?_
        exact kGo.weak (km_Le.s (km_Le.s (km_Le.s (km_Le.s km_Le.nil)))) h
      · replace h := h.2 c
        refine g_iconst 263 gq223 rfl rfl ?_
        exact g_zret gq223 rfl rfl (by omega) h
    · replace h := h.2.2.2.2.1 hv
      refine g_switch (x := ((xs (Int.toNat x3)).toInt % 32)) 264 gq223 rfl c23 (by rw [hv]; rfl) ?_
      refine g_aload_n 265 gq223 rfl rfl rfl ?_
      refine g_aload_n 266 gq223 rfl rfl rfl ?_
      refine g_iload_n 267 gq223 rfl rfl rfl ?_
      refine g_iconst 268 gq223 rfl rfl ?_
      refine g_iadd 269 gq223 rfl rfl ?_
      have c201 := h.1
      replace h := h.2
      refine g_script 270 gq223 rfl rfl c201 c18 ?_
      refine g_virt 95 _ (i := 32) gq223 rfl rfl gq95 rfl rfl rfl rfl rfl rfl ?_
      refine kGo.mono h (fun r W9 hr => ?_)
      obtain ⟨y9, rfl, h⟩ := hr
      refine g_aload_n 274 gq223 rfl rfl rfl ?_
      refine g_aload_n 275 gq223 rfl rfl rfl ?_
      refine g_iload_n 276 gq223 rfl rfl rfl ?_
      refine g_iconst 277 gq223 rfl rfl ?_
      refine g_iadd 278 gq223 rfl rfl ?_
      refine g_script 279 gq223 rfl rfl c201 c18 ?_
      refine g_virt 181 _ (i := 35) gq223 rfl rfl gq181 rfl rfl rfl rfl rfl rfl ?_
      refine kGo.mono h (fun r W10 hr => ?_)
      obtain ⟨y10, rfl, h⟩ := hr
      have c216 := h.1
      replace h := h.2
      have c218 := h.1
      replace h := h.2
      refine g_icmp_eq 869 285 gq223 rfl rfl rfl c216 c218 (fun c => ?_) (fun c => ?_)
      · replace h := h.1 c
        refine g_iinc 872 gq223 rfl rfl rfl rfl ?_
        refine g_goto 18 gq223 rfl rfl ?_
        exact kGo.weak (km_Le.s (km_Le.s (km_Le.s (km_Le.s km_Le.nil)))) h
      · replace h := h.2 c
        refine g_iconst 286 gq223 rfl rfl ?_
        exact g_zret gq223 rfl rfl (by omega) h
    · replace h := h.2.2.2.2.2.1 hv
      refine g_switch (x := ((xs (Int.toNat x3)).toInt % 32)) 287 gq223 rfl c23 (by rw [hv]; rfl) ?_
      refine g_aload_n 288 gq223 rfl rfl rfl ?_
      refine g_aload_n 289 gq223 rfl rfl rfl ?_
      refine g_iload_n 290 gq223 rfl rfl rfl ?_
      refine g_iconst 291 gq223 rfl rfl ?_
      refine g_iadd 292 gq223 rfl rfl ?_
      have c235 := h.1
      replace h := h.2
      refine g_script 293 gq223 rfl rfl c235 c18 ?_
      refine g_virt 96 _ (i := 36) gq223 rfl rfl gq96 rfl rfl rfl rfl rfl rfl ?_
      refine kGo.mono h (fun r W11 hr => ?_)
      obtain ⟨y11, rfl, h⟩ := hr
      refine g_aload_n 297 gq223 rfl rfl rfl ?_
      refine g_aload_n 298 gq223 rfl rfl rfl ?_
      refine g_iload_n 299 gq223 rfl rfl rfl ?_
      refine g_iconst 300 gq223 rfl rfl ?_
      refine g_iadd 301 gq223 rfl rfl ?_
      refine g_script 302 gq223 rfl rfl c235 c18 ?_
      refine g_virt 182 _ (i := 40) gq223 rfl rfl gq182 rfl rfl rfl rfl rfl rfl ?_
      refine kGo.mono h (fun r W12 hr => ?_)
      obtain ⟨y12, rfl, h⟩ := hr
      have c250 := h.1
      replace h := h.2
      have c252 := h.1
      replace h := h.2
      refine g_icmp_eq 869 308 gq223 rfl rfl rfl c250 c252 (fun c => ?_) (fun c => ?_)
      · replace h := h.1 c
        refine g_iinc 872 gq223 rfl rfl rfl rfl ?_
        refine g_goto 18 gq223 rfl rfl ?_
        exact kGo.weak (km_Le.s (km_Le.s (km_Le.s (km_Le.s km_Le.nil)))) h
      · replace h := h.2 c
        refine g_iconst 309 gq223 rfl rfl ?_
        exact g_zret gq223 rfl rfl (by omega) h
    · replace h := h.2.2.2.2.2.2.1 hv
      refine g_switch (x := ((xs (Int.toNat x3)).toInt % 32)) 310 gq223 rfl c23 (by rw [hv]; rfl) ?_
      refine g_aload_n 311 gq223 rfl rfl rfl ?_
      refine g_aload_n 312 gq223 rfl rfl rfl ?_
      refine g_iload_n 313 gq223 rfl rfl rfl ?_
      refine g_iconst 314 gq223 rfl rfl ?_
      refine g_iadd 315 gq223 rfl rfl ?_
      have c269 := h.1
      replace h := h.2
      refine g_script 316 gq223 rfl rfl c269 c18 ?_
      refine g_aload_n 317 gq223 rfl rfl rfl ?_
      refine g_iload_n 318 gq223 rfl rfl rfl ?_
      refine g_iconst 319 gq223 rfl rfl ?_
      refine g_iadd 320 gq223 rfl rfl ?_
      have c276 := h.1
      replace h := h.2
      refine g_script 321 gq223 rfl rfl c276 c18 ?_
      have c279 := h.1
      replace h := h.2
      refine g_if_eq 328 324 gq223 rfl rfl rfl c279 (fun c => ?_) (fun c => ?_)
      · replace h := h.1 c
        refine g_iconst 329 gq223 rfl rfl ?_
        refine g_aload_n 330 gq223 rfl rfl rfl ?_
        refine g_iload_n 331 gq223 rfl rfl rfl ?_
        refine g_iconst 332 gq223 rfl rfl ?_
        refine g_iadd 333 gq223 rfl rfl ?_
        have c288 := h.1
        replace h := h.2
        refine g_script 334 gq223 rfl rfl c288 c18 ?_
        have c291 := h.1
        replace h := h.2
        refine g_if_eq 341 337 gq223 rfl rfl rfl c291 (fun c => ?_) (fun c => ?_)
        · replace h := h.1 c
          refine g_iconst 342 gq223 rfl rfl ?_
          refine g_virt 97 _ (i := 41) gq223 rfl rfl gq97 rfl rfl rfl rfl rfl rfl ?_
          refine kGo.mono h (fun r W13 hr => ?_)
          obtain ⟨y13, rfl, h⟩ := hr
          refine g_aload_n 346 gq223 rfl rfl rfl ?_
          refine g_aload_n 347 gq223 rfl rfl rfl ?_
          refine g_iload_n 348 gq223 rfl rfl rfl ?_
          refine g_iconst 349 gq223 rfl rfl ?_
          refine g_iadd 350 gq223 rfl rfl ?_
          refine g_script 351 gq223 rfl rfl c269 c18 ?_
          refine g_aload_n 352 gq223 rfl rfl rfl ?_
          refine g_iload_n 353 gq223 rfl rfl rfl ?_
          refine g_iconst 354 gq223 rfl rfl ?_
          refine g_iadd 355 gq223 rfl rfl ?_
          refine g_script 356 gq223 rfl rfl c276 c18 ?_
          refine g_if_eq 363 359 gq223 rfl rfl rfl c279 (fun c => ?_) (fun c => ?_)
          rotate_left
          · exfalso; omega
          refine g_iconst 364 gq223 rfl rfl ?_
          refine g_aload_n 365 gq223 rfl rfl rfl ?_
          refine g_iload_n 366 gq223 rfl rfl rfl ?_
          refine g_iconst 367 gq223 rfl rfl ?_
          refine g_iadd 368 gq223 rfl rfl ?_
          refine g_script 369 gq223 rfl rfl c288 c18 ?_
          refine g_if_eq 376 372 gq223 rfl rfl rfl c291 (fun c => ?_) (fun c => ?_)
          rotate_left
          · exfalso; omega
          refine g_iconst 377 gq223 rfl rfl ?_
          refine g_virt 183 _ (i := 45) gq223 rfl rfl gq183 rfl rfl rfl rfl rfl rfl ?_
          refine kGo.mono h (fun r W14 hr => ?_)
          obtain ⟨y14, rfl, h⟩ := hr
          have c326 := h.1
          replace h := h.2
          have c328 := h.1
          replace h := h.2
          refine g_icmp_eq 869 383 gq223 rfl rfl rfl c326 c328 (fun c => ?_) (fun c => ?_)
          · replace h := h.1 c
            refine g_iinc 872 gq223 rfl rfl rfl rfl ?_
            refine g_goto 18 gq223 rfl rfl ?_
            exact kGo.weak (km_Le.s (km_Le.s (km_Le.s (km_Le.s km_Le.nil)))) h
          · replace h := h.2 c
            refine g_iconst 384 gq223 rfl rfl ?_
            exact g_zret gq223 rfl rfl (by omega) h
        · replace h := h.2 c
          refine g_iconst 338 gq223 rfl rfl ?_
          refine g_goto 342 gq223 rfl rfl ?_
          refine g_virt 97 _ (i := 41) gq223 rfl rfl gq97 rfl rfl rfl rfl rfl rfl ?_
          refine kGo.mono h (fun r W15 hr => ?_)
          obtain ⟨y15, rfl, h⟩ := hr
          refine g_aload_n 346 gq223 rfl rfl rfl ?_
          refine g_aload_n 347 gq223 rfl rfl rfl ?_
          refine g_iload_n 348 gq223 rfl rfl rfl ?_
          refine g_iconst 349 gq223 rfl rfl ?_
          refine g_iadd 350 gq223 rfl rfl ?_
          refine g_script 351 gq223 rfl rfl c269 c18 ?_
          refine g_aload_n 352 gq223 rfl rfl rfl ?_
          refine g_iload_n 353 gq223 rfl rfl rfl ?_
          refine g_iconst 354 gq223 rfl rfl ?_
          refine g_iadd 355 gq223 rfl rfl ?_
          refine g_script 356 gq223 rfl rfl c276 c18 ?_
          refine g_if_eq 363 359 gq223 rfl rfl rfl c279 (fun c => ?_) (fun c => ?_)
          rotate_left
          · exfalso; omega
          refine g_iconst 364 gq223 rfl rfl ?_
          refine g_aload_n 365 gq223 rfl rfl rfl ?_
          refine g_iload_n 366 gq223 rfl rfl rfl ?_
          refine g_iconst 367 gq223 rfl rfl ?_
          refine g_iadd 368 gq223 rfl rfl ?_
          refine g_script 369 gq223 rfl rfl c288 c18 ?_
          refine g_if_eq 376 372 gq223 rfl rfl rfl c291 (fun c => ?_) (fun c => ?_)
          · exfalso; omega
          refine g_iconst 373 gq223 rfl rfl ?_
          refine g_goto 377 gq223 rfl rfl ?_
          refine g_virt 183 _ (i := 45) gq223 rfl rfl gq183 rfl rfl rfl rfl rfl rfl ?_
          refine kGo.mono h (fun r W16 hr => ?_)
          obtain ⟨y16, rfl, h⟩ := hr
          have c371 := h.1
          replace h := h.2
          have c373 := h.1
          replace h := h.2
          refine g_icmp_eq 869 383 gq223 rfl rfl rfl c371 c373 (fun c => ?_) (fun c => ?_)
          · replace h := h.1 c
            refine g_iinc 872 gq223 rfl rfl rfl rfl ?_
            refine g_goto 18 gq223 rfl rfl ?_
            exact kGo.weak (km_Le.s (km_Le.s (km_Le.s (km_Le.s km_Le.nil)))) h
          · replace h := h.2 c
            refine g_iconst 384 gq223 rfl rfl ?_
            exact g_zret gq223 rfl rfl (by omega) h
      · replace h := h.2 c
        refine g_iconst 325 gq223 rfl rfl ?_
        refine g_goto 329 gq223 rfl rfl ?_
        refine g_aload_n 330 gq223 rfl rfl rfl ?_
        refine g_iload_n 331 gq223 rfl rfl rfl ?_
        refine g_iconst 332 gq223 rfl rfl ?_
        refine g_iadd 333 gq223 rfl rfl ?_
        have c390 := h.1
        replace h := h.2
        refine g_script 334 gq223 rfl rfl c390 c18 ?_
        have c393 := h.1
        replace h := h.2
        refine g_if_eq 341 337 gq223 rfl rfl rfl c393 (fun c => ?_) (fun c => ?_)
        · replace h := h.1 c
          refine g_iconst 342 gq223 rfl rfl ?_
          refine g_virt 97 _ (i := 41) gq223 rfl rfl gq97 rfl rfl rfl rfl rfl rfl ?_
          refine kGo.mono h (fun r W17 hr => ?_)
          obtain ⟨y17, rfl, h⟩ := hr
          refine g_aload_n 346 gq223 rfl rfl rfl ?_
          refine g_aload_n 347 gq223 rfl rfl rfl ?_
          refine g_iload_n 348 gq223 rfl rfl rfl ?_
          refine g_iconst 349 gq223 rfl rfl ?_
          refine g_iadd 350 gq223 rfl rfl ?_
          refine g_script 351 gq223 rfl rfl c269 c18 ?_
          refine g_aload_n 352 gq223 rfl rfl rfl ?_
          refine g_iload_n 353 gq223 rfl rfl rfl ?_
          refine g_iconst 354 gq223 rfl rfl ?_
          refine g_iadd 355 gq223 rfl rfl ?_
          refine g_script 356 gq223 rfl rfl c276 c18 ?_
          refine g_if_eq 363 359 gq223 rfl rfl rfl c279 (fun c => ?_) (fun c => ?_)
          · exfalso; omega
          refine g_iconst 360 gq223 rfl rfl ?_
          refine g_goto 364 gq223 rfl rfl ?_
          refine g_aload_n 365 gq223 rfl rfl rfl ?_
          refine g_iload_n 366 gq223 rfl rfl rfl ?_
          refine g_iconst 367 gq223 rfl rfl ?_
          refine g_iadd 368 gq223 rfl rfl ?_
          refine g_script 369 gq223 rfl rfl c390 c18 ?_
          refine g_if_eq 376 372 gq223 rfl rfl rfl c393 (fun c => ?_) (fun c => ?_)
          rotate_left
          · exfalso; omega
          refine g_iconst 377 gq223 rfl rfl ?_
          refine g_virt 183 _ (i := 45) gq223 rfl rfl gq183 rfl rfl rfl rfl rfl rfl ?_
          refine kGo.mono h (fun r W18 hr => ?_)
          obtain ⟨y18, rfl, h⟩ := hr
          have c428 := h.1
          replace h := h.2
          have c430 := h.1
          replace h := h.2
          refine g_icmp_eq 869 383 gq223 rfl rfl rfl c428 c430 (fun c => ?_) (fun c => ?_)
          · replace h := h.1 c
            refine g_iinc 872 gq223 rfl rfl rfl rfl ?_
            refine g_goto 18 gq223 rfl rfl ?_
            exact kGo.weak (km_Le.s (km_Le.s (km_Le.s (km_Le.s km_Le.nil)))) h
          · replace h := h.2 c
            refine g_iconst 384 gq223 rfl rfl ?_
            exact g_zret gq223 rfl rfl (by omega) h
        · replace h := h.2 c
          refine g_iconst 338 gq223 rfl rfl ?_
          refine g_goto 342 gq223 rfl rfl ?_
          refine g_virt 97 _ (i := 41) gq223 rfl rfl gq97 rfl rfl rfl rfl rfl rfl ?_
          refine kGo.mono h (fun r W19 hr => ?_)
          obtain ⟨y19, rfl, h⟩ := hr
          refine g_aload_n 346 gq223 rfl rfl rfl ?_
          refine g_aload_n 347 gq223 rfl rfl rfl ?_
          refine g_iload_n 348 gq223 rfl rfl rfl ?_
          refine g_iconst 349 gq223 rfl rfl ?_
          refine g_iadd 350 gq223 rfl rfl ?_
          refine g_script 351 gq223 rfl rfl c269 c18 ?_
          refine g_aload_n 352 gq223 rfl rfl rfl ?_
          refine g_iload_n 353 gq223 rfl rfl rfl ?_
          refine g_iconst 354 gq223 rfl rfl ?_
          refine g_iadd 355 gq223 rfl rfl ?_
          refine g_script 356 gq223 rfl rfl c276 c18 ?_
          refine g_if_eq 363 359 gq223 rfl rfl rfl c279 (fun c => ?_) (fun c => ?_)
          · exfalso; omega
          refine g_iconst 360 gq223 rfl rfl ?_
          refine g_goto 364 gq223 rfl rfl ?_
          refine g_aload_n 365 gq223 rfl rfl rfl ?_
          refine g_iload_n 366 gq223 rfl rfl rfl ?_
          refine g_iconst 367 gq223 rfl rfl ?_
          refine g_iadd 368 gq223 rfl rfl ?_
          refine g_script 369 gq223 rfl rfl c390 c18 ?_
          refine g_if_eq 376 372 gq223 rfl rfl rfl c393 (fun c => ?_) (fun c => ?_)
          · exfalso; omega
          refine g_iconst 373 gq223 rfl rfl ?_
          refine g_goto 377 gq223 rfl rfl ?_
          refine g_virt 183 _ (i := 45) gq223 rfl rfl gq183 rfl rfl rfl rfl rfl rfl ?_
          refine kGo.mono h (fun r W20 hr => ?_)
          obtain ⟨y20, rfl, h⟩ := hr
          have c473 := h.1
          replace h := h.2
          have c475 := h.1
          replace h := h.2
          refine g_icmp_eq 869 383 gq223 rfl rfl rfl c473 c475 (fun c => ?_) (fun c => ?_)
          · replace h := h.1 c
            refine g_iinc 872 gq223 rfl rfl rfl rfl ?_
            refine g_goto 18 gq223 rfl rfl ?_
            exact kGo.weak (km_Le.s (km_Le.s (km_Le.s (km_Le.s km_Le.nil)))) h
          · replace h := h.2 c
            refine g_iconst 384 gq223 rfl rfl ?_
            exact g_zret gq223 rfl rfl (by omega) h
    · replace h := h.2.2.2.2.2.2.2.1 hv
      refine g_switch (x := ((xs (Int.toNat x3)).toInt % 32)) 385 gq223 rfl c23 (by rw [hv]; rfl) ?_
      refine g_aload_n 386 gq223 rfl rfl rfl ?_
      refine g_virt 98 _ (i := 46) gq223 rfl rfl gq98 rfl rfl rfl rfl rfl rfl ?_
      refine kGo.mono h (fun r W21 hr => ?_)
      obtain ⟨y21, rfl, h⟩ := hr
      refine g_aload_n 390 gq223 rfl rfl rfl ?_
      refine g_virt 184 _ (i := 49) gq223 rfl rfl gq184 rfl rfl rfl rfl rfl rfl ?_
      refine kGo.mono h (fun r W22 hr => ?_)
      obtain ⟨y22, rfl, h⟩ := hr
      have c495 := h.1
      replace h := h.2
      have c497 := h.1
      replace h := h.2
      refine g_icmp_eq 869 396 gq223 rfl rfl rfl c495 c497 (fun c => ?_) (fun c => ?_)
      · replace h := h.1 c
        refine g_iinc 872 gq223 rfl rfl rfl rfl ?_
        refine g_goto 18 gq223 rfl rfl ?_
        exact kGo.weak (km_Le.s (km_Le.s (km_Le.s (km_Le.s km_Le.nil)))) h
      · replace h := h.2 c
        refine g_iconst 397 gq223 rfl rfl ?_
        exact g_zret gq223 rfl rfl (by omega) h
    · replace h := h.2.2.2.2.2.2.2.2.1 hv
      refine g_switch (x := ((xs (Int.toNat x3)).toInt % 32)) 398 gq223 rfl c23 (by rw [hv]; rfl) ?_
      refine g_aload_n 399 gq223 rfl rfl rfl ?_
      refine g_virt 99 _ (i := 50) gq223 rfl rfl gq99 rfl rfl rfl rfl rfl rfl ?_
      refine kGo.mono h (fun r W23 hr => ?_)
      obtain ⟨y23, rfl, h⟩ := hr
      refine g_aload_n 403 gq223 rfl rfl rfl ?_
      refine g_virt 185 _ (i := 54) gq223 rfl rfl gq185 rfl rfl rfl rfl rfl rfl ?_
      refine kGo.mono h (fun r W24 hr => ?_)
      obtain ⟨y24, rfl, h⟩ := hr
      have c517 := h.1
      replace h := h.2
      have c519 := h.1
      replace h := h.2
      refine g_icmp_eq 869 409 gq223 rfl rfl rfl c517 c519 (fun c => ?_) (fun c => ?_)
      · replace h := h.1 c
        refine g_iinc 872 gq223 rfl rfl rfl rfl ?_
        refine g_goto 18 gq223 rfl rfl ?_
        exact kGo.weak (km_Le.s (km_Le.s (km_Le.s (km_Le.s km_Le.nil)))) h
      · replace h := h.2 c
        refine g_iconst 410 gq223 rfl rfl ?_
        exact g_zret gq223 rfl rfl (by omega) h
    · replace h := h.2.2.2.2.2.2.2.2.2.1 hv
      refine g_switch (x := ((xs (Int.toNat x3)).toInt % 32)) 411 gq223 rfl c23 (by rw [hv]; rfl) ?_
      refine g_aload_n 412 gq223 rfl rfl rfl ?_
      refine g_aload_n 413 gq223 rfl rfl rfl ?_
      refine g_iload_n 414 gq223 rfl rfl rfl ?_
      refine g_iconst 415 gq223 rfl rfl ?_
      refine g_iadd 416 gq223 rfl rfl ?_
      have c536 := h.1
      replace h := h.2
      refine g_script 417 gq223 rfl rfl c536 c18 ?_
      refine g_virt 100 _ (i := 55) gq223 rfl rfl gq100 rfl rfl rfl rfl rfl rfl ?_
      refine kGo.mono h (fun r W25 hr => ?_)
      obtain ⟨y25, rfl, h⟩ := hr
      refine g_aload_n 421 gq223 rfl rfl rfl ?_
      refine g_aload_n 422 gq223 rfl rfl rfl ?_
      refine g_iload_n 423 gq223 rfl rfl rfl ?_
      refine g_iconst 424 gq223 rfl rfl ?_
      refine g_iadd 425 gq223 rfl rfl ?_
      refine g_script 426 gq223 rfl rfl c536 c18 ?_
      refine g_virt 186 _ (i := 58) gq223 rfl rfl gq186 rfl rfl rfl rfl rfl rfl ?_
      refine kGo.mono h (fun r W26 hr => ?_)
      obtain ⟨y26, rfl, h⟩ := hr
      have c551 := h.1
      replace h := h.2
      have c553 := h.1
      replace h := h.2
      refine g_icmp_eq 869 432 gq223 rfl rfl rfl c551 c553 (fun c => ?_) (fun c => ?_)
      · replace h := h.1 c
        refine g_iinc 872 gq223 rfl rfl rfl rfl ?_
        refine g_goto 18 gq223 rfl rfl ?_
        exact kGo.weak (km_Le.s (km_Le.s (km_Le.s (km_Le.s km_Le.nil)))) h
      · replace h := h.2 c
        refine g_iconst 433 gq223 rfl rfl ?_
        exact g_zret gq223 rfl rfl (by omega) h
    · replace h := h.2.2.2.2.2.2.2.2.2.2.1 hv
      refine g_switch (x := ((xs (Int.toNat x3)).toInt % 32)) 434 gq223 rfl c23 (by rw [hv]; rfl) ?_
      refine g_aload_n 435 gq223 rfl rfl rfl ?_
      refine g_aload_n 436 gq223 rfl rfl rfl ?_
      refine g_iload_n 437 gq223 rfl rfl rfl ?_
      refine g_iconst 438 gq223 rfl rfl ?_
      refine g_iadd 439 gq223 rfl rfl ?_
      have c570 := h.1
      replace h := h.2
      refine g_script 440 gq223 rfl rfl c570 c18 ?_
      refine g_virt 101 _ (i := 59) gq223 rfl rfl gq101 rfl rfl rfl rfl rfl rfl ?_
      refine kGo.mono h (fun r W27 hr => ?_)
      obtain ⟨y27, rfl, h⟩ := hr
      refine g_aload_n 444 gq223 rfl rfl rfl ?_
      refine g_aload_n 445 gq223 rfl rfl rfl ?_
      refine g_iload_n 446 gq223 rfl rfl rfl ?_
      refine g_iconst 447 gq223 rfl rfl ?_
      refine g_iadd 448 gq223 rfl rfl ?_
      refine g_script 449 gq223 rfl rfl c570 c18 ?_
      refine g_virt 187 _ (i := 62) gq223 rfl rfl gq187 rfl rfl rfl rfl rfl rfl ?_
      refine kGo.mono h (fun r W28 hr => ?_)
      obtain ⟨y28, rfl, h⟩ := hr
      have c585 := h.1
      replace h := h.2
      have c587 := h.1
      replace h := h.2
      refine g_icmp_eq 869 455 gq223 rfl rfl rfl c585 c587 (fun c => ?_) (fun c => ?_)
      · replace h := h.1 c
        refine g_iinc 872 gq223 rfl rfl rfl rfl ?_
        refine g_goto 18 gq223 rfl rfl ?_
        exact kGo.weak (km_Le.s (km_Le.s (km_Le.s (km_Le.s km_Le.nil)))) h
      · replace h := h.2 c
        refine g_iconst 456 gq223 rfl rfl ?_
        exact g_zret gq223 rfl rfl (by omega) h
    · replace h := h.2.2.2.2.2.2.2.2.2.2.2.1 hv
      refine g_switch (x := ((xs (Int.toNat x3)).toInt % 32)) 457 gq223 rfl c23 (by rw [hv]; rfl) ?_
      refine g_aload_n 458 gq223 rfl rfl rfl ?_
      refine g_aload_n 459 gq223 rfl rfl rfl ?_
      refine g_iload_n 460 gq223 rfl rfl rfl ?_
      refine g_iconst 461 gq223 rfl rfl ?_
      refine g_iadd 462 gq223 rfl rfl ?_
      have c604 := h.1
      replace h := h.2
      refine g_script 463 gq223 rfl rfl c604 c18 ?_
      refine g_virt 102 _ (i := 63) gq223 rfl rfl gq102 rfl rfl rfl rfl rfl rfl ?_
      refine kGo.mono h (fun r W29 hr => ?_)
      obtain ⟨y29, rfl, h⟩ := hr
      refine g_aload_n 467 gq223 rfl rfl rfl ?_
      refine g_aload_n 468 gq223 rfl rfl rfl ?_
      refine g_iload_n 469 gq223 rfl rfl rfl ?_
      refine g_iconst 470 gq223 rfl rfl ?_
      refine g_iadd 471 gq223 rfl rfl ?_
      refine g_script 472 gq223 rfl rfl c604 c18 ?_
      refine g_virt 188 _ (i := 66) gq223 rfl rfl gq188 rfl rfl rfl rfl rfl rfl ?_
      refine kGo.mono h (fun r W30 hr => ?_)
      obtain ⟨y30, rfl, h⟩ := hr
      have c619 := h.1
      replace h := h.2
      have c621 := h.1
      replace h := h.2
      refine g_icmp_eq 869 478 gq223 rfl rfl rfl c619 c621 (fun c => ?_) (fun c => ?_)
      · replace h := h.1 c
        refine g_iinc 872 gq223 rfl rfl rfl rfl ?_
        refine g_goto 18 gq223 rfl rfl ?_
        exact kGo.weak (km_Le.s (km_Le.s (km_Le.s (km_Le.s km_Le.nil)))) h
      · replace h := h.2 c
        refine g_iconst 479 gq223 rfl rfl ?_
        exact g_zret gq223 rfl rfl (by omega) h
    · replace h := h.2.2.2.2.2.2.2.2.2.2.2.2.1 hv
      refine g_switch (x := ((xs (Int.toNat x3)).toInt % 32)) 480 gq223 rfl c23 (by rw [hv]; rfl) ?_
      refine g_aload_n 481 gq223 rfl rfl rfl ?_
      refine g_virt 103 _ (i := 67) gq223 rfl rfl gq103 rfl rfl rfl rfl rfl rfl ?_
      refine kGo.mono h (fun r W31 hr => ?_)
      obtain ⟨y31, rfl, h⟩ := hr
      refine g_aload_n 485 gq223 rfl rfl rfl ?_
      refine g_virt 177 _ (i := 70) gq223 rfl rfl gq177 rfl rfl rfl rfl rfl rfl ?_
      refine kGo.mono h (fun r W32 hr => ?_)
      obtain ⟨y32, rfl, h⟩ := hr
      have c641 := h.1
      replace h := h.2
      have c643 := h.1
      replace h := h.2
      refine g_icmp_eq 869 491 gq223 rfl rfl rfl c641 c643 (fun c => ?_) (fun c => ?_)
      · replace h := h.1 c
        refine g_iinc 872 gq223 rfl rfl rfl rfl ?_
        refine g_goto 18 gq223 rfl rfl ?_
        exact kGo.weak (km_Le.s (km_Le.s (km_Le.s (km_Le.s km_Le.nil)))) h
      · replace h := h.2 c
        refine g_iconst 492 gq223 rfl rfl ?_
        exact g_zret gq223 rfl rfl (by omega) h
    · replace h := h.2.2.2.2.2.2.2.2.2.2.2.2.2.1 hv
      refine g_switch (x := ((xs (Int.toNat x3)).toInt % 32)) 493 gq223 rfl c23 (by rw [hv]; rfl) ?_
      refine g_aload_n 494 gq223 rfl rfl rfl ?_
      refine g_aload_n 495 gq223 rfl rfl rfl ?_
      refine g_iload_n 496 gq223 rfl rfl rfl ?_
      refine g_iconst 497 gq223 rfl rfl ?_
      refine g_iadd 498 gq223 rfl rfl ?_
      have c660 := h.1
      replace h := h.2
      refine g_script 499 gq223 rfl rfl c660 c18 ?_
      refine g_aload_n 500 gq223 rfl rfl rfl ?_
      refine g_iload_n 501 gq223 rfl rfl rfl ?_
      refine g_iconst 502 gq223 rfl rfl ?_
      refine g_iadd 503 gq223 rfl rfl ?_
      have c667 := h.1
      replace h := h.2
      refine g_script 504 gq223 rfl rfl c667 c18 ?_
      refine g_virt 104 _ (i := 71) gq223 rfl rfl gq104 rfl rfl rfl rfl rfl rfl ?_
      refine kGo.mono h (fun r W33 hr => ?_)
      obtain ⟨y33, rfl, h⟩ := hr
      refine g_aload_n 508 gq223 rfl rfl rfl ?_
      refine g_aload_n 509 gq223 rfl rfl rfl ?_
      refine g_iload_n 510 gq223 rfl rfl rfl ?_
      refine g_iconst 511 gq223 rfl rfl ?_
      refine g_iadd 512 gq223 rfl rfl ?_
      refine g_script 513 gq223 rfl rfl c660 c18 ?_
      refine g_aload_n 514 gq223 rfl rfl rfl ?_
      refine g_iload_n 515 gq223 rfl rfl rfl ?_
      refine g_iconst 516 gq223 rfl rfl ?_
      refine g_iadd 517 gq223 rfl rfl ?_
      refine g_script 518 gq223 rfl rfl c667 c18 ?_
      refine g_virt 189 _ (i := 75) gq223 rfl rfl gq189 rfl rfl rfl rfl rfl rfl ?_
      refine kGo.mono h (fun r W34 hr => ?_)
      obtain ⟨y34, rfl, h⟩ := hr
      have c687 := h.1
      replace h := h.2
      have c689 := h.1
      replace h := h.2
      refine g_icmp_eq 869 524 gq223 rfl rfl rfl c687 c689 (fun c => ?_) (fun c => ?_)
      · replace h := h.1 c
        refine g_iinc 872 gq223 rfl rfl rfl rfl ?_
        refine g_goto 18 gq223 rfl rfl ?_
        exact kGo.weak (km_Le.s (km_Le.s (km_Le.s (km_Le.s km_Le.nil)))) h
      · replace h := h.2 c
        refine g_iconst 525 gq223 rfl rfl ?_
        exact g_zret gq223 rfl rfl (by omega) h
    · replace h := h.2.2.2.2.2.2.2.2.2.2.2.2.2.2.1 hv
      refine g_switch (x := ((xs (Int.toNat x3)).toInt % 32)) 526 gq223 rfl c23 (by rw [hv]; rfl) ?_
      refine g_aload_n 527 gq223 rfl rfl rfl ?_
      refine g_aload_n 528 gq223 rfl rfl rfl ?_
      refine g_iload_n 529 gq223 rfl rfl rfl ?_
      refine g_iconst 530 gq223 rfl rfl ?_
      refine g_iadd 531 gq223 rfl rfl ?_
      have c706 := h.1
      replace h := h.2
      refine g_script 532 gq223 rfl rfl c706 c18 ?_
      refine g_aload_n 533 gq223 rfl rfl rfl ?_
      refine g_iload_n 534 gq223 rfl rfl rfl ?_
      refine g_iconst 535 gq223 rfl rfl ?_
      refine g_iadd 536 gq223 rfl rfl ?_
      have c713 := h.1
      replace h := h.2
      refine g_script 537 gq223 rfl rfl c713 c18 ?_
      refine g_virt 105 _ (i := 76) gq223 rfl rfl gq105 rfl rfl rfl rfl rfl rfl ?_
      refine kGo.mono h (fun r W35 hr => ?_)
      obtain ⟨y35, rfl, h⟩ := hr
      refine g_aload_n 541 gq223 rfl rfl rfl ?_
      refine g_aload_n 542 gq223 rfl rfl rfl ?_
      refine g_iload_n 543 gq223 rfl rfl rfl ?_
      refine g_iconst 544 gq223 rfl rfl ?_
      refine g_iadd 545 gq223 rfl rfl ?_
      refine g_script 546 gq223 rfl rfl c706 c18 ?_
      refine g_aload_n 547 gq223 rfl rfl rfl ?_
      refine g_iload_n 548 gq223 rfl rfl rfl ?_
      refine g_iconst 549 gq223 rfl rfl ?_
      refine g_iadd 550 gq223 rfl rfl ?_
      refine g_script 551 gq223 rfl rfl c713 c18 ?_
      refine g_virt 191 _ (i := 79) gq223 rfl rfl gq191 rfl rfl rfl rfl rfl rfl ?_
      refine kGo.mono h (fun r W36 hr => ?_)
      obtain ⟨y36, rfl, h⟩ := hr
      have c733 := h.1
      replace h := h.2
      have c735 := h.1
      replace h := h.2
      refine g_icmp_eq 869 557 gq223 rfl rfl rfl c733 c735 (fun c => ?_) (fun c => ?_)
      · replace h := h.1 c
        refine g_iinc 872 gq223 rfl rfl rfl rfl ?_
        refine g_goto 18 gq223 rfl rfl ?_
        exact kGo.weak (km_Le.s (km_Le.s (km_Le.s (km_Le.s km_Le.nil)))) h
      · replace h := h.2 c
        refine g_iconst 558 gq223 rfl rfl ?_
        exact g_zret gq223 rfl rfl (by omega) h
    · replace h := h.2.2.2.2.2.2.2.2.2.2.2.2.2.2.2.1 hv
      refine g_switch (x := ((xs (Int.toNat x3)).toInt % 32)) 559 gq223 rfl c23 (by rw [hv]; rfl) ?_
      refine g_aload_n 560 gq223 rfl rfl rfl ?_
      refine g_aload_n 561 gq223 rfl rfl rfl ?_
      refine g_iload_n 562 gq223 rfl rfl rfl ?_
      refine g_iconst 563 gq223 rfl rfl ?_
      refine g_iadd 564 gq223 rfl rfl ?_
      have c752 := h.1
      replace h := h.2
      refine g_script 565 gq223 rfl rfl c752 c18 ?_
      refine g_aload_n 566 gq223 rfl rfl rfl ?_
      refine g_iload_n 567 gq223 rfl rfl rfl ?_
      refine g_iconst 568 gq223 rfl rfl ?_
      refine g_iadd 569 gq223 rfl rfl ?_
      have c759 := h.1
      replace h := h.2
      refine g_script 570 gq223 rfl rfl c759 c18 ?_
      refine g_virt 106 _ (i := 80) gq223 rfl rfl gq106 rfl rfl rfl rfl rfl rfl ?_
      refine kGo.mono h (fun r W37 hr => ?_)
      obtain ⟨y37, rfl, h⟩ := hr
      refine g_aload_n 574 gq223 rfl rfl rfl ?_
      refine g_aload_n 575 gq223 rfl rfl rfl ?_
      refine g_iload_n 576 gq223 rfl rfl rfl ?_
      refine g_iconst 577 gq223 rfl rfl ?_
      refine g_iadd 578 gq223 rfl rfl ?_
      refine g_script 579 gq223 rfl rfl c752 c18 ?_
      refine g_aload_n 580 gq223 rfl rfl rfl ?_
      refine g_iload_n 581 gq223 rfl rfl rfl ?_
      refine g_iconst 582 gq223 rfl rfl ?_
      refine g_iadd 583 gq223 rfl rfl ?_
      refine g_script 584 gq223 rfl rfl c759 c18 ?_
      refine g_virt 192 _ (i := 83) gq223 rfl rfl gq192 rfl rfl rfl rfl rfl rfl ?_
      refine kGo.mono h (fun r W38 hr => ?_)
      obtain ⟨y38, rfl, h⟩ := hr
      have c779 := h.1
      replace h := h.2
      have c781 := h.1
      replace h := h.2
      refine g_icmp_eq 869 590 gq223 rfl rfl rfl c779 c781 (fun c => ?_) (fun c => ?_)
      · replace h := h.1 c
        refine g_iinc 872 gq223 rfl rfl rfl rfl ?_
        refine g_goto 18 gq223 rfl rfl ?_
        exact kGo.weak (km_Le.s (km_Le.s (km_Le.s (km_Le.s km_Le.nil)))) h
      · replace h := h.2 c
        refine g_iconst 591 gq223 rfl rfl ?_
        exact g_zret gq223 rfl rfl (by omega) h
    · replace h := h.2.2.2.2.2.2.2.2.2.2.2.2.2.2.2.2.1 hv
      refine g_switch (x := ((xs (Int.toNat x3)).toInt % 32)) 592 gq223 rfl c23 (by rw [hv]; rfl) ?_
      refine g_aload_n 593 gq223 rfl rfl rfl ?_
      refine g_aload_n 594 gq223 rfl rfl rfl ?_
      refine g_iload_n 595 gq223 rfl rfl rfl ?_
      refine g_iconst 596 gq223 rfl rfl ?_
      refine g_iadd 597 gq223 rfl rfl ?_
      have c798 := h.1
      replace h := h.2
      refine g_script 598 gq223 rfl rfl c798 c18 ?_
      refine g_virt 107 _ (i := 84) gq223 rfl rfl gq107 rfl rfl rfl rfl rfl rfl ?_
      refine kGo.mono h (fun r W39 hr => ?_)
      obtain ⟨y39, rfl, h⟩ := hr
      refine g_aload_n 602 gq223 rfl rfl rfl ?_
      refine g_aload_n 603 gq223 rfl rfl rfl ?_
      refine g_iload_n 604 gq223 rfl rfl rfl ?_
      refine g_iconst 605 gq223 rfl rfl ?_
      refine g_iadd 606 gq223 rfl rfl ?_
      refine g_script 607 gq223 rfl rfl c798 c18 ?_
      refine g_virt 195 _ (i := 87) gq223 rfl rfl gq195 rfl rfl rfl rfl rfl rfl ?_
      refine kGo.mono h (fun r W40 hr => ?_)
      obtain ⟨y40, rfl, h⟩ := hr
      have c813 := h.1
      replace h := h.2
      have c815 := h.1
      replace h := h.2
      refine g_icmp_eq 869 613 gq223 rfl rfl rfl c813 c815 (fun c => ?_) (fun c => ?_)
      · replace h := h.1 c
        refine g_iinc 872 gq223 rfl rfl rfl rfl ?_
        refine g_goto 18 gq223 rfl rfl ?_
        exact kGo.weak (km_Le.s (km_Le.s (km_Le.s (km_Le.s km_Le.nil)))) h
      · replace h := h.2 c
        refine g_iconst 614 gq223 rfl rfl ?_
        exact g_zret gq223 rfl rfl (by omega) h
    · replace h := h.2.2.2.2.2.2.2.2.2.2.2.2.2.2.2.2.2.1 hv
      refine g_switch (x := ((xs (Int.toNat x3)).toInt % 32)) 615 gq223 rfl c23 (by rw [hv]; rfl) ?_
      refine g_aload_n 616 gq223 rfl rfl rfl ?_
      refine g_aload_n 617 gq223 rfl rfl rfl ?_
      refine g_iload_n 618 gq223 rfl rfl rfl ?_
      refine g_iconst 619 gq223 rfl rfl ?_
      refine g_iadd 620 gq223 rfl rfl ?_
      have c832 := h.1
      replace h := h.2
      refine g_script 621 gq223 rfl rfl c832 c18 ?_
      refine g_aload_n 622 gq223 rfl rfl rfl ?_
      refine g_iload_n 623 gq223 rfl rfl rfl ?_
      refine g_iconst 624 gq223 rfl rfl ?_
      refine g_iadd 625 gq223 rfl rfl ?_
      have c839 := h.1
      replace h := h.2
      refine g_script 626 gq223 rfl rfl c839 c18 ?_
      have c842 := h.1
      replace h := h.2
      refine g_if_eq 633 629 gq223 rfl rfl rfl c842 (fun c => ?_) (fun c => ?_)
      · replace h := h.1 c
        refine g_iconst 634 gq223 rfl rfl ?_
        refine g_virt 108 _ (i := 88) gq223 rfl rfl gq108 rfl rfl rfl rfl rfl rfl ?_
        refine kGo.mono h (fun r W41 hr => ?_)
        obtain ⟨y41, rfl, h⟩ := hr
        refine g_aload_n 638 gq223 rfl rfl rfl ?_
        refine g_aload_n 639 gq223 rfl rfl rfl ?_
        refine g_iload_n 640 gq223 rfl rfl rfl ?_
        refine g_iconst 641 gq223 rfl rfl ?_
        refine g_iadd 642 gq223 rfl rfl ?_
        refine g_script 643 gq223 rfl rfl c832 c18 ?_
        refine g_aload_n 644 gq223 rfl rfl rfl ?_
        refine g_iload_n 645 gq223 rfl rfl rfl ?_
        refine g_iconst 646 gq223 rfl rfl ?_
        refine g_iadd 647 gq223 rfl rfl ?_
        refine g_script 648 gq223 rfl rfl c839 c18 ?_
        refine g_if_eq 655 651 gq223 rfl rfl rfl c842 (fun c => ?_) (fun c => ?_)
        rotate_left
        · exfalso; omega
        refine g_iconst 656 gq223 rfl rfl ?_
        refine g_virt 200 _ (i := 92) gq223 rfl rfl gq200 rfl rfl rfl rfl rfl rfl ?_
        refine kGo.mono h (fun r W42 hr => ?_)
        obtain ⟨y42, rfl, h⟩ := hr
        have c868 := h.1
        replace h := h.2
        have c870 := h.1
        replace h := h.2
        refine g_icmp_eq 869 662 gq223 rfl rfl rfl c868 c870 (fun c => ?_) (fun c => ?_)
        · replace h := h.1 c
          refine g_iinc 872 gq223 rfl rfl rfl rfl ?_
          refine g_goto 18 gq223 rfl rfl ?_
          exact kGo.weak (km_Le.s (km_Le.s (km_Le.s (km_Le.s km_Le.nil)))) h
        · replace h := h.2 c
          refine g_iconst 663 gq223 rfl rfl ?_
          exact g_zret gq223 rfl rfl (by omega) h
      · replace h := h.2 c
        refine g_iconst 630 gq223 rfl rfl ?_
        refine g_goto 634 gq223 rfl rfl ?_
        refine g_virt 108 _ (i := 88) gq223 rfl rfl gq108 rfl rfl rfl rfl rfl rfl ?_
        refine kGo.mono h (fun r W43 hr => ?_)
        obtain ⟨y43, rfl, h⟩ := hr
        refine g_aload_n 638 gq223 rfl rfl rfl ?_
        refine g_aload_n 639 gq223 rfl rfl rfl ?_
        refine g_iload_n 640 gq223 rfl rfl rfl ?_
        refine g_iconst 641 gq223 rfl rfl ?_
        refine g_iadd 642 gq223 rfl rfl ?_
        refine g_script 643 gq223 rfl rfl c832 c18 ?_
        refine g_aload_n 644 gq223 rfl rfl rfl ?_
        refine g_iload_n 645 gq223 rfl rfl rfl ?_
        refine g_iconst 646 gq223 rfl rfl ?_
        refine g_iadd 647 gq223 rfl rfl ?_
        refine g_script 648 gq223 rfl rfl c839 c18 ?_
        refine g_if_eq 655 651 gq223 rfl rfl rfl c842 (fun c => ?_) (fun c => ?_)
        · exfalso; omega
        refine g_iconst 652 gq223 rfl rfl ?_
        refine g_goto 656 gq223 rfl rfl ?_
        refine g_virt 200 _ (i := 92) gq223 rfl rfl gq200 rfl rfl rfl rfl rfl rfl ?_
        refine kGo.mono h (fun r W44 hr => ?_)
        obtain ⟨y44, rfl, h⟩ := hr
        have c904 := h.1
        replace h := h.2
        have c906 := h.1
        replace h := h.2
        refine g_icmp_eq 869 662 gq223 rfl rfl rfl c904 c906 (fun c => ?_) (fun c => ?_)
        · replace h := h.1 c
          refine g_iinc 872 gq223 rfl rfl rfl rfl ?_
          refine g_goto 18 gq223 rfl rfl ?_
          exact kGo.weak (km_Le.s (km_Le.s (km_Le.s (km_Le.s km_Le.nil)))) h
        · replace h := h.2 c
          refine g_iconst 663 gq223 rfl rfl ?_
          exact g_zret gq223 rfl rfl (by omega) h
    · replace h := h.2.2.2.2.2.2.2.2.2.2.2.2.2.2.2.2.2.2.1 hv
      refine g_switch (x := ((xs (Int.toNat x3)).toInt % 32)) 664 gq223 rfl c23 (by rw [hv]; rfl) ?_
      refine g_aload_n 665 gq223 rfl rfl rfl ?_
      refine g_aload_n 666 gq223 rfl rfl rfl ?_
      refine g_iload_n 667 gq223 rfl rfl rfl ?_
      refine g_iconst 668 gq223 rfl rfl ?_
      refine g_iadd 669 gq223 rfl rfl ?_
      have c923 := h.1
      replace h := h.2
      refine g_script 670 gq223 rfl rfl c923 c18 ?_
      refine g_aload_n 671 gq223 rfl rfl rfl ?_
      refine g_iload_n 672 gq223 rfl rfl rfl ?_
      refine g_iconst 673 gq223 rfl rfl ?_
      refine g_iadd 674 gq223 rfl rfl ?_
      have c930 := h.1
      replace h := h.2
      refine g_script 675 gq223 rfl rfl c930 c18 ?_
      refine g_virt 109 _ (i := 93) gq223 rfl rfl gq109 rfl rfl rfl rfl rfl rfl ?_
      refine kGo.mono h (fun r W45 hr => ?_)
      obtain ⟨y45, rfl, h⟩ := hr
      refine g_aload_n 679 gq223 rfl rfl rfl ?_
      refine g_aload_n 680 gq223 rfl rfl rfl ?_
      refine g_iload_n 681 gq223 rfl rfl rfl ?_
      refine g_iconst 682 gq223 rfl rfl ?_
      refine g_iadd 683 gq223 rfl rfl ?_
      refine g_script 684 gq223 rfl rfl c923 c18 ?_
      refine g_aload_n 685 gq223 rfl rfl rfl ?_
      refine g_iload_n 686 gq223 rfl rfl rfl ?_
      refine g_iconst 687 gq223 rfl rfl ?_
      refine g_iadd 688 gq223 rfl rfl ?_
      refine g_script 689 gq223 rfl rfl c930 c18 ?_
      refine g_virt 202 _ (i := 96) gq223 rfl rfl gq202 rfl rfl rfl rfl rfl rfl ?_
      refine kGo.mono h (fun r W46 hr => ?_)
      obtain ⟨y46, rfl, h⟩ := hr
      have c950 := h.1
      replace h := h.2
      have c952 := h.1
      replace h := h.2
      refine g_icmp_eq 869 695 gq223 rfl rfl rfl c950 c952 (fun c => ?_) (fun c => ?_)
      · replace h := h.1 c
        refine g_iinc 872 gq223 rfl rfl rfl rfl ?_
        refine g_goto 18 gq223 rfl rfl ?_
        exact kGo.weak (km_Le.s (km_Le.s (km_Le.s (km_Le.s km_Le.nil)))) h
      · replace h := h.2 c
        refine g_iconst 696 gq223 rfl rfl ?_
        exact g_zret gq223 rfl rfl (by omega) h
    · replace h := h.2.2.2.2.2.2.2.2.2.2.2.2.2.2.2.2.2.2.2.1 hv
      refine g_switch (x := ((xs (Int.toNat x3)).toInt % 32)) 697 gq223 rfl c23 (by rw [hv]; rfl) ?_
      refine g_aload_n 698 gq223 rfl rfl rfl ?_
      refine g_aload_n 699 gq223 rfl rfl rfl ?_
      refine g_iload_n 700 gq223 rfl rfl rfl ?_
      refine g_iconst 701 gq223 rfl rfl ?_
      refine g_iadd 702 gq223 rfl rfl ?_
      have c969 := h.1
      replace h := h.2
      refine g_script 703 gq223 rfl rfl c969 c18 ?_
      refine g_virt 110 _ (i := 97) gq223 rfl rfl gq110 rfl rfl rfl rfl rfl rfl ?_
      refine kGo.mono h (fun r W47 hr => ?_)
      obtain ⟨y47, rfl, h⟩ := hr
      refine g_aload_n 707 gq223 rfl rfl rfl ?_
      refine g_aload_n 708 gq223 rfl rfl rfl ?_
      refine g_iload_n 709 gq223 rfl rfl rfl ?_
      refine g_iconst 710 gq223 rfl rfl ?_
      refine g_iadd 711 gq223 rfl rfl ?_
      refine g_script 712 gq223 rfl rfl c969 c18 ?_
      refine g_virt 205 _ (i := 101) gq223 rfl rfl gq205 rfl rfl rfl rfl rfl rfl ?_
      refine kGo.mono h (fun r W48 hr => ?_)
      obtain ⟨y48, rfl, h⟩ := hr
      have c984 := h.1
      replace h := h.2
      have c986 := h.1
      replace h := h.2
      refine g_lcmp 716 gq223 rfl rfl c984 c986 ?_
      have c989 := h.1
      replace h := h.2
      refine g_if_eq 869 719 gq223 rfl rfl rfl c989 (fun c => ?_) (fun c => ?_)
      · replace h := h.1 c
        refine g_iinc 872 gq223 rfl rfl rfl rfl ?_
        refine g_goto 18 gq223 rfl rfl ?_
        exact kGo.weak (km_Le.s (km_Le.s (km_Le.s (km_Le.s km_Le.nil)))) h
      · replace h := h.2 c
        refine g_iconst 720 gq223 rfl rfl ?_
        exact g_zret gq223 rfl rfl (by omega) h
    · replace h := h.2.2.2.2.2.2.2.2.2.2.2.2.2.2.2.2.2.2.2.2.1 hv
      refine g_switch (x := ((xs (Int.toNat x3)).toInt % 32)) 721 gq223 rfl c23 (by rw [hv]; rfl) ?_
      refine g_aload_n 722 gq223 rfl rfl rfl ?_
      refine g_aload_n 723 gq223 rfl rfl rfl ?_
      refine g_iload_n 724 gq223 rfl rfl rfl ?_
      refine g_iconst 725 gq223 rfl rfl ?_
      refine g_iadd 726 gq223 rfl rfl ?_
      have c1006 := h.1
      replace h := h.2
      refine g_script 727 gq223 rfl rfl c1006 c18 ?_
      refine g_virt 111 _ (i := 102) gq223 rfl rfl gq111 rfl rfl rfl rfl rfl rfl ?_
      refine kGo.mono h (fun r W49 hr => ?_)
      obtain ⟨y49, rfl, h⟩ := hr
      refine g_aload_n 731 gq223 rfl rfl rfl ?_
      refine g_aload_n 732 gq223 rfl rfl rfl ?_
      refine g_iload_n 733 gq223 rfl rfl rfl ?_
      refine g_iconst 734 gq223 rfl rfl ?_
      refine g_iadd 735 gq223 rfl rfl ?_
      refine g_script 736 gq223 rfl rfl c1006 c18 ?_
      refine g_virt 211 _ (i := 105) gq223 rfl rfl gq211 rfl rfl rfl rfl rfl rfl ?_
      refine kGo.mono h (fun r W50 hr => ?_)
      obtain ⟨y50, rfl, h⟩ := hr
      have c1021 := h.1
      replace h := h.2
      have c1023 := h.1
      replace h := h.2
      refine g_icmp_eq 869 742 gq223 rfl rfl rfl c1021 c1023 (fun c => ?_) (fun c => ?_)
      · replace h := h.1 c
        refine g_iinc 872 gq223 rfl rfl rfl rfl ?_
        refine g_goto 18 gq223 rfl rfl ?_
        exact kGo.weak (km_Le.s (km_Le.s (km_Le.s (km_Le.s km_Le.nil)))) h
      · replace h := h.2 c
        refine g_iconst 743 gq223 rfl rfl ?_
        exact g_zret gq223 rfl rfl (by omega) h
    · replace h := h.2.2.2.2.2.2.2.2.2.2.2.2.2.2.2.2.2.2.2.2.2.1 hv
      refine g_switch (x := ((xs (Int.toNat x3)).toInt % 32)) 744 gq223 rfl c23 (by rw [hv]; rfl) ?_
      refine g_aload_n 745 gq223 rfl rfl rfl ?_
      refine g_aload_n 746 gq223 rfl rfl rfl ?_
      refine g_iload_n 747 gq223 rfl rfl rfl ?_
      refine g_iconst 748 gq223 rfl rfl ?_
      refine g_iadd 749 gq223 rfl rfl ?_
      have c1040 := h.1
      replace h := h.2
      refine g_script 750 gq223 rfl rfl c1040 c18 ?_
      refine g_virt 112 _ (i := 106) gq223 rfl rfl gq112 rfl rfl rfl rfl rfl rfl ?_
      refine kGo.mono h (fun r W51 hr => ?_)
      obtain ⟨y51, rfl, h⟩ := hr
      refine g_aload_n 754 gq223 rfl rfl rfl ?_
      refine g_aload_n 755 gq223 rfl rfl rfl ?_
      refine g_iload_n 756 gq223 rfl rfl rfl ?_
      refine g_iconst 757 gq223 rfl rfl ?_
      refine g_iadd 758 gq223 rfl rfl ?_
      refine g_script 759 gq223 rfl rfl c1040 c18 ?_
      refine g_virt 213 _ (i := 109) gq223 rfl rfl gq213 rfl rfl rfl rfl rfl rfl ?_
      refine kGo.mono h (fun r W52 hr => ?_)
      obtain ⟨y52, rfl, h⟩ := hr
      have c1055 := h.1
      replace h := h.2
      have c1057 := h.1
      replace h := h.2
      refine g_icmp_eq 869 765 gq223 rfl rfl rfl c1055 c1057 (fun c => ?_) (fun c => ?_)
      · replace h := h.1 c
        refine g_iinc 872 gq223 rfl rfl rfl rfl ?_
        refine g_goto 18 gq223 rfl rfl ?_
        exact kGo.weak (km_Le.s (km_Le.s (km_Le.s (km_Le.s km_Le.nil)))) h
      · replace h := h.2 c
        refine g_iconst 766 gq223 rfl rfl ?_
        exact g_zret gq223 rfl rfl (by omega) h
    · replace h := h.2.2.2.2.2.2.2.2.2.2.2.2.2.2.2.2.2.2.2.2.2.2.1 hv
      refine g_switch (x := ((xs (Int.toNat x3)).toInt % 32)) 767 gq223 rfl c23 (by rw [hv]; rfl) ?_
      refine g_aload_n 768 gq223 rfl rfl rfl ?_
      refine g_aload_n 769 gq223 rfl rfl rfl ?_
      refine g_iload_n 770 gq223 rfl rfl rfl ?_
      refine g_iconst 771 gq223 rfl rfl ?_
      refine g_iadd 772 gq223 rfl rfl ?_
      have c1074 := h.1
      replace h := h.2
      refine g_script 773 gq223 rfl rfl c1074 c18 ?_
      refine g_aload_n 774 gq223 rfl rfl rfl ?_
      refine g_iload_n 775 gq223 rfl rfl rfl ?_
      refine g_iconst 776 gq223 rfl rfl ?_
      refine g_iadd 777 gq223 rfl rfl ?_
      have c1081 := h.1
      replace h := h.2
      refine g_script 778 gq223 rfl rfl c1081 c18 ?_
      refine g_virt 113 _ (i := 110) gq223 rfl rfl gq113 rfl rfl rfl rfl rfl rfl ?_
      refine kGo.mono h (fun r W53 hr => ?_)
      obtain ⟨y53, rfl, h⟩ := hr
      refine g_aload_n 782 gq223 rfl rfl rfl ?_
      refine g_aload_n 783 gq223 rfl rfl rfl ?_
      refine g_iload_n 784 gq223 rfl rfl rfl ?_
      refine g_iconst 785 gq223 rfl rfl ?_
      refine g_iadd 786 gq223 rfl rfl ?_
      refine g_script 787 gq223 rfl rfl c1074 c18 ?_
      refine g_aload_n 788 gq223 rfl rfl rfl ?_
      refine g_iload_n 789 gq223 rfl rfl rfl ?_
      refine g_iconst 790 gq223 rfl rfl ?_
      refine g_iadd 791 gq223 rfl rfl ?_
      refine g_script 792 gq223 rfl rfl c1081 c18 ?_
      refine g_virt 215 _ (i := 113) gq223 rfl rfl gq215 rfl rfl rfl rfl rfl rfl ?_
      refine kGo.mono h (fun r W54 hr => ?_)
      obtain ⟨y54, rfl, h⟩ := hr
      have c1101 := h.1
      replace h := h.2
      have c1103 := h.1
      replace h := h.2
      refine g_icmp_eq 869 798 gq223 rfl rfl rfl c1101 c1103 (fun c => ?_) (fun c => ?_)
      · replace h := h.1 c
        refine g_iinc 872 gq223 rfl rfl rfl rfl ?_
        refine g_goto 18 gq223 rfl rfl ?_
        exact kGo.weak (km_Le.s (km_Le.s (km_Le.s (km_Le.s km_Le.nil)))) h
      · replace h := h.2 c
        refine g_iconst 799 gq223 rfl rfl ?_
        exact g_zret gq223 rfl rfl (by omega) h
    · replace h := h.2.2.2.2.2.2.2.2.2.2.2.2.2.2.2.2.2.2.2.2.2.2.2.1 hv
      refine g_switch (x := ((xs (Int.toNat x3)).toInt % 32)) 800 gq223 rfl c23 (by rw [hv]; rfl) ?_
      refine g_aload_n 801 gq223 rfl rfl rfl ?_
      refine g_aload_n 802 gq223 rfl rfl rfl ?_
      refine g_iload_n 803 gq223 rfl rfl rfl ?_
      refine g_iconst 804 gq223 rfl rfl ?_
      refine g_iadd 805 gq223 rfl rfl ?_
      have c1120 := h.1
      replace h := h.2
      refine g_script 806 gq223 rfl rfl c1120 c18 ?_
      refine g_virt 114 _ (i := 114) gq223 rfl rfl gq114 rfl rfl rfl rfl rfl rfl ?_
      refine kGo.mono h (fun r W55 hr => ?_)
      obtain ⟨y55, rfl, h⟩ := hr
      refine g_aload_n 810 gq223 rfl rfl rfl ?_
      refine g_aload_n 811 gq223 rfl rfl rfl ?_
      refine g_iload_n 812 gq223 rfl rfl rfl ?_
      refine g_iconst 813 gq223 rfl rfl ?_
      refine g_iadd 814 gq223 rfl rfl ?_
      refine g_script 815 gq223 rfl rfl c1120 c18 ?_
      refine g_virt 178 _ (i := 117) gq223 rfl rfl gq178 rfl rfl rfl rfl rfl rfl ?_
      refine kGo.mono h (fun r W56 hr => ?_)
      obtain ⟨y56, rfl, h⟩ := hr
      have c1135 := h.1
      replace h := h.2
      have c1137 := h.1
      replace h := h.2
      refine g_icmp_eq 869 821 gq223 rfl rfl rfl c1135 c1137 (fun c => ?_) (fun c => ?_)
      · replace h := h.1 c
        refine g_iinc 872 gq223 rfl rfl rfl rfl ?_
        refine g_goto 18 gq223 rfl rfl ?_
        exact kGo.weak (km_Le.s (km_Le.s (km_Le.s (km_Le.s km_Le.nil)))) h
      · replace h := h.2 c
        refine g_iconst 822 gq223 rfl rfl ?_
        exact g_zret gq223 rfl rfl (by omega) h
    · replace h := h.2.2.2.2.2.2.2.2.2.2.2.2.2.2.2.2.2.2.2.2.2.2.2.2.1 hv
      refine g_switch (x := ((xs (Int.toNat x3)).toInt % 32)) 823 gq223 rfl c23 (by rw [hv]; rfl) ?_
      refine g_aload_n 824 gq223 rfl rfl rfl ?_
      refine g_aload_n 825 gq223 rfl rfl rfl ?_
      refine g_iload_n 826 gq223 rfl rfl rfl ?_
      refine g_iconst 827 gq223 rfl rfl ?_
      refine g_iadd 828 gq223 rfl rfl ?_
      have c1154 := h.1
      replace h := h.2
      refine g_script 829 gq223 rfl rfl c1154 c18 ?_
      refine g_virt 115 _ (i := 118) gq223 rfl rfl gq115 rfl rfl rfl rfl rfl rfl ?_
      refine kGo.mono h (fun r W57 hr => ?_)
      obtain ⟨y57, rfl, h⟩ := hr
      refine g_aload_n 833 gq223 rfl rfl rfl ?_
      refine g_aload_n 834 gq223 rfl rfl rfl ?_
      refine g_iload_n 835 gq223 rfl rfl rfl ?_
      refine g_iconst 836 gq223 rfl rfl ?_
      refine g_iadd 837 gq223 rfl rfl ?_
      refine g_script 838 gq223 rfl rfl c1154 c18 ?_
      refine g_virt 180 _ (i := 121) gq223 rfl rfl gq180 rfl rfl rfl rfl rfl rfl ?_
      refine kGo.mono h (fun r W58 hr => ?_)
      obtain ⟨y58, rfl, h⟩ := hr
      have c1169 := h.1
      replace h := h.2
      have c1171 := h.1
      replace h := h.2
      refine g_icmp_eq 869 844 gq223 rfl rfl rfl c1169 c1171 (fun c => ?_) (fun c => ?_)
      · replace h := h.1 c
        refine g_iinc 872 gq223 rfl rfl rfl rfl ?_
        refine g_goto 18 gq223 rfl rfl ?_
        exact kGo.weak (km_Le.s (km_Le.s (km_Le.s (km_Le.s km_Le.nil)))) h
      · replace h := h.2 c
        refine g_iconst 845 gq223 rfl rfl ?_
        exact g_zret gq223 rfl rfl (by omega) h
    · replace h := h.2.2.2.2.2.2.2.2.2.2.2.2.2.2.2.2.2.2.2.2.2.2.2.2.2 hv
      refine g_switch (x := ((xs (Int.toNat x3)).toInt % 32)) 846 gq223 rfl c23 (by rw [hv]; rfl) ?_
      refine g_aload_n 847 gq223 rfl rfl rfl ?_
      refine g_aload_n 848 gq223 rfl rfl rfl ?_
      refine g_iload_n 849 gq223 rfl rfl rfl ?_
      refine g_iconst 850 gq223 rfl rfl ?_
      refine g_iadd 851 gq223 rfl rfl ?_
      have c1188 := h.1
      replace h := h.2
      refine g_script 852 gq223 rfl rfl c1188 c18 ?_
      refine g_virt 116 _ (i := 122) gq223 rfl rfl gq116 rfl rfl rfl rfl rfl rfl ?_
      refine kGo.mono h (fun r W59 hr => ?_)
      obtain ⟨y59, rfl, h⟩ := hr
      refine g_aload_n 856 gq223 rfl rfl rfl ?_
      refine g_aload_n 857 gq223 rfl rfl rfl ?_
      refine g_iload_n 858 gq223 rfl rfl rfl ?_
      refine g_iconst 859 gq223 rfl rfl ?_
      refine g_iadd 860 gq223 rfl rfl ?_
      refine g_script 861 gq223 rfl rfl c1188 c18 ?_
      refine g_virt 217 _ (i := 125) gq223 rfl rfl gq217 rfl rfl rfl rfl rfl rfl ?_
      refine kGo.mono h (fun r W60 hr => ?_)
      obtain ⟨y60, rfl, h⟩ := hr
      have c1203 := h.1
      replace h := h.2
      have c1205 := h.1
      replace h := h.2
      refine g_icmp_eq 869 867 gq223 rfl rfl rfl c1203 c1205 (fun c => ?_) (fun c => ?_)
      · replace h := h.1 c
        refine g_iinc 872 gq223 rfl rfl rfl rfl ?_
        refine g_goto 18 gq223 rfl rfl ?_
        exact kGo.weak (km_Le.s (km_Le.s (km_Le.s (km_Le.s km_Le.nil)))) h
      · replace h := h.2 c
        refine g_iconst 868 gq223 rfl rfl ?_
        exact g_zret gq223 rfl rfl (by omega) h

-- LM.write
theorem b_0_0 {Q : q_Q} {Z : q_Z} {a1 : Int} {S : q_S} (h : q_c 153 [vR 1, vL a1] S (fun r2 S1 =>
    Q r2 S1) Z) : q_c 0 [vR 0, vL a1] S Q Z := q_blk 5 h
-- LM.wipe
theorem b_1_0 {Q : q_Q} {Z : q_Z} {S : q_S} (h : q_c 154 [vR 1] S (fun r2 S1 =>
    Q r2 S1) Z) : q_c 1 [vR 0] S Q Z := q_blk 4 h
-- LM.read
set_option maxRecDepth 20000 in
theorem b_2_0 {Q : q_Q} {Z : q_Z} {S : q_S} (h : q_c 112 [vR 27] S (fun _ S1 =>
    q_c 122 [vR 9] S1 (fun r4 S3 =>
      (r4 ≠ 0 →
        (r4 ≠ 0 →
          q_bo 0 ∧
          ((0 : Int) = 0 →
            Q r4 (q_up S3 0 9 0)) ∧
          (¬ (0 : Int) = 0 →
            q_c 132 [vR 12] (q_up S3 0 9 0) (fun _ S5 =>
              q_c 81 [vR 21] S5 (fun _ S7 =>
                Q r4 S7) Z) Z)) ∧
        (¬ r4 ≠ 0 →
          q_bo 1 ∧
          ((1 : Int) = 0 →
            Q r4 (q_up S3 0 9 1)) ∧
          (¬ (1 : Int) = 0 →
            q_c 132 [vR 12] (q_up S3 0 9 1) (fun _ S9 =>
              q_c 81 [vR 21] S9 (fun _ S11 =>
                Q r4 S11) Z) Z))) ∧
      (¬ r4 ≠ 0 →
        q_c 139 [vR 16] S3 (fun r14 S13 =>
          (r14 ≠ 0 →
            (r4 ≠ 0 →
              q_bo 0 ∧
              ((0 : Int) = 0 →
                Q r4 (q_up S13 0 9 0)) ∧
              (¬ (0 : Int) = 0 →
                q_c 132 [vR 12] (q_up S13 0 9 0) (fun _ S15 =>
                  q_c 81 [vR 21] S15 (fun _ S17 =>
                    Q r4 S17) Z) Z)) ∧
            (¬ r4 ≠ 0 →
              q_bo 1 ∧
              ((1 : Int) = 0 →
                Q r4 (q_up S13 0 9 1)) ∧
              (¬ (1 : Int) = 0 →
                q_c 132 [vR 12] (q_up S13 0 9 1) (fun _ S19 =>
                  q_c 81 [vR 21] S19 (fun _ S21 =>
                    Q r4 S21) Z) Z))) ∧
          (¬ r14 ≠ 0 →
            ((8 : Int) ≠ 0 →
              q_bo 0 ∧
              ((0 : Int) = 0 →
                Q 8 (q_up S13 0 9 0)) ∧
              (¬ (0 : Int) = 0 →
                q_c 132 [vR 12] (q_up S13 0 9 0) (fun _ S23 =>
                  q_c 81 [vR 21] S23 (fun _ S25 =>
                    Q 8 S25) Z) Z)) ∧
            (¬ (8 : Int) ≠ 0 →
              q_bo 1 ∧
              ((1 : Int) = 0 →
                Q 8 (q_up S13 0 9 1)) ∧
              (¬ (1 : Int) = 0 →
                q_c 132 [vR 12] (q_up S13 0 9 1) (fun _ S27 =>
                  q_c 81 [vR 21] S27 (fun _ S29 =>
                    Q 8 S29) Z) Z)))) Z)) Z) Z) : q_c 2 [vR 0] S Q Z := q_blk 117 h
-- LM.place
theorem b_3_0 {Q : q_Q} {Z : q_Z} {S : q_S} (h : Q (S 9 0) S) : q_c 3 [vR 0] S Q Z := q_blk 4 h
-- LM.bind
set_option maxRecDepth 20000 in
theorem b_4_0 {Q : q_Q} {Z : q_Z} {a1 a2 a3 : Int} {S : q_S} (h : q_c 26 [vI a1] S (fun r2 S1 =>
    (r2 = (-1) →
      S1 65 0 < 1000 ∧ Z 0 (q_tk S1)) ∧
    (¬ r2 = (-1) →
      (r2 = 8 →
        S1 65 0 < 1000 ∧ Z 0 (q_tk S1)) ∧
      (¬ r2 = 8 →
        (a2 < 0 →
          S1 65 0 < 1000 ∧ Z 0 (q_tk S1)) ∧
        (¬ a2 < 0 →
          (a2 > 9 →
            S1 65 0 < 1000 ∧ Z 0 (q_tk S1)) ∧
          (¬ a2 > 9 →
            (a3 < 0 →
              S1 65 0 < 1000 ∧ Z 0 (q_tk S1)) ∧
            (¬ a3 < 0 →
              (a3 < 3 →
                0 ≤ r2 ∧ r2 < 9 ∧
                0 ≤ r2 ∧ r2 < 9 ∧
                q_c 112 [vR 27] (q_up (q_up S1 24 r2 a2) 25 r2 a3) (fun _ S3 =>
                  Q 0 S3) Z) ∧
              (¬ a3 < 3 →
                S1 65 0 < 1000 ∧ Z 0 (q_tk S1)))))))) Z) : q_c 4 [vR 0, vI a1, vI a2, vI a3] S Q Z := q_blk 41 h
-- LM.number
theorem b_5_0 {Q : q_Q} {Z : q_Z} {a1 : Int} {S : q_S} (h : q_c 20 [vR 0] S (fun _ S1 =>
    ((a1 = 0 →
      Q (S1 3 4) S1) ∧
    ((a1 = 1 →
      Q (S1 16 0) S1) ∧
    ((a1 = 2 →
      q_c 90 [vR 26] S1 (fun r4 S3 =>
        Q r4 S3) Z) ∧
    ((a1 = 3 →
      q_c 93 [vR 26] S1 (fun r6 S5 =>
        Q r6 S5) Z) ∧
    True)))) ∧
    ((a1 < 0 ∨ 3 < a1) →
      S1 65 0 < 1000 ∧ Z 0 (q_tk S1))) Z) : q_c 5 [vR 0, vI a1] S Q Z := q_blk 21 h
-- LM.symbol
theorem b_6_0 {Q : q_Q} {Z : q_Z} {a1 a2 : Int} {S : q_S} (h : q_c 20 [vR 0] S (fun _ S1 =>
    q_c 22 [vR 0, vI a1] S1 (fun _ S3 =>
      (a2 < (-1) →
        S3 65 0 < 1000 ∧ Z 2 (q_tk S3)) ∧
      (¬ a2 < (-1) →
        0 ≤ a1 ∧ a1 < 16 ∧
        (a2 < (S3 5 a1) →
          (a2 < 0 →
            (a1 ≠ 0 →
              0 ≤ a1 ∧ a1 < 16 ∧
              q_c 27 [vI (S3 4 a1)] S3 (fun r6 S5 =>
                Q r6 S5) Z) ∧
            (¬ a1 ≠ 0 →
              Q 0 S3)) ∧
          (¬ a2 < 0 →
            q_c 105 [vR 3, vI a1, vI a2] S3 (fun r8 S7 =>
              q_c 27 [vI r8] S7 (fun r10 S9 =>
                Q r10 S9) Z) Z)) ∧
        (¬ a2 < (S3 5 a1) →
          S3 65 0 < 1000 ∧ Z 2 (q_tk S3)))) Z) Z) : q_c 6 [vR 0, vI a1, vI a2] S Q Z := q_blk 38 h
-- LM.set
set_option maxRecDepth 20000 in
theorem b_7_0 {Q : q_Q} {Z : q_Z} {a1 a2 : Int} {S : q_S} (h : q_c 20 [vR 0] S (fun _ S1 =>
    q_c 25 [vI a1] S1 (fun r4 S3 =>
      (r4 = (-1) →
        S3 65 0 < 1000 ∧ Z 0 (q_tk S3)) ∧
      (¬ r4 = (-1) →
        (r4 ≥ 8 →
          S3 65 0 < 1000 ∧ Z 0 (q_tk S3)) ∧
        (¬ r4 ≥ 8 →
          q_c 106 [vR 3, vI r4] S3 (fun r6 S5 =>
            (r6 ≠ 0 →
              ((a2 = 0 →
                q_c 133 [vR 12, vI r4] S5 (fun r8 S7 =>
                  (r8 = 0 →
                    Q 0 S7) ∧
                  (¬ r8 = 0 →
                    Q 1 S7)) Z) ∧
              ((a2 = 1 →
                0 ≤ r4 ∧ r4 < 8 ∧
                Q (S5 13 r4) S5) ∧
              ((a2 = 2 →
                0 ≤ r4 ∧ r4 < 8 ∧
                Q (S5 14 r4) S5) ∧
              True))) ∧
              ((a2 < 0 ∨ 2 < a2) →
                S5 65 0 < 1000 ∧ Z 0 (q_tk S5))) ∧
            (¬ r6 ≠ 0 →
              S5 65 0 < 1000 ∧ Z 0 (q_tk S5))) Z))) Z) Z) : q_c 7 [vR 0, vI a1, vI a2] S Q Z := q_blk 44 h
-- LM.item
theorem b_8_0 {Q : q_Q} {Z : q_Z} {a1 a2 : Int} {S : q_S} (h : q_c 20 [vR 0] S (fun _ S1 =>
    q_c 21 [vR 0, vI a1] S1 (fun _ S3 =>
      q_c 143 [vR 16, vI a1, vI a2] S3 (fun r6 S5 =>
        Q r6 S5) Z) Z) Z) : q_c 8 [vR 0, vI a1, vI a2] S Q Z := q_blk 11 h
-- LM.go
theorem b_9_0 {Q : q_Q} {Z : q_Z} {a1 a2 : Int} {S : q_S} (h : q_c 20 [vR 0] S (fun _ S1 =>
    q_c 21 [vR 0, vI a1] S1 (fun _ S3 =>
      q_c 25 [vI a2] S3 (fun r6 S5 =>
        (r6 ≠ (-1) →
          q_c 142 [vR 16, vI a1, vI r6] S5 (fun r8 S7 =>
            Q r8 S7) Z) ∧
        (¬ r6 ≠ (-1) →
          S5 65 0 < 1000 ∧ Z 0 (q_tk S5))) Z) Z) Z) : q_c 9 [vR 0, vI a1, vI a2] S Q Z := q_blk 18 h
-- LM.behind
theorem b_10_0 {Q : q_Q} {Z : q_Z} {a1 a2 a3 : Int} {S : q_S} (h : q_c 20 [vR 0] S (fun _ S1 =>
    q_c 21 [vR 0, vI a1] S1 (fun _ S3 =>
      q_c 22 [vR 0, vI a2] S3 (fun _ S5 =>
        (a3 < 0 →
          S5 65 0 < 1000 ∧ Z 0 (q_tk S5)) ∧
        (¬ a3 < 0 →
          (a3 < 3 →
            q_c 89 [vR 26, vI a1, vI a2, vI a3] S5 (fun r8 S7 =>
              Q r8 S7) Z) ∧
          (¬ a3 < 3 →
            S5 65 0 < 1000 ∧ Z 0 (q_tk S5)))) Z) Z) Z) : q_c 10 [vR 0, vI a1, vI a2, vI a3] S Q Z := q_blk 22 h
-- LM.action
theorem b_11_0 {Q : q_Q} {Z : q_Z} {a1 a2 : Int} {S : q_S} (h : q_c 20 [vR 0] S (fun _ S1 =>
    q_c 21 [vR 0, vI a1] S1 (fun _ S3 =>
      q_c 24 [vI a2] S3 (fun r6 S5 =>
        q_c 91 [vR 26, vI a1, vI r6] S5 (fun r8 S7 =>
          Q r8 S7) Z) Z) Z) Z) : q_c 11 [vR 0, vI a1, vI a2] S Q Z := q_blk 12 h
-- LM.unsettled
theorem b_12_0 {Q : q_Q} {Z : q_Z} {a1 : Int} {S : q_S} (h : q_c 20 [vR 0] S (fun _ S1 =>
    q_c 94 [vR 26, vI a1] S1 (fun r4 S3 =>
      Q r4 S3) Z) Z) : q_c 12 [vR 0, vI a1] S Q Z := q_blk 7 h
-- LM.opn
theorem b_13_0 {Q : q_Q} {Z : q_Z} {a1 a2 : Int} {S : q_S} (h : q_c 20 [vR 0] S (fun _ S1 =>
    (a1 < 1 →
      S1 65 0 < 1000 ∧ Z 0 (q_tk S1)) ∧
    (¬ a1 < 1 →
      (a1 > 24 →
        S1 65 0 < 1000 ∧ Z 0 (q_tk S1)) ∧
      (¬ a1 > 24 →
        (a2 < 0 →
          S1 65 0 < 1000 ∧ Z 0 (q_tk S1)) ∧
        (¬ a2 < 0 →
          (a2 ≤ 60 →
            q_c 113 [vR 27, vI a1, vI a2] S1 (fun _ S3 =>
              Q 0 S3) Z) ∧
          (¬ a2 ≤ 60 →
            S1 65 0 < 1000 ∧ Z 0 (q_tk S1)))))) Z) : q_c 13 [vR 0, vI a1, vI a2] S Q Z := q_blk 23 h
-- LM.token
theorem b_14_0 {Q : q_Q} {Z : q_Z} {a1 : Int} {S : q_S} (h : ((S 27 0) = 0 →
    S 65 0 < 1000 ∧ Z 1 (q_tk S)) ∧
  (¬ (S 27 0) = 0 →
    ((S 27 1) = 0 →
      q_c 24 [vI a1] S (fun r2 S1 =>
        q_c 115 [vR 27, vI r2] S1 (fun r4 S3 =>
          Q r4 S3) Z) Z) ∧
    (¬ (S 27 1) = 0 →
      S 65 0 < 1000 ∧ Z 1 (q_tk S)))) : q_c 14 [vR 0, vI a1] S Q Z := q_blk 16 h
-- LM.parser
theorem b_15_0 {Q : q_Q} {Z : q_Z} {a1 : Int} {S : q_S} (h : ((S 27 0) ≠ 0 →
    ((a1 = 0 →
      Q (S 27 1) S) ∧
    ((a1 = 1 →
      Q (S 27 2) S) ∧
    ((a1 = 2 →
      Q (S 27 3) S) ∧
    ((a1 = 3 →
      Q (S 30 5) S) ∧
    True)))) ∧
    ((a1 < 0 ∨ 3 < a1) →
      Q (-1) S)) ∧
  (¬ (S 27 0) ≠ 0 →
    Q (-1) S)) : q_c 15 [vR 0, vI a1] S Q Z := q_blk 27 h
-- LM.stack
theorem b_16_0 {Q : q_Q} {Z : q_Z} {a1 : Int} {S : q_S} (h : ((S 27 0) = 0 →
    S 65 0 < 1000 ∧ Z 2 (q_tk S)) ∧
  (¬ (S 27 0) = 0 →
    (a1 < 0 →
      S 65 0 < 1000 ∧ Z 2 (q_tk S)) ∧
    (¬ a1 < 0 →
      (a1 < (S 27 2) →
        0 ≤ a1 ∧ a1 < 24 ∧
        Q (S 28 a1) S) ∧
      (¬ a1 < (S 27 2) →
        S 65 0 < 1000 ∧ Z 2 (q_tk S))))) : q_c 16 [vR 0, vI a1] S Q Z := q_blk 20 h
-- LM.expected
theorem b_17_0 {Q : q_Q} {Z : q_Z} {S : q_S} (h : ((S 27 0) ≠ 0 →
    q_c 114 [vR 27] S (fun r2 S1 =>
      q_c 92 [vR 26, vI r2] S1 (fun r4 S3 =>
        Q r4 S3) Z) Z) ∧
  (¬ (S 27 0) ≠ 0 →
    S 65 0 < 1000 ∧ Z 1 (q_tk S))) : q_c 17 [vR 0] S Q Z := q_blk 12 h
-- LM.node
set_option maxRecDepth 20000 in
theorem b_18_0 {Q : q_Q} {Z : q_Z} {a1 a2 : Int} {S : q_S} (h : q_c 23 [vR 0, vI a1] S (fun _ S1 =>
    ((a2 = 0 →
      0 ≤ a1 ∧ a1 < 60 ∧
      q_c 27 [vI (S1 31 a1)] S1 (fun r4 S3 =>
        Q r4 S3) Z) ∧
    ((a2 = 1 →
      0 ≤ a1 ∧ a1 < 60 ∧
      Q (S1 32 a1) S1) ∧
    ((a2 = 2 →
      q_c 157 [vR 30, vI a1] S1 (fun r6 S5 =>
        Q r6 S5) Z) ∧
    ((a2 = 3 →
      0 ≤ a1 ∧ a1 < 60 ∧
      Q (S1 33 a1) S1) ∧
    ((a2 = 4 →
      0 ≤ a1 ∧ a1 < 60 ∧
      Q (S1 34 a1) S1) ∧
    True))))) ∧
    ((a2 < 0 ∨ 4 < a2) →
      S1 65 0 < 1000 ∧ Z 0 (q_tk S1))) Z) : q_c 18 [vR 0, vI a1, vI a2] S Q Z := q_blk 41 h
-- LM.child
theorem b_19_0 {Q : q_Q} {Z : q_Z} {a1 a2 : Int} {S : q_S} (h : q_c 23 [vR 0, vI a1] S (fun _ S1 =>
    (a2 < 0 →
      S1 65 0 < 1000 ∧ Z 2 (q_tk S1)) ∧
    (¬ a2 < 0 →
      q_c 157 [vR 30, vI a1] S1 (fun r4 S3 =>
        (a2 < r4 →
          q_rg (a1 * 4) ∧
          q_rg ((a1 * 4) + a2) ∧
          0 ≤ ((a1 * 4) + a2) ∧ ((a1 * 4) + a2) < 240 ∧
          Q (S3 35 ((a1 * 4) + a2)) S3) ∧
        (¬ a2 < r4 →
          S3 65 0 < 1000 ∧ Z 2 (q_tk S3))) Z)) Z) : q_c 19 [vR 0, vI a1, vI a2] S Q Z := q_blk 25 h
-- LM.needGrammar
theorem b_20_0 {Q : q_Q} {Z : q_Z} {S : q_S} (h : ((S 0 9) ≠ 0 →
    Q 0 S) ∧
  (¬ (S 0 9) ≠ 0 →
    S 65 0 < 1000 ∧ Z 1 (q_tk S))) : q_c 20 [vR 0] S Q Z := q_blk 5 h
-- LM.needState
theorem b_21_0 {Q : q_Q} {Z : q_Z} {a1 : Int} {S : q_S} (h : (a1 < 0 →
    S 65 0 < 1000 ∧ Z 2 (q_tk S)) ∧
  (¬ a1 < 0 →
    (a1 < (S 16 0) →
      Q 0 S) ∧
    (¬ a1 < (S 16 0) →
      S 65 0 < 1000 ∧ Z 2 (q_tk S)))) : q_c 21 [vR 0, vI a1] S Q Z := q_blk 10 h
-- LM.needProduction
theorem b_22_0 {Q : q_Q} {Z : q_Z} {a1 : Int} {S : q_S} (h : (a1 < 0 →
    S 65 0 < 1000 ∧ Z 2 (q_tk S)) ∧
  (¬ a1 < 0 →
    (a1 ≤ (S 3 4) →
      Q 0 S) ∧
    (¬ a1 ≤ (S 3 4) →
      S 65 0 < 1000 ∧ Z 2 (q_tk S)))) : q_c 22 [vR 0, vI a1] S Q Z := q_blk 10 h
-- LM.needNode
theorem b_23_0 {Q : q_Q} {Z : q_Z} {a1 : Int} {S : q_S} (h : ((S 27 0) = 0 →
    S 65 0 < 1000 ∧ Z 2 (q_tk S)) ∧
  (¬ (S 27 0) = 0 →
    (a1 < 0 →
      S 65 0 < 1000 ∧ Z 2 (q_tk S)) ∧
    (¬ a1 < 0 →
      (a1 < (S 30 5) →
        Q 0 S) ∧
      (¬ a1 < (S 30 5) →
        S 65 0 < 1000 ∧ Z 2 (q_tk S))))) : q_c 23 [vR 0, vI a1] S Q Z := q_blk 16 h
-- LM.needToken
theorem b_24_0 {Q : q_Q} {Z : q_Z} {a0 : Int} {S : q_S} (h : q_c 26 [vI a0] S (fun r2 S1 =>
    (r2 ≠ (-1) →
      Q r2 S1) ∧
    (¬ r2 ≠ (-1) →
      S1 65 0 < 1000 ∧ Z 0 (q_tk S1))) Z) : q_c 24 [vI a0] S Q Z := q_blk 9 h
-- LM.symbolOf
set_option maxRecDepth 20000 in
theorem b_25_0 {Q : q_Q} {Z : q_Z} {a0 : Int} {S : q_S} (h : (a0 < 65 →
    (a0 < 97 →
      Q (-1) S) ∧
    (¬ a0 < 97 →
      (a0 > 104 →
        Q (-1) S) ∧
      (¬ a0 > 104 →
        q_rg (8 + a0) ∧
        q_rg ((8 + a0) - 97) ∧
        Q ((8 + a0) - 97) S))) ∧
  (¬ a0 < 65 →
    (a0 > 72 →
      (a0 < 97 →
        Q (-1) S) ∧
      (¬ a0 < 97 →
        (a0 > 104 →
          Q (-1) S) ∧
        (¬ a0 > 104 →
          q_rg (8 + a0) ∧
          q_rg ((8 + a0) - 97) ∧
          Q ((8 + a0) - 97) S))) ∧
    (¬ a0 > 72 →
      q_rg (a0 - 65) ∧
      Q (a0 - 65) S))) : q_c 25 [vI a0] S Q Z := q_blk 42 h
-- LM.tokenOf
theorem b_26_0 {Q : q_Q} {Z : q_Z} {a0 : Int} {S : q_S} (h : (a0 ≠ 46 →
    (a0 < 97 →
      Q (-1) S) ∧
    (¬ a0 < 97 →
      (a0 > 104 →
        Q (-1) S) ∧
      (¬ a0 > 104 →
        q_rg (a0 - 97) ∧
        Q (a0 - 97) S))) ∧
  (¬ a0 ≠ 46 →
    Q 8 S)) : q_c 26 [vI a0] S Q Z := q_blk 20 h
-- LM.codeOf
theorem b_27_0 {Q : q_Q} {Z : q_Z} {a0 : Int} {S : q_S} (h : (a0 ≥ 8 →
    q_rg (97 + a0) ∧
    q_rg ((97 + a0) - 8) ∧
    Q ((97 + a0) - 8) S) ∧
  (¬ a0 ≥ 8 →
    q_rg (65 + a0) ∧
    Q (65 + a0) S)) : q_c 27 [vI a0] S Q Z := q_blk 14 h
-- LMModel.thrown
theorem b_28_0 {Q : q_Q} {Z : q_Z} {S : q_S} (h : Q (S 36 0) S) : q_c 28 [vR 36] S Q Z := q_blk 3 h
-- LMModel.symbolOf
set_option maxRecDepth 20000 in
theorem b_29_0 {Q : q_Q} {Z : q_Z} {a0 : Int} {S : q_S} (h : (a0 < 65 →
    (a0 < 97 →
      Q (-1) S) ∧
    (¬ a0 < 97 →
      (a0 > 104 →
        Q (-1) S) ∧
      (¬ a0 > 104 →
        q_rg (a0 - 97) ∧
        q_rg ((a0 - 97) + 8) ∧
        Q ((a0 - 97) + 8) S))) ∧
  (¬ a0 < 65 →
    (a0 > 72 →
      (a0 < 97 →
        Q (-1) S) ∧
      (¬ a0 < 97 →
        (a0 > 104 →
          Q (-1) S) ∧
        (¬ a0 > 104 →
          q_rg (a0 - 97) ∧
          q_rg ((a0 - 97) + 8) ∧
          Q ((a0 - 97) + 8) S))) ∧
    (¬ a0 > 72 →
      q_rg (a0 - 65) ∧
      Q (a0 - 65) S))) : q_c 29 [vI a0] S Q Z := q_blk 45 h
-- LMModel.codeOf
theorem b_30_0 {Q : q_Q} {Z : q_Z} {a0 : Int} {S : q_S} (h : (a0 ≥ 8 →
    q_rg (97 + a0) ∧
    q_rg ((97 + a0) - 8) ∧
    Q ((97 + a0) - 8) S) ∧
  (¬ a0 ≥ 8 →
    q_rg (65 + a0) ∧
    Q (65 + a0) S)) : q_c 30 [vI a0] S Q Z := q_blk 14 h
-- LMModel.tokenOf
theorem b_31_0 {Q : q_Q} {Z : q_Z} {a0 : Int} {S : q_S} (h : (a0 ≠ 46 →
    (a0 < 97 →
      Q (-1) S) ∧
    (¬ a0 < 97 →
      (a0 > 104 →
        Q (-1) S) ∧
      (¬ a0 > 104 →
        q_rg (a0 - 97) ∧
        Q (a0 - 97) S))) ∧
  (¬ a0 ≠ 46 →
    Q 8 S)) : q_c 31 [vI a0] S Q Z := q_blk 21 h
-- LMModel.write
theorem b_32_0 {Q : q_Q} {Z : q_Z} {a1 : Int} {S : q_S} (h : q_r 32 13 [vR 36, vL a1, vU, vI 0, vI 1, vI 0, vU] [] (q_up S 36 0 0) Q Z) : q_c 32 [vR 36, vL a1] S Q Z := q_blk 9 h
-- LMModel.write
set_option maxRecDepth 20000 in
theorem b_32_13 {Q : q_Q} {Z : q_Z} {a1 a3 a4 a5 : Int} {j2 j6 : q_J} {S : q_S} (h : (a5 ≥ 8 →
    (a4 = 0 →
      Q (-1) S) ∧
    (¬ a4 = 0 →
      q_rg ((S 36 2) + a3) ∧
      (((S 36 2) + a3) ≤ 200 →
        q_r 32 106 [vR 36, vL a1, vJ j2, vI a3, vI a4, vI 0, vJ j6] [] S Q Z) ∧
      (¬ ((S 36 2) + a3) ≤ 200 →
        Q (-1) S))) ∧
  (¬ a5 ≥ 8 →
    q_rg (8 * a5) ∧
    (a4 = 0 →
      ((q_wint (q_wand (q_wshr a1 (8 * a5)) 255)) ≠ 0 →
        q_rg (a3 + 1) ∧
        q_rg (a5 + 1) ∧
        q_r 32 13 [vR 36, vL a1, vJ j2, vI (a3 + 1), vI 0, vI (a5 + 1), vI (q_wint (q_wand (q_wshr a1 (8 * a5)) 255))] [] S Q Z) ∧
      (¬ (q_wint (q_wand (q_wshr a1 (8 * a5)) 255)) ≠ 0 →
        q_rg (a5 + 1) ∧
        q_r 32 13 [vR 36, vL a1, vJ j2, vI a3, vI 0, vI (a5 + 1), vI (q_wint (q_wand (q_wshr a1 (8 * a5)) 255))] [] S Q Z)) ∧
    (¬ a4 = 0 →
      ((q_wint (q_wand (q_wshr a1 (8 * a5)) 255)) = 0 →
        ((q_wint (q_wand (q_wshr a1 (8 * a5)) 255)) ≠ 0 →
          q_rg (a3 + 1) ∧
          q_rg (a5 + 1) ∧
          q_r 32 13 [vR 36, vL a1, vJ j2, vI (a3 + 1), vI 1, vI (a5 + 1), vI (q_wint (q_wand (q_wshr a1 (8 * a5)) 255))] [] S Q Z) ∧
        (¬ (q_wint (q_wand (q_wshr a1 (8 * a5)) 255)) ≠ 0 →
          q_rg (a5 + 1) ∧
          q_r 32 13 [vR 36, vL a1, vJ j2, vI a3, vI 1, vI (a5 + 1), vI (q_wint (q_wand (q_wshr a1 (8 * a5)) 255))] [] S Q Z)) ∧
      (¬ (q_wint (q_wand (q_wshr a1 (8 * a5)) 255)) = 0 →
        ((q_wint (q_wand (q_wshr a1 (8 * a5)) 255)) < 32 →
          ((q_wint (q_wand (q_wshr a1 (8 * a5)) 255)) ≠ 0 →
            q_rg (a3 + 1) ∧
            q_rg (a5 + 1) ∧
            q_r 32 13 [vR 36, vL a1, vJ j2, vI (a3 + 1), vI 0, vI (a5 + 1), vI (q_wint (q_wand (q_wshr a1 (8 * a5)) 255))] [] S Q Z) ∧
          (¬ (q_wint (q_wand (q_wshr a1 (8 * a5)) 255)) ≠ 0 →
            q_rg (a5 + 1) ∧
            q_r 32 13 [vR 36, vL a1, vJ j2, vI a3, vI 0, vI (a5 + 1), vI (q_wint (q_wand (q_wshr a1 (8 * a5)) 255))] [] S Q Z)) ∧
        (¬ (q_wint (q_wand (q_wshr a1 (8 * a5)) 255)) < 32 →
          ((q_wint (q_wand (q_wshr a1 (8 * a5)) 255)) > 126 →
            ((q_wint (q_wand (q_wshr a1 (8 * a5)) 255)) ≠ 0 →
              q_rg (a3 + 1) ∧
              q_rg (a5 + 1) ∧
              q_r 32 13 [vR 36, vL a1, vJ j2, vI (a3 + 1), vI 0, vI (a5 + 1), vI (q_wint (q_wand (q_wshr a1 (8 * a5)) 255))] [] S Q Z) ∧
            (¬ (q_wint (q_wand (q_wshr a1 (8 * a5)) 255)) ≠ 0 →
              q_rg (a5 + 1) ∧
              q_r 32 13 [vR 36, vL a1, vJ j2, vI a3, vI 0, vI (a5 + 1), vI (q_wint (q_wand (q_wshr a1 (8 * a5)) 255))] [] S Q Z)) ∧
          (¬ (q_wint (q_wand (q_wshr a1 (8 * a5)) 255)) > 126 →
            ((q_wint (q_wand (q_wshr a1 (8 * a5)) 255)) ≠ 0 →
              q_rg (a3 + 1) ∧
              q_rg (a5 + 1) ∧
              q_r 32 13 [vR 36, vL a1, vJ j2, vI (a3 + 1), vI 1, vI (a5 + 1), vI (q_wint (q_wand (q_wshr a1 (8 * a5)) 255))] [] S Q Z) ∧
            (¬ (q_wint (q_wand (q_wshr a1 (8 * a5)) 255)) ≠ 0 →
              q_rg (a5 + 1) ∧
              q_r 32 13 [vR 36, vL a1, vJ j2, vI a3, vI 1, vI (a5 + 1), vI (q_wint (q_wand (q_wshr a1 (8 * a5)) 255))] [] S Q Z))))))) : q_r 32 13 [vR 36, vL a1, vJ j2, vI a3, vI a4, vI a5, vJ j6] [] S Q Z := q_blk 113 h
-- LMModel.write
theorem b_32_106 {Q : q_Q} {Z : q_Z} {a1 a5 : Int} {j2 j3 j4 j6 : q_J} {S : q_S} (h : (a5 ≥ 8 →
    Q (S 36 2) S) ∧
  (¬ a5 ≥ 8 →
    q_rg (8 * a5) ∧
    ((q_wint (q_wand (q_wshr a1 (8 * a5)) 255)) = 0 →
      q_rg (a5 + 1) ∧
      q_r 32 106 [vR 36, vL a1, vJ j2, vJ j3, vJ j4, vI (a5 + 1), vI (q_wint (q_wand (q_wshr a1 (8 * a5)) 255))] [] S Q Z) ∧
    (¬ (q_wint (q_wand (q_wshr a1 (8 * a5)) 255)) = 0 →
      0 ≤ (S 36 2) ∧ (S 36 2) < 200 ∧
      q_rg ((S 36 2) + 1) ∧
      q_rg (a5 + 1) ∧
      q_r 32 106 [vR 36, vL a1, vJ j2, vJ j3, vJ j4, vI (a5 + 1), vI (q_wint (q_wand (q_wshr a1 (8 * a5)) 255))] [] (q_up (q_up S 37 (S 36 2) (q_wint (q_wand (q_wshr a1 (8 * a5)) 255))) 36 2 ((S 36 2) + 1)) Q Z))) : q_r 32 106 [vR 36, vL a1, vJ j2, vJ j3, vJ j4, vI a5, vJ j6] [] S Q Z := q_blk 33 h
-- LMModel.wipe
theorem b_33_0 {Q : q_Q} {Z : q_Z} {S : q_S} (h : Q (S 36 2) (q_up (q_up S 36 0 0) 36 2 0)) : q_c 33 [vR 36] S Q Z := q_blk 11 h
-- LMModel.fault
theorem b_34_0 {Q : q_Q} {Z : q_Z} {a1 a2 : Int} {S : q_S} (h : Q a1 (q_up S 36 3 a2)) : q_c 34 [vR 36, vI a1, vI a2] S Q Z := q_blk 5 h
-- LMModel.readText
theorem b_35_0 {Q : q_Q} {Z : q_Z} {S : q_S} (h : q_r 35 12 [vR 36, vI 0, vU, vU, vU, vU, vU] [] (q_up (q_up S 36 5 0) 36 10 0) Q Z) : q_c 35 [vR 36] S Q Z := q_blk 8 h
-- LMModel.readText
theorem b_35_12 {Q : q_Q} {Z : q_Z} {a1 : Int} {j2 j3 j4 j5 j6 : q_J} {S : q_S} (h : (a1 ≥ 8 →
    q_r 35 37 [vR 36, vI 0, vI 0, vI 0, vJ j4, vJ j5, vJ j6] [] S Q Z) ∧
  (¬ a1 ≥ 8 →
    0 ≤ a1 ∧ a1 < 8 ∧
    q_rg (a1 + 1) ∧
    q_r 35 12 [vR 36, vI (a1 + 1), vJ j2, vJ j3, vJ j4, vJ j5, vJ j6] [] (q_up S 43 a1 (-1)) Q Z)) : q_r 35 12 [vR 36, vI a1, vJ j2, vJ j3, vJ j4, vJ j5, vJ j6] [] S Q Z := q_blk 16 h
-- LMModel.readText
set_option maxRecDepth 20000 in
theorem b_35_37 {Q : q_Q} {Z : q_Z} {a1 a2 a3 : Int} {j4 j5 j6 : q_J} {S : q_S} (h : (a3 ≥ (S 36 2) →
    (a1 ≠ 0 →
      q_c 34 [vR 36, vI 1, vI (S 36 2)] S (fun r2 S1 =>
        Q r2 S1) Z) ∧
    (¬ a1 ≠ 0 →
      ((S 36 10) ≤ 0 →
        q_c 34 [vR 36, vI 1, vI (S 36 2)] S (fun r4 S3 =>
          Q r4 S3) Z) ∧
      (¬ (S 36 10) ≤ 0 →
        Q 0 S))) ∧
  (¬ a3 ≥ (S 36 2) →
    0 ≤ a3 ∧ a3 < 200 ∧
    q_c 29 [vI (S 37 a3)] S (fun r6 S5 =>
      ((S 37 a3) ≠ 32 →
        (a1 ≠ 0 →
          (a1 = 1 →
            (a1 ≠ 1 →
              ((S5 36 5) ≠ 15 →
                q_rg ((S5 36 5) + 1) ∧
                0 ≤ ((S5 36 5) + 1) ∧ ((S5 36 5) + 1) < 16 ∧
                0 ≤ ((S5 36 5) + 1) ∧ ((S5 36 5) + 1) < 16 ∧
                q_rg (a3 + 1) ∧
                q_r 35 37 [vR 36, vI 2, vI a2, vI (a3 + 1), vI (S 37 a3), vI r6, vJ j6] [] (q_up (q_up (q_up S5 36 5 ((S5 36 5) + 1)) 38 ((S5 36 5) + 1) a2) 39 ((S5 36 5) + 1) 0) Q Z) ∧
              (¬ (S5 36 5) ≠ 15 →
                (a1 ≠ 1 →
                  q_c 34 [vR 36, vI 4, vI a3] S5 (fun r8 S7 =>
                    Q r8 S7) Z) ∧
                (¬ a1 ≠ 1 →
                  ((S 37 a3) = 58 →
                    q_c 34 [vR 36, vI 4, vI a3] S5 (fun r10 S9 =>
                      Q r10 S9) Z) ∧
                  (¬ (S 37 a3) = 58 →
                    q_c 34 [vR 36, vI 1, vI a3] S5 (fun r12 S11 =>
                      Q r12 S11) Z)))) ∧
            (¬ a1 ≠ 1 →
              ((S 37 a3) ≠ 58 →
                (a1 ≠ 1 →
                  q_c 34 [vR 36, vI 4, vI a3] S5 (fun r14 S13 =>
                    Q r14 S13) Z) ∧
                (¬ a1 ≠ 1 →
                  ((S 37 a3) = 58 →
                    q_c 34 [vR 36, vI 4, vI a3] S5 (fun r16 S15 =>
                      Q r16 S15) Z) ∧
                  (¬ (S 37 a3) = 58 →
                    q_c 34 [vR 36, vI 1, vI a3] S5 (fun r18 S17 =>
                      Q r18 S17) Z))) ∧
              (¬ (S 37 a3) ≠ 58 →
                ((S5 36 5) ≠ 15 →
                  q_rg ((S5 36 5) + 1) ∧
                  0 ≤ ((S5 36 5) + 1) ∧ ((S5 36 5) + 1) < 16 ∧
                  0 ≤ ((S5 36 5) + 1) ∧ ((S5 36 5) + 1) < 16 ∧
                  q_rg (a3 + 1) ∧
                  q_r 35 37 [vR 36, vI 2, vI a2, vI (a3 + 1), vI (S 37 a3), vI r6, vJ j6] [] (q_up (q_up (q_up S5 36 5 ((S5 36 5) + 1)) 38 ((S5 36 5) + 1) a2) 39 ((S5 36 5) + 1) 0) Q Z) ∧
                (¬ (S5 36 5) ≠ 15 →
                  (a1 ≠ 1 →
                    q_c 34 [vR 36, vI 4, vI a3] S5 (fun r20 S19 =>
                      Q r20 S19) Z) ∧
                  (¬ a1 ≠ 1 →
                    ((S 37 a3) = 58 →
                      q_c 34 [vR 36, vI 4, vI a3] S5 (fun r22 S21 =>
                        Q r22 S21) Z) ∧
                    (¬ (S 37 a3) = 58 →
                      q_c 34 [vR 36, vI 1, vI a3] S5 (fun r24 S23 =>
                        Q r24 S23) Z)))))) ∧
          (¬ a1 = 1 →
            ((S 37 a3) ≠ 124 →
              ((S 37 a3) ≠ 59 →
                0 ≤ (S5 36 5) ∧ (S5 36 5) < 16 ∧
                (r6 < 0 →
                  (r6 ≥ 0 →
                    q_c 34 [vR 36, vI 3, vI a3] S5 (fun r26 S25 =>
                      Q r26 S25) Z) ∧
                  (¬ r6 ≥ 0 →
                    q_c 34 [vR 36, vI 1, vI a3] S5 (fun r28 S27 =>
                      Q r28 S27) Z)) ∧
                (¬ r6 < 0 →
                  ((S5 39 (S5 36 5)) ≠ 4 →
                    q_rg (4 * (S5 36 5)) ∧
                    q_rg ((4 * (S5 36 5)) + (S5 39 (S5 36 5))) ∧
                    0 ≤ ((4 * (S5 36 5)) + (S5 39 (S5 36 5))) ∧ ((4 * (S5 36 5)) + (S5 39 (S5 36 5))) < 64 ∧
                    q_rg (4 * (S5 36 5)) ∧
                    q_rg ((4 * (S5 36 5)) + (S5 39 (S5 36 5))) ∧
                    0 ≤ ((4 * (S5 36 5)) + (S5 39 (S5 36 5))) ∧ ((4 * (S5 36 5)) + (S5 39 (S5 36 5))) < 64 ∧
                    q_rg ((S5 39 (S5 36 5)) + 1) ∧
                    0 ≤ (S5 36 5) ∧ (S5 36 5) < 16 ∧
                    q_rg (a3 + 1) ∧
                    q_r 35 37 [vR 36, vI a1, vI a2, vI (a3 + 1), vI (S 37 a3), vI r6, vI (S5 39 (S5 36 5))] [] (q_up (q_up (q_up S5 40 ((4 * (S5 36 5)) + (S5 39 (S5 36 5))) r6) 41 ((4 * (S5 36 5)) + (S5 39 (S5 36 5))) a3) 39 (S5 36 5) ((S5 39 (S5 36 5)) + 1)) Q Z) ∧
                  (¬ (S5 39 (S5 36 5)) ≠ 4 →
                    (r6 ≥ 0 →
                      q_c 34 [vR 36, vI 3, vI a3] S5 (fun r30 S29 =>
                        Q r30 S29) Z) ∧
                    (¬ r6 ≥ 0 →
                      q_c 34 [vR 36, vI 1, vI a3] S5 (fun r32 S31 =>
                        Q r32 S31) Z)))) ∧
              (¬ (S 37 a3) ≠ 59 →
                q_rg (a3 + 1) ∧
                q_r 35 37 [vR 36, vI 0, vI a2, vI (a3 + 1), vI (S 37 a3), vI r6, vJ j6] [] S5 Q Z)) ∧
            (¬ (S 37 a3) ≠ 124 →
              (a1 ≠ 1 →
                ((S5 36 5) ≠ 15 →
                  q_rg ((S5 36 5) + 1) ∧
                  0 ≤ ((S5 36 5) + 1) ∧ ((S5 36 5) + 1) < 16 ∧
                  0 ≤ ((S5 36 5) + 1) ∧ ((S5 36 5) + 1) < 16 ∧
                  q_rg (a3 + 1) ∧
                  q_r 35 37 [vR 36, vI 2, vI a2, vI (a3 + 1), vI (S 37 a3), vI r6, vJ j6] [] (q_up (q_up (q_up S5 36 5 ((S5 36 5) + 1)) 38 ((S5 36 5) + 1) a2) 39 ((S5 36 5) + 1) 0) Q Z) ∧
                (¬ (S5 36 5) ≠ 15 →
                  (a1 ≠ 1 →
                    q_c 34 [vR 36, vI 4, vI a3] S5 (fun r34 S33 =>
                      Q r34 S33) Z) ∧
                  (¬ a1 ≠ 1 →
                    ((S 37 a3) = 58 →
                      q_c 34 [vR 36, vI 4, vI a3] S5 (fun r36 S35 =>
                        Q r36 S35) Z) ∧
                    (¬ (S 37 a3) = 58 →
                      q_c 34 [vR 36, vI 1, vI a3] S5 (fun r38 S37 =>
                        Q r38 S37) Z)))) ∧
              (¬ a1 ≠ 1 →
                ((S 37 a3) ≠ 58 →
                  (a1 ≠ 1 →
                    q_c 34 [vR 36, vI 4, vI a3] S5 (fun r40 S39 =>
                      Q r40 S39) Z) ∧
                  (¬ a1 ≠ 1 →
                    ((S 37 a3) = 58 →
                      q_c 34 [vR 36, vI 4, vI a3] S5 (fun r42 S41 =>
                        Q r42 S41) Z) ∧
                    (¬ (S 37 a3) = 58 →
                      q_c 34 [vR 36, vI 1, vI a3] S5 (fun r44 S43 =>
                        Q r44 S43) Z))) ∧
                (¬ (S 37 a3) ≠ 58 →
                  ((S5 36 5) ≠ 15 →
                    q_rg ((S5 36 5) + 1) ∧
                    0 ≤ ((S5 36 5) + 1) ∧ ((S5 36 5) + 1) < 16 ∧
                    0 ≤ ((S5 36 5) + 1) ∧ ((S5 36 5) + 1) < 16 ∧
                    q_rg (a3 + 1) ∧
                    q_r 35 37 [vR 36, vI 2, vI a2, vI (a3 + 1), vI (S 37 a3), vI r6, vJ j6] [] (q_up (q_up (q_up S5 36 5 ((S5 36 5) + 1)) 38 ((S5 36 5) + 1) a2) 39 ((S5 36 5) + 1) 0) Q Z) ∧
                  (¬ (S5 36 5) ≠ 15 →
                    (a1 ≠ 1 →
                      q_c 34 [vR 36, vI 4, vI a3] S5 (fun r46 S45 =>
                        Q r46 S45) Z) ∧
                    (¬ a1 ≠ 1 →
                      ((S 37 a3) = 58 →
                        q_c 34 [vR 36, vI 4, vI a3] S5 (fun r48 S47 =>
                          Q r48 S47) Z) ∧
                      (¬ (S 37 a3) = 58 →
                        q_c 34 [vR 36, vI 1, vI a3] S5 (fun r50 S49 =>
                          Q r50 S49) Z)))))))) ∧
        (¬ a1 ≠ 0 →
          (r6 < 0 →
            (r6 < 0 →
              q_c 34 [vR 36, vI 1, vI a3] S5 (fun r52 S51 =>
                Q r52 S51) Z) ∧
            (¬ r6 < 0 →
              (r6 ≤ 7 →
                q_c 34 [vR 36, vI 2, vI a3] S5 (fun r54 S53 =>
                  Q r54 S53) Z) ∧
              (¬ r6 ≤ 7 →
                q_c 34 [vR 36, vI 1, vI a3] S5 (fun r56 S55 =>
                  Q r56 S55) Z))) ∧
          (¬ r6 < 0 →
            (r6 > 7 →
              (r6 < 0 →
                q_c 34 [vR 36, vI 1, vI a3] S5 (fun r58 S57 =>
                  Q r58 S57) Z) ∧
              (¬ r6 < 0 →
                (r6 ≤ 7 →
                  q_c 34 [vR 36, vI 2, vI a3] S5 (fun r60 S59 =>
                    Q r60 S59) Z) ∧
                (¬ r6 ≤ 7 →
                  q_c 34 [vR 36, vI 1, vI a3] S5 (fun r62 S61 =>
                    Q r62 S61) Z))) ∧
            (¬ r6 > 7 →
              0 ≤ r6 ∧ r6 < 8 ∧
              ((S5 43 r6) < 0 →
                0 ≤ r6 ∧ r6 < 8 ∧
                0 ≤ (S5 36 10) ∧ (S5 36 10) < 8 ∧
                q_rg ((S5 36 10) + 1) ∧
                q_rg (a3 + 1) ∧
                q_r 35 37 [vR 36, vI 1, vI r6, vI (a3 + 1), vI (S 37 a3), vI r6, vJ j6] [] (q_up (q_up (q_up S5 43 r6 a3) 42 (S5 36 10) r6) 36 10 ((S5 36 10) + 1)) Q Z) ∧
              (¬ (S5 43 r6) < 0 →
                (r6 < 0 →
                  q_c 34 [vR 36, vI 1, vI a3] S5 (fun r64 S63 =>
                    Q r64 S63) Z) ∧
                (¬ r6 < 0 →
                  (r6 ≤ 7 →
                    q_c 34 [vR 36, vI 2, vI a3] S5 (fun r66 S65 =>
                      Q r66 S65) Z) ∧
                  (¬ r6 ≤ 7 →
                    q_c 34 [vR 36, vI 1, vI a3] S5 (fun r68 S67 =>
                      Q r68 S67) Z))))))) ∧
      (¬ (S 37 a3) ≠ 32 →
        q_rg (a3 + 1) ∧
        q_r 35 37 [vR 36, vI a1, vI a2, vI (a3 + 1), vI (S 37 a3), vI r6, vJ j6] [] S5 Q Z)) Z)) : q_r 35 37 [vR 36, vI a1, vI a2, vI a3, vJ j4, vJ j5, vJ j6] [] S Q Z := q_blk 453 h
-- LMModel.markMaking
theorem b_36_0 {Q : q_Q} {Z : q_Z} {S : q_S} (h : q_r 36 2 [vR 36, vI 0, vU, vU, vU] [] S Q Z) : q_c 36 [vR 36] S Q Z := q_blk 2 h
-- LMModel.markMaking
theorem b_36_2 {Q : q_Q} {Z : q_Z} {a1 : Int} {j2 j3 j4 : q_J} {S : q_S} (h : (a1 ≥ 8 →
    q_r 36 23 [vR 36, vI 0, vJ j2, vJ j3, vJ j4] [] S Q Z) ∧
  (¬ a1 ≥ 8 →
    0 ≤ a1 ∧ a1 < 8 ∧
    q_bo 0 ∧
    q_rg (a1 + 1) ∧
    q_r 36 2 [vR 36, vI (a1 + 1), vJ j2, vJ j3, vJ j4] [] (q_up S 44 a1 0) Q Z)) : q_r 36 2 [vR 36, vI a1, vJ j2, vJ j3, vJ j4] [] S Q Z := q_blk 12 h
-- LMModel.markMaking
theorem b_36_23 {Q : q_Q} {Z : q_Z} {a1 : Int} {j2 j3 j4 : q_J} {S : q_S} (h : (a1 ≥ 8 →
    Q 0 S) ∧
  (¬ a1 ≥ 8 →
    q_r 36 31 [vR 36, vI a1, vI 1, vJ j3, vJ j4] [] S Q Z)) : q_r 36 23 [vR 36, vI a1, vJ j2, vJ j3, vJ j4] [] S Q Z := q_blk 6 h
-- LMModel.markMaking
theorem b_36_31 {Q : q_Q} {Z : q_Z} {a1 a2 : Int} {j3 j4 : q_J} {S : q_S} (h : (a2 > (S 36 5) →
    q_rg (a1 + 1) ∧
    q_r 36 23 [vR 36, vI (a1 + 1), vI a2, vJ j3, vJ j4] [] S Q Z) ∧
  (¬ a2 > (S 36 5) →
    q_r 36 44 [vR 36, vI a1, vI a2, vI 1, vI 0] [] S Q Z)) : q_r 36 31 [vR 36, vI a1, vI a2, vJ j3, vJ j4] [] S Q Z := q_blk 10 h
-- LMModel.markMaking
set_option maxRecDepth 20000 in
theorem b_36_44 {Q : q_Q} {Z : q_Z} {a1 a2 a3 a4 : Int} {S : q_S} (h : 0 ≤ a2 ∧ a2 < 16 ∧
  (a4 ≥ (S 39 a2) →
    0 ≤ a2 ∧ a2 < 16 ∧
    0 ≤ a2 ∧ a2 < 16 ∧
    0 ≤ (S 38 a2) ∧ (S 38 a2) < 8 ∧
    ((S 44 (S 38 a2)) ≠ 0 →
      0 ≤ (S 38 a2) ∧ (S 38 a2) < 8 ∧
      q_bo 1 ∧
      q_rg (a2 + 1) ∧
      q_r 36 31 [vR 36, vI a1, vI (a2 + 1), vI a3, vI a4] [] (q_up S 44 (S 38 a2) 1) Q Z) ∧
    (¬ (S 44 (S 38 a2)) ≠ 0 →
      (a3 = 0 →
        0 ≤ (S 38 a2) ∧ (S 38 a2) < 8 ∧
        q_bo 0 ∧
        q_rg (a2 + 1) ∧
        q_r 36 31 [vR 36, vI a1, vI (a2 + 1), vI a3, vI a4] [] (q_up S 44 (S 38 a2) 0) Q Z) ∧
      (¬ a3 = 0 →
        0 ≤ (S 38 a2) ∧ (S 38 a2) < 8 ∧
        q_bo 1 ∧
        q_rg (a2 + 1) ∧
        q_r 36 31 [vR 36, vI a1, vI (a2 + 1), vI a3, vI a4] [] (q_up S 44 (S 38 a2) 1) Q Z))) ∧
  (¬ a4 ≥ (S 39 a2) →
    (a3 = 0 →
      q_rg (a4 + 1) ∧
      q_r 36 44 [vR 36, vI a1, vI a2, vI 0, vI (a4 + 1)] [] S Q Z) ∧
    (¬ a3 = 0 →
      q_rg (4 * a2) ∧
      q_rg ((4 * a2) + a4) ∧
      0 ≤ ((4 * a2) + a4) ∧ ((4 * a2) + a4) < 64 ∧
      ((S 40 ((4 * a2) + a4)) > 7 →
        q_rg (a4 + 1) ∧
        q_r 36 44 [vR 36, vI a1, vI a2, vI 1, vI (a4 + 1)] [] S Q Z) ∧
      (¬ (S 40 ((4 * a2) + a4)) > 7 →
        q_rg (4 * a2) ∧
        q_rg ((4 * a2) + a4) ∧
        0 ≤ ((4 * a2) + a4) ∧ ((4 * a2) + a4) < 64 ∧
        0 ≤ (S 40 ((4 * a2) + a4)) ∧ (S 40 ((4 * a2) + a4)) < 8 ∧
        ((S 44 (S 40 ((4 * a2) + a4))) = 0 →
          q_rg (a4 + 1) ∧
          q_r 36 44 [vR 36, vI a1, vI a2, vI 0, vI (a4 + 1)] [] S Q Z) ∧
        (¬ (S 44 (S 40 ((4 * a2) + a4))) = 0 →
          q_rg (a4 + 1) ∧
          q_r 36 44 [vR 36, vI a1, vI a2, vI 1, vI (a4 + 1)] [] S Q Z))))) : q_r 36 44 [vR 36, vI a1, vI a2, vI a3, vI a4] [] S Q Z := q_blk 78 h
-- LMModel.markMet
theorem b_37_0 {Q : q_Q} {Z : q_Z} {S : q_S} (h : q_r 37 2 [vR 36, vI 0, vU, vU] [] S Q Z) : q_c 37 [vR 36] S Q Z := q_blk 2 h
-- LMModel.markMet
theorem b_37_2 {Q : q_Q} {Z : q_Z} {a1 : Int} {j2 j3 : q_J} {S : q_S} (h : (a1 ≥ 8 →
    q_r 37 37 [vR 36, vI 0, vJ j2, vJ j3] [] S Q Z) ∧
  (¬ a1 ≥ 8 →
    (0 : Int) ≤ 0 ∧ (0 : Int) < 8 ∧
    (a1 ≠ (S 42 0) →
      0 ≤ a1 ∧ a1 < 8 ∧
      q_bo 0 ∧
      q_rg (a1 + 1) ∧
      q_r 37 2 [vR 36, vI (a1 + 1), vJ j2, vJ j3] [] (q_up S 44 a1 0) Q Z) ∧
    (¬ a1 ≠ (S 42 0) →
      0 ≤ a1 ∧ a1 < 8 ∧
      q_bo 1 ∧
      q_rg (a1 + 1) ∧
      q_r 37 2 [vR 36, vI (a1 + 1), vJ j2, vJ j3] [] (q_up S 44 a1 1) Q Z))) : q_r 37 2 [vR 36, vI a1, vJ j2, vJ j3] [] S Q Z := q_blk 23 h
-- LMModel.markMet
theorem b_37_37 {Q : q_Q} {Z : q_Z} {a1 : Int} {j2 j3 : q_J} {S : q_S} (h : (a1 ≥ 8 →
    Q 0 S) ∧
  (¬ a1 ≥ 8 →
    q_r 37 45 [vR 36, vI a1, vI 1, vJ j3] [] S Q Z)) : q_r 37 37 [vR 36, vI a1, vJ j2, vJ j3] [] S Q Z := q_blk 6 h
-- LMModel.markMet
theorem b_37_45 {Q : q_Q} {Z : q_Z} {a1 a2 : Int} {j3 : q_J} {S : q_S} (h : (a2 > (S 36 5) →
    q_rg (a1 + 1) ∧
    q_r 37 37 [vR 36, vI (a1 + 1), vI a2, vJ j3] [] S Q Z) ∧
  (¬ a2 > (S 36 5) →
    q_r 37 55 [vR 36, vI a1, vI a2, vI 0] [] S Q Z)) : q_r 37 45 [vR 36, vI a1, vI a2, vJ j3] [] S Q Z := q_blk 8 h
-- LMModel.markMet
set_option maxRecDepth 20000 in
theorem b_37_55 {Q : q_Q} {Z : q_Z} {a1 a2 a3 : Int} {S : q_S} (h : 0 ≤ a2 ∧ a2 < 16 ∧
  (a3 ≥ (S 39 a2) →
    q_rg (a2 + 1) ∧
    q_r 37 45 [vR 36, vI a1, vI (a2 + 1), vI a3] [] S Q Z) ∧
  (¬ a3 ≥ (S 39 a2) →
    0 ≤ a2 ∧ a2 < 16 ∧
    0 ≤ (S 38 a2) ∧ (S 38 a2) < 8 ∧
    ((S 44 (S 38 a2)) = 0 →
      q_rg (a3 + 1) ∧
      q_r 37 55 [vR 36, vI a1, vI a2, vI (a3 + 1)] [] S Q Z) ∧
    (¬ (S 44 (S 38 a2)) = 0 →
      q_rg (4 * a2) ∧
      q_rg ((4 * a2) + a3) ∧
      0 ≤ ((4 * a2) + a3) ∧ ((4 * a2) + a3) < 64 ∧
      ((S 40 ((4 * a2) + a3)) ≥ 8 →
        q_rg (a3 + 1) ∧
        q_r 37 55 [vR 36, vI a1, vI a2, vI (a3 + 1)] [] S Q Z) ∧
      (¬ (S 40 ((4 * a2) + a3)) ≥ 8 →
        q_rg (4 * a2) ∧
        q_rg ((4 * a2) + a3) ∧
        0 ≤ ((4 * a2) + a3) ∧ ((4 * a2) + a3) < 64 ∧
        0 ≤ (S 40 ((4 * a2) + a3)) ∧ (S 40 ((4 * a2) + a3)) < 8 ∧
        q_bo 1 ∧
        q_rg (a3 + 1) ∧
        q_r 37 55 [vR 36, vI a1, vI a2, vI (a3 + 1)] [] (q_up S 44 (S 40 ((4 * a2) + a3)) 1) Q Z)))) : q_r 37 55 [vR 36, vI a1, vI a2, vI a3] [] S Q Z := q_blk 44 h
-- LMModel.unmarked
theorem b_38_0 {Q : q_Q} {Z : q_Z} {S : q_S} (h : q_r 38 2 [vR 36, vI 0] [] S Q Z) : q_c 38 [vR 36] S Q Z := q_blk 2 h
-- LMModel.unmarked
theorem b_38_2 {Q : q_Q} {Z : q_Z} {a1 : Int} {S : q_S} (h : (a1 ≥ (S 36 10) →
    Q (-1) S) ∧
  (¬ a1 ≥ (S 36 10) →
    0 ≤ a1 ∧ a1 < 8 ∧
    0 ≤ (S 42 a1) ∧ (S 42 a1) < 8 ∧
    ((S 44 (S 42 a1)) ≠ 0 →
      q_rg (a1 + 1) ∧
      q_r 38 2 [vR 36, vI (a1 + 1)] [] S Q Z) ∧
    (¬ (S 44 (S 42 a1)) ≠ 0 →
      0 ≤ a1 ∧ a1 < 8 ∧
      0 ≤ (S 42 a1) ∧ (S 42 a1) < 8 ∧
      Q (S 43 (S 42 a1)) S))) : q_r 38 2 [vR 36, vI a1] [] S Q Z := q_blk 24 h
-- LMModel.lookThrough
theorem b_39_0 {Q : q_Q} {Z : q_Z} {S : q_S} (h : q_r 39 2 [vR 36, vI 1, vU] [] S Q Z) : q_c 39 [vR 36] S Q Z := q_blk 2 h
-- LMModel.lookThrough
theorem b_39_2 {Q : q_Q} {Z : q_Z} {a1 : Int} {j2 : q_J} {S : q_S} (h : (a1 > (S 36 5) →
    q_c 36 [vR 36] S (fun _ S1 =>
      q_c 38 [vR 36] S1 (fun r4 S3 =>
        (r4 < 0 →
          q_c 37 [vR 36] S3 (fun _ S5 =>
            q_c 38 [vR 36] S5 (fun r8 S7 =>
              (r8 < 0 →
                Q 0 S7) ∧
              (¬ r8 < 0 →
                q_c 34 [vR 36, vI 7, vI r8] S7 (fun r10 S9 =>
                  Q r10 S9) Z)) Z) Z) ∧
        (¬ r4 < 0 →
          q_c 34 [vR 36, vI 6, vI r4] S3 (fun r12 S11 =>
            Q r12 S11) Z)) Z) Z) ∧
  (¬ a1 > (S 36 5) →
    q_r 39 12 [vR 36, vI a1, vI 0] [] S Q Z)) : q_r 39 2 [vR 36, vI a1, vJ j2] [] S Q Z := q_blk 33 h
-- LMModel.lookThrough
set_option maxRecDepth 20000 in
theorem b_39_12 {Q : q_Q} {Z : q_Z} {a1 a2 : Int} {S : q_S} (h : 0 ≤ a1 ∧ a1 < 16 ∧
  (a2 ≥ (S 39 a1) →
    q_rg (a1 + 1) ∧
    q_r 39 2 [vR 36, vI (a1 + 1), vI a2] [] S Q Z) ∧
  (¬ a2 ≥ (S 39 a1) →
    q_rg (4 * a1) ∧
    q_rg ((4 * a1) + a2) ∧
    0 ≤ ((4 * a1) + a2) ∧ ((4 * a1) + a2) < 64 ∧
    ((S 40 ((4 * a1) + a2)) ≥ 8 →
      q_rg (a2 + 1) ∧
      q_r 39 12 [vR 36, vI a1, vI (a2 + 1)] [] S Q Z) ∧
    (¬ (S 40 ((4 * a1) + a2)) ≥ 8 →
      q_rg (4 * a1) ∧
      q_rg ((4 * a1) + a2) ∧
      0 ≤ ((4 * a1) + a2) ∧ ((4 * a1) + a2) < 64 ∧
      0 ≤ (S 40 ((4 * a1) + a2)) ∧ (S 40 ((4 * a1) + a2)) < 8 ∧
      ((S 43 (S 40 ((4 * a1) + a2))) ≥ 0 →
        q_rg (a2 + 1) ∧
        q_r 39 12 [vR 36, vI a1, vI (a2 + 1)] [] S Q Z) ∧
      (¬ (S 43 (S 40 ((4 * a1) + a2))) ≥ 0 →
        q_rg (4 * a1) ∧
        q_rg ((4 * a1) + a2) ∧
        0 ≤ ((4 * a1) + a2) ∧ ((4 * a1) + a2) < 64 ∧
        q_c 34 [vR 36, vI 5, vI (S 41 ((4 * a1) + a2))] S (fun r2 S1 =>
          Q r2 S1) Z)))) : q_r 39 12 [vR 36, vI a1, vI a2] [] S Q Z := q_blk 46 h
-- LMModel.read
set_option maxRecDepth 20000 in
theorem b_40_0 {Q : q_Q} {Z : q_Z} {S : q_S} (h : q_bo 0 ∧
  q_bo 0 ∧
  q_c 35 [vR 36] (q_up (q_up (q_up (q_up S 36 0 0) 36 24 0) 36 4 0) 36 3 (-1)) (fun r2 S1 =>
    (r2 ≠ 0 →
      (r2 = 0 →
        (0 : Int) ≤ 0 ∧ (0 : Int) < 16 ∧
        (0 : Int) ≤ 0 ∧ (0 : Int) < 16 ∧
        (0 : Int) ≤ 0 ∧ (0 : Int) < 8 ∧
        (0 : Int) ≤ 0 ∧ (0 : Int) < 64 ∧
        q_c 45 [vR 36] (q_up (q_up (q_up S1 38 0 (-1)) 39 0 1) 40 0 (S1 42 0)) (fun r4 S3 =>
          (r4 ≠ 0 →
            q_c 48 [vR 36] S3 (fun _ S5 =>
              q_c 51 [vR 36] S5 (fun _ S7 =>
                q_bo 1 ∧
                Q 0 (q_up S7 36 4 1)) Z) Z) ∧
          (¬ r4 ≠ 0 →
            Q 8 S3)) Z) ∧
      (¬ r2 = 0 →
        Q r2 S1)) ∧
    (¬ r2 ≠ 0 →
      q_c 39 [vR 36] S1 (fun r10 S9 =>
        (r10 = 0 →
          (0 : Int) ≤ 0 ∧ (0 : Int) < 16 ∧
          (0 : Int) ≤ 0 ∧ (0 : Int) < 16 ∧
          (0 : Int) ≤ 0 ∧ (0 : Int) < 8 ∧
          (0 : Int) ≤ 0 ∧ (0 : Int) < 64 ∧
          q_c 45 [vR 36] (q_up (q_up (q_up S9 38 0 (-1)) 39 0 1) 40 0 (S9 42 0)) (fun r12 S11 =>
            (r12 ≠ 0 →
              q_c 48 [vR 36] S11 (fun _ S13 =>
                q_c 51 [vR 36] S13 (fun _ S15 =>
                  q_bo 1 ∧
                  Q 0 (q_up S15 36 4 1)) Z) Z) ∧
            (¬ r12 ≠ 0 →
              Q 8 S11)) Z) ∧
        (¬ r10 = 0 →
          Q r10 S9)) Z)) Z) : q_c 40 [vR 36] S Q Z := q_blk 95 h
-- LMModel.place
theorem b_41_0 {Q : q_Q} {Z : q_Z} {S : q_S} (h : Q (S 36 3) (q_up S 36 0 0)) : q_c 41 [vR 36] S Q Z := q_blk 6 h
-- LMModel.close
theorem b_42_0 {Q : q_Q} {Z : q_Z} {S : q_S} (h : q_r 42 2 [vR 36, vI 1, vU, vU, vU, vU] [] S Q Z) : q_c 42 [vR 36] S Q Z := q_blk 2 h
-- LMModel.close
theorem b_42_2 {Q : q_Q} {Z : q_Z} {a1 : Int} {j2 j3 j4 j5 : q_J} {S : q_S} (h : (a1 = 0 →
    Q 0 S) ∧
  (¬ a1 = 0 →
    q_r 42 10 [vR 36, vI 0, vI 0, vJ j3, vJ j4, vJ j5] [] S Q Z)) : q_r 42 2 [vR 36, vI a1, vJ j2, vJ j3, vJ j4, vJ j5] [] S Q Z := q_blk 7 h
-- LMModel.close
set_option maxRecDepth 20000 in
theorem b_42_10 {Q : q_Q} {Z : q_Z} {a1 a2 : Int} {j3 j4 j5 : q_J} {S : q_S} (h : (a2 ≥ 128 →
    q_r 42 2 [vR 36, vI a1, vI a2, vJ j3, vJ j4, vJ j5] [] S Q Z) ∧
  (¬ a2 ≥ 128 →
    0 ≤ a2 ∧ (0 : Int) < 8 ∧
    0 ≤ a2 ∧ a2 < 128 ∧
    ((S 51 a2) = 0 →
      q_r 42 67 [vR 36, vI a1, vI a2, vI (a2 / 8), vI 8, vI 1] [] S Q Z) ∧
    (¬ (S 51 a2) = 0 →
      0 ≤ a2 ∧ (0 : Int) < 8 ∧
      0 ≤ (a2 / 8) ∧ (a2 / 8) < 16 ∧
      ((a2 % 8) ≥ (S 39 (a2 / 8)) →
        q_r 42 67 [vR 36, vI a1, vI a2, vI (a2 / 8), vI 8, vI 1] [] S Q Z) ∧
      (¬ (a2 % 8) ≥ (S 39 (a2 / 8)) →
        q_rg (4 * (a2 / 8)) ∧
        0 ≤ a2 ∧ (0 : Int) < 8 ∧
        q_rg ((4 * (a2 / 8)) + (a2 % 8)) ∧
        0 ≤ ((4 * (a2 / 8)) + (a2 % 8)) ∧ ((4 * (a2 / 8)) + (a2 % 8)) < 64 ∧
        q_r 42 67 [vR 36, vI a1, vI a2, vI (a2 / 8), vI (S 40 ((4 * (a2 / 8)) + (a2 % 8))), vI 1] [] S Q Z)))) : q_r 42 10 [vR 36, vI a1, vI a2, vJ j3, vJ j4, vJ j5] [] S Q Z := q_blk 43 h
-- LMModel.close
theorem b_42_67 {Q : q_Q} {Z : q_Z} {a1 a2 a4 a5 : Int} {j3 : q_J} {S : q_S} (h : (a5 > (S 36 5) →
    q_rg (a2 + 1) ∧
    q_r 42 10 [vR 36, vI a1, vI (a2 + 1), vJ j3, vI a4, vI a5] [] S Q Z) ∧
  (¬ a5 > (S 36 5) →
    (a4 ≥ 8 →
      q_rg (a2 + 1) ∧
      q_r 42 10 [vR 36, vI a1, vI (a2 + 1), vJ j3, vI a4, vI a5] [] S Q Z) ∧
    (¬ a4 ≥ 8 →
      0 ≤ a5 ∧ a5 < 16 ∧
      ((S 38 a5) ≠ a4 →
        q_rg (a5 + 1) ∧
        q_r 42 67 [vR 36, vI a1, vI a2, vJ j3, vI a4, vI (a5 + 1)] [] S Q Z) ∧
      (¬ (S 38 a5) ≠ a4 →
        q_rg (8 * a5) ∧
        0 ≤ (8 * a5) ∧ (8 * a5) < 128 ∧
        ((S 51 (8 * a5)) ≠ 0 →
          q_rg (a5 + 1) ∧
          q_r 42 67 [vR 36, vI a1, vI a2, vJ j3, vI a4, vI (a5 + 1)] [] S Q Z) ∧
        (¬ (S 51 (8 * a5)) ≠ 0 →
          q_rg (8 * a5) ∧
          0 ≤ (8 * a5) ∧ (8 * a5) < 128 ∧
          q_bo 1 ∧
          q_rg (a5 + 1) ∧
          q_r 42 67 [vR 36, vI 1, vI a2, vJ j3, vI a4, vI (a5 + 1)] [] (q_up S 51 (8 * a5) 1) Q Z))))) : q_r 42 67 [vR 36, vI a1, vI a2, vJ j3, vI a4, vI a5] [] S Q Z := q_blk 39 h
-- LMModel.numbered
theorem b_43_0 {Q : q_Q} {Z : q_Z} {S : q_S} (h : q_c 42 [vR 36] S (fun _ S1 =>
    q_r 43 6 [vR 36, vI 0, vU, vU] [] S1 Q Z) Z) : q_c 43 [vR 36] S Q Z := q_blk 4 h
-- LMModel.numbered
theorem b_43_6 {Q : q_Q} {Z : q_Z} {a1 : Int} {j2 j3 : q_J} {S : q_S} (h : (a1 ≥ (S 36 17) →
    ((S 36 17) ≠ 40 →
      q_r 43 87 [vR 36, vI 0, vJ j2, vJ j3] [] S Q Z) ∧
    (¬ (S 36 17) ≠ 40 →
      Q (-1) S)) ∧
  (¬ a1 ≥ (S 36 17) →
    q_r 43 18 [vR 36, vI a1, vI 1, vI 0] [] S Q Z)) : q_r 43 6 [vR 36, vI a1, vJ j2, vJ j3] [] S Q Z := q_blk 16 h
-- LMModel.numbered
theorem b_43_18 {Q : q_Q} {Z : q_Z} {a1 a2 a3 : Int} {S : q_S} (h : (a3 ≥ 128 →
    (a2 = 0 →
      q_rg (a1 + 1) ∧
      q_r 43 6 [vR 36, vI (a1 + 1), vI a2, vI a3] [] S Q Z) ∧
    (¬ a2 = 0 →
      Q a1 S)) ∧
  (¬ a3 ≥ 128 →
    (a2 = 0 →
      q_rg (a3 + 1) ∧
      q_r 43 18 [vR 36, vI a1, vI 0, vI (a3 + 1)] [] S Q Z) ∧
    (¬ a2 = 0 →
      q_rg (128 * a1) ∧
      q_rg ((128 * a1) + a3) ∧
      0 ≤ ((128 * a1) + a3) ∧ ((128 * a1) + a3) < 5120 ∧
      0 ≤ a3 ∧ a3 < 128 ∧
      ((S 48 ((128 * a1) + a3)) ≠ (S 51 a3) →
        q_rg (a3 + 1) ∧
        q_r 43 18 [vR 36, vI a1, vI 0, vI (a3 + 1)] [] S Q Z) ∧
      (¬ (S 48 ((128 * a1) + a3)) ≠ (S 51 a3) →
        q_rg (a3 + 1) ∧
        q_r 43 18 [vR 36, vI a1, vI 1, vI (a3 + 1)] [] S Q Z)))) : q_r 43 18 [vR 36, vI a1, vI a2, vI a3] [] S Q Z := q_blk 37 h
-- LMModel.numbered
theorem b_43_87 {Q : q_Q} {Z : q_Z} {a1 : Int} {j2 j3 : q_J} {S : q_S} (h : (a1 ≥ 128 →
    q_rg ((S 36 17) + 1) ∧
    q_rg (((S 36 17) + 1) - 1) ∧
    Q (((S 36 17) + 1) - 1) (q_up S 36 17 ((S 36 17) + 1))) ∧
  (¬ a1 ≥ 128 →
    q_rg (128 * (S 36 17)) ∧
    q_rg ((128 * (S 36 17)) + a1) ∧
    0 ≤ a1 ∧ a1 < 128 ∧
    0 ≤ ((128 * (S 36 17)) + a1) ∧ ((128 * (S 36 17)) + a1) < 5120 ∧
    q_bo (S 51 a1) ∧
    q_rg (a1 + 1) ∧
    q_r 43 87 [vR 36, vI (a1 + 1), vJ j2, vJ j3] [] (q_up S 48 ((128 * (S 36 17)) + a1) (S 51 a1)) Q Z)) : q_r 43 87 [vR 36, vI a1, vJ j2, vJ j3] [] S Q Z := q_blk 29 h
-- LMModel.move
theorem b_44_0 {Q : q_Q} {Z : q_Z} {a1 a2 : Int} {S : q_S} (h : q_r 44 5 [vR 36, vI a1, vI a2, vI 0, vI 0, vU] [] S Q Z) : q_c 44 [vR 36, vI a1, vI a2] S Q Z := q_blk 4 h
-- LMModel.move
theorem b_44_5 {Q : q_Q} {Z : q_Z} {a1 a2 a3 a4 : Int} {j5 : q_J} {S : q_S} (h : (a4 ≥ 128 →
    q_r 44 30 [vR 36, vI a1, vI a2, vI a3, vI 0, vJ j5] [] S Q Z) ∧
  (¬ a4 ≥ 128 →
    0 ≤ a4 ∧ a4 < 128 ∧
    q_bo 0 ∧
    q_rg (a4 + 1) ∧
    q_r 44 5 [vR 36, vI a1, vI a2, vI a3, vI (a4 + 1), vJ j5] [] (q_up S 51 a4 0) Q Z)) : q_r 44 5 [vR 36, vI a1, vI a2, vI a3, vI a4, vJ j5] [] S Q Z := q_blk 12 h
-- LMModel.move
set_option maxRecDepth 20000 in
theorem b_44_30 {Q : q_Q} {Z : q_Z} {a1 a2 a3 a4 : Int} {j5 : q_J} {S : q_S} (h : (a4 ≥ 128 →
    q_bo a3 ∧ Q a3 S) ∧
  (¬ a4 ≥ 128 →
    0 ≤ a4 ∧ (0 : Int) < 8 ∧
    q_rg (128 * a1) ∧
    q_rg ((128 * a1) + a4) ∧
    0 ≤ ((128 * a1) + a4) ∧ ((128 * a1) + a4) < 5120 ∧
    ((S 48 ((128 * a1) + a4)) = 0 →
      q_rg (a4 + 1) ∧
      q_r 44 30 [vR 36, vI a1, vI a2, vI a3, vI (a4 + 1), vI (a4 / 8)] [] S Q Z) ∧
    (¬ (S 48 ((128 * a1) + a4)) = 0 →
      0 ≤ a4 ∧ (0 : Int) < 8 ∧
      0 ≤ (a4 / 8) ∧ (a4 / 8) < 16 ∧
      ((a4 % 8) ≥ (S 39 (a4 / 8)) →
        q_rg (a4 + 1) ∧
        q_r 44 30 [vR 36, vI a1, vI a2, vI a3, vI (a4 + 1), vI (a4 / 8)] [] S Q Z) ∧
      (¬ (a4 % 8) ≥ (S 39 (a4 / 8)) →
        q_rg (4 * (a4 / 8)) ∧
        0 ≤ a4 ∧ (0 : Int) < 8 ∧
        q_rg ((4 * (a4 / 8)) + (a4 % 8)) ∧
        0 ≤ ((4 * (a4 / 8)) + (a4 % 8)) ∧ ((4 * (a4 / 8)) + (a4 % 8)) < 64 ∧
        ((S 40 ((4 * (a4 / 8)) + (a4 % 8))) ≠ a2 →
          q_rg (a4 + 1) ∧
          q_r 44 30 [vR 36, vI a1, vI a2, vI a3, vI (a4 + 1), vI (a4 / 8)] [] S Q Z) ∧
        (¬ (S 40 ((4 * (a4 / 8)) + (a4 % 8))) ≠ a2 →
          q_rg (a4 + 1) ∧
          0 ≤ (a4 + 1) ∧ (a4 + 1) < 128 ∧
          q_bo 1 ∧
          q_rg (a4 + 1) ∧
          q_r 44 30 [vR 36, vI a1, vI a2, vI 1, vI (a4 + 1), vI (a4 / 8)] [] (q_up S 51 (a4 + 1) 1) Q Z))))) : q_r 44 30 [vR 36, vI a1, vI a2, vI a3, vI a4, vJ j5] [] S Q Z := q_blk 55 h
-- LMModel.findStates
theorem b_45_0 {Q : q_Q} {Z : q_Z} {S : q_S} (h : q_r 45 2 [vR 36, vI 0, vU, vU, vU] [] S Q Z) : q_c 45 [vR 36] S Q Z := q_blk 2 h
-- LMModel.findStates
theorem b_45_2 {Q : q_Q} {Z : q_Z} {a1 : Int} {j2 j3 j4 : q_J} {S : q_S} (h : (a1 ≥ 128 →
    q_c 43 [vR 36] (q_up S 36 17 0) (fun r2 S1 =>
      q_r 45 42 [vR 36, vI r2, vI 0, vJ j3, vJ j4] [] S1 Q Z) Z) ∧
  (¬ a1 ≥ 128 →
    (a1 ≠ 0 →
      0 ≤ a1 ∧ a1 < 128 ∧
      q_bo 0 ∧
      q_rg (a1 + 1) ∧
      q_r 45 2 [vR 36, vI (a1 + 1), vJ j2, vJ j3, vJ j4] [] (q_up S 51 a1 0) Q Z) ∧
    (¬ a1 ≠ 0 →
      0 ≤ a1 ∧ a1 < 128 ∧
      q_bo 1 ∧
      q_rg (a1 + 1) ∧
      q_r 45 2 [vR 36, vI (a1 + 1), vJ j2, vJ j3, vJ j4] [] (q_up S 51 a1 1) Q Z))) : q_r 45 2 [vR 36, vI a1, vJ j2, vJ j3, vJ j4] [] S Q Z := q_blk 25 h
-- LMModel.findStates
theorem b_45_42 {Q : q_Q} {Z : q_Z} {a2 : Int} {j1 j3 j4 : q_J} {S : q_S} (h : (a2 ≥ (S 36 17) →
    q_bo 1 ∧ Q 1 S) ∧
  (¬ a2 ≥ (S 36 17) →
    q_r 45 52 [vR 36, vJ j1, vI a2, vI 0, vJ j4] [] S Q Z)) : q_r 45 42 [vR 36, vJ j1, vI a2, vJ j3, vJ j4] [] S Q Z := q_blk 8 h
-- LMModel.findStates
set_option maxRecDepth 20000 in
theorem b_45_52 {Q : q_Q} {Z : q_Z} {a2 a3 : Int} {j1 j4 : q_J} {S : q_S} (h : (a3 ≥ 16 →
    q_rg (a2 + 1) ∧
    q_r 45 42 [vR 36, vJ j1, vI (a2 + 1), vI a3, vJ j4] [] S Q Z) ∧
  (¬ a3 ≥ 16 →
    q_c 44 [vR 36, vI a2, vI a3] S (fun r2 S1 =>
      (r2 = 0 →
        q_rg (16 * a2) ∧
        q_rg ((16 * a2) + a3) ∧
        0 ≤ ((16 * a2) + a3) ∧ ((16 * a2) + a3) < 640 ∧
        q_rg (a3 + 1) ∧
        q_r 45 52 [vR 36, vJ j1, vI a2, vI (a3 + 1), vI (-1)] [] (q_up S1 50 ((16 * a2) + a3) (-1)) Q Z) ∧
      (¬ r2 = 0 →
        q_c 43 [vR 36] S1 (fun r4 S3 =>
          (r4 ≥ 0 →
            q_rg (16 * a2) ∧
            q_rg ((16 * a2) + a3) ∧
            0 ≤ ((16 * a2) + a3) ∧ ((16 * a2) + a3) < 640 ∧
            q_rg (a3 + 1) ∧
            q_r 45 52 [vR 36, vJ j1, vI a2, vI (a3 + 1), vI r4] [] (q_up S3 50 ((16 * a2) + a3) r4) Q Z) ∧
          (¬ r4 ≥ 0 →
            q_bo 0 ∧ Q 0 S3)) Z)) Z)) : q_r 45 52 [vR 36, vJ j1, vI a2, vI a3, vJ j4] [] S Q Z := q_blk 41 h
-- LMModel.isNullable
theorem b_46_0 {Q : q_Q} {Z : q_Z} {a1 a2 : Int} {S : q_S} (h : q_r 46 5 [vR 36, vI a1, vI a2, vI 1, vI a2] [] S Q Z) : q_c 46 [vR 36, vI a1, vI a2] S Q Z := q_blk 4 h
-- LMModel.isNullable
set_option maxRecDepth 20000 in
theorem b_46_5 {Q : q_Q} {Z : q_Z} {a1 a3 a4 : Int} {j2 : q_J} {S : q_S} (h : 0 ≤ a1 ∧ a1 < 16 ∧
  (a4 ≥ (S 39 a1) →
    q_bo a3 ∧ Q a3 S) ∧
  (¬ a4 ≥ (S 39 a1) →
    (a3 = 0 →
      q_rg (a4 + 1) ∧
      q_r 46 5 [vR 36, vI a1, vJ j2, vI 0, vI (a4 + 1)] [] S Q Z) ∧
    (¬ a3 = 0 →
      q_rg (4 * a1) ∧
      q_rg ((4 * a1) + a4) ∧
      0 ≤ ((4 * a1) + a4) ∧ ((4 * a1) + a4) < 64 ∧
      ((S 40 ((4 * a1) + a4)) ≥ 8 →
        q_rg (a4 + 1) ∧
        q_r 46 5 [vR 36, vI a1, vJ j2, vI 0, vI (a4 + 1)] [] S Q Z) ∧
      (¬ (S 40 ((4 * a1) + a4)) ≥ 8 →
        q_rg (4 * a1) ∧
        q_rg ((4 * a1) + a4) ∧
        0 ≤ ((4 * a1) + a4) ∧ ((4 * a1) + a4) < 64 ∧
        0 ≤ (S 40 ((4 * a1) + a4)) ∧ (S 40 ((4 * a1) + a4)) < 8 ∧
        ((S 45 (S 40 ((4 * a1) + a4))) = 0 →
          q_rg (a4 + 1) ∧
          q_r 46 5 [vR 36, vI a1, vJ j2, vI 0, vI (a4 + 1)] [] S Q Z) ∧
        (¬ (S 45 (S 40 ((4 * a1) + a4))) = 0 →
          q_rg (a4 + 1) ∧
          q_r 46 5 [vR 36, vI a1, vJ j2, vI 1, vI (a4 + 1)] [] S Q Z))))) : q_r 46 5 [vR 36, vI a1, vJ j2, vI a3, vI a4] [] S Q Z := q_blk 49 h
-- LMModel.firstOf
theorem b_47_0 {Q : q_Q} {Z : q_Z} {a1 a2 : Int} {S : q_S} (h : q_r 47 8 [vR 36, vI a1, vI a2, vI 0, vI 1, vI a2, vU] [] S Q Z) : q_c 47 [vR 36, vI a1, vI a2] S Q Z := q_blk 6 h
-- LMModel.firstOf
set_option maxRecDepth 20000 in
theorem b_47_8 {Q : q_Q} {Z : q_Z} {a1 a3 a4 a5 : Int} {j2 j6 : q_J} {S : q_S} (h : 0 ≤ a1 ∧ a1 < 16 ∧
  (a5 ≥ (S 39 a1) →
    Q a3 S) ∧
  (¬ a5 ≥ (S 39 a1) →
    q_rg (4 * a1) ∧
    q_rg ((4 * a1) + a5) ∧
    0 ≤ ((4 * a1) + a5) ∧ ((4 * a1) + a5) < 64 ∧
    (a4 ≠ 0 →
      ((S 40 ((4 * a1) + a5)) ≥ 8 →
        q_rg ((S 40 ((4 * a1) + a5)) - 8) ∧
        (a4 = 0 →
          q_rg (a5 + 1) ∧
          q_r 47 8 [vR 36, vI a1, vJ j2, vI (q_or a3 (q_shl 1 ((S 40 ((4 * a1) + a5)) - 8))), vI 0, vI (a5 + 1), vI (S 40 ((4 * a1) + a5))] [] S Q Z) ∧
        (¬ a4 = 0 →
          ((S 40 ((4 * a1) + a5)) ≥ 8 →
            q_rg (a5 + 1) ∧
            q_r 47 8 [vR 36, vI a1, vJ j2, vI (q_or a3 (q_shl 1 ((S 40 ((4 * a1) + a5)) - 8))), vI 0, vI (a5 + 1), vI (S 40 ((4 * a1) + a5))] [] S Q Z) ∧
          (¬ (S 40 ((4 * a1) + a5)) ≥ 8 →
            0 ≤ (S 40 ((4 * a1) + a5)) ∧ (S 40 ((4 * a1) + a5)) < 8 ∧
            ((S 45 (S 40 ((4 * a1) + a5))) = 0 →
              q_rg (a5 + 1) ∧
              q_r 47 8 [vR 36, vI a1, vJ j2, vI (q_or a3 (q_shl 1 ((S 40 ((4 * a1) + a5)) - 8))), vI 0, vI (a5 + 1), vI (S 40 ((4 * a1) + a5))] [] S Q Z) ∧
            (¬ (S 45 (S 40 ((4 * a1) + a5))) = 0 →
              q_rg (a5 + 1) ∧
              q_r 47 8 [vR 36, vI a1, vJ j2, vI (q_or a3 (q_shl 1 ((S 40 ((4 * a1) + a5)) - 8))), vI 1, vI (a5 + 1), vI (S 40 ((4 * a1) + a5))] [] S Q Z)))) ∧
      (¬ (S 40 ((4 * a1) + a5)) ≥ 8 →
        0 ≤ (S 40 ((4 * a1) + a5)) ∧ (S 40 ((4 * a1) + a5)) < 8 ∧
        (a4 = 0 →
          q_rg (a5 + 1) ∧
          q_r 47 8 [vR 36, vI a1, vJ j2, vI (q_or a3 (S 46 (S 40 ((4 * a1) + a5)))), vI 0, vI (a5 + 1), vI (S 40 ((4 * a1) + a5))] [] S Q Z) ∧
        (¬ a4 = 0 →
          ((S 40 ((4 * a1) + a5)) ≥ 8 →
            q_rg (a5 + 1) ∧
            q_r 47 8 [vR 36, vI a1, vJ j2, vI (q_or a3 (S 46 (S 40 ((4 * a1) + a5)))), vI 0, vI (a5 + 1), vI (S 40 ((4 * a1) + a5))] [] S Q Z) ∧
          (¬ (S 40 ((4 * a1) + a5)) ≥ 8 →
            0 ≤ (S 40 ((4 * a1) + a5)) ∧ (S 40 ((4 * a1) + a5)) < 8 ∧
            ((S 45 (S 40 ((4 * a1) + a5))) = 0 →
              q_rg (a5 + 1) ∧
              q_r 47 8 [vR 36, vI a1, vJ j2, vI (q_or a3 (S 46 (S 40 ((4 * a1) + a5)))), vI 0, vI (a5 + 1), vI (S 40 ((4 * a1) + a5))] [] S Q Z) ∧
            (¬ (S 45 (S 40 ((4 * a1) + a5))) = 0 →
              q_rg (a5 + 1) ∧
              q_r 47 8 [vR 36, vI a1, vJ j2, vI (q_or a3 (S 46 (S 40 ((4 * a1) + a5)))), vI 1, vI (a5 + 1), vI (S 40 ((4 * a1) + a5))] [] S Q Z))))) ∧
    (¬ a4 ≠ 0 →
      (a4 = 0 →
        q_rg (a5 + 1) ∧
        q_r 47 8 [vR 36, vI a1, vJ j2, vI a3, vI 0, vI (a5 + 1), vI (S 40 ((4 * a1) + a5))] [] S Q Z) ∧
      (¬ a4 = 0 →
        ((S 40 ((4 * a1) + a5)) ≥ 8 →
          q_rg (a5 + 1) ∧
          q_r 47 8 [vR 36, vI a1, vJ j2, vI a3, vI 0, vI (a5 + 1), vI (S 40 ((4 * a1) + a5))] [] S Q Z) ∧
        (¬ (S 40 ((4 * a1) + a5)) ≥ 8 →
          0 ≤ (S 40 ((4 * a1) + a5)) ∧ (S 40 ((4 * a1) + a5)) < 8 ∧
          ((S 45 (S 40 ((4 * a1) + a5))) = 0 →
            q_rg (a5 + 1) ∧
            q_r 47 8 [vR 36, vI a1, vJ j2, vI a3, vI 0, vI (a5 + 1), vI (S 40 ((4 * a1) + a5))] [] S Q Z) ∧
          (¬ (S 45 (S 40 ((4 * a1) + a5))) = 0 →
            q_rg (a5 + 1) ∧
            q_r 47 8 [vR 36, vI a1, vJ j2, vI a3, vI 1, vI (a5 + 1), vI (S 40 ((4 * a1) + a5))] [] S Q Z)))))) : q_r 47 8 [vR 36, vI a1, vJ j2, vI a3, vI a4, vI a5, vJ j6] [] S Q Z := q_blk 122 h
-- LMModel.findSets
theorem b_48_0 {Q : q_Q} {Z : q_Z} {S : q_S} (h : q_r 48 2 [vR 36, vI 0, vU, vU, vU] [] S Q Z) : q_c 48 [vR 36] S Q Z := q_blk 2 h
-- LMModel.findSets
theorem b_48_2 {Q : q_Q} {Z : q_Z} {a1 : Int} {j2 j3 j4 : q_J} {S : q_S} (h : (a1 ≥ 8 →
    q_r 48 53 [vR 36, vI 0, vJ j2, vJ j3, vJ j4] [] S Q Z) ∧
  (¬ a1 ≥ 8 →
    0 ≤ a1 ∧ a1 < 8 ∧
    q_bo 0 ∧
    0 ≤ a1 ∧ a1 < 8 ∧
    (0 : Int) ≤ 0 ∧ (0 : Int) < 8 ∧
    (a1 ≠ (S 42 0) →
      0 ≤ a1 ∧ a1 < 8 ∧
      q_rg (a1 + 1) ∧
      q_r 48 2 [vR 36, vI (a1 + 1), vJ j2, vJ j3, vJ j4] [] (q_up (q_up (q_up S 45 a1 0) 46 a1 0) 47 a1 0) Q Z) ∧
    (¬ a1 ≠ (S 42 0) →
      0 ≤ a1 ∧ a1 < 8 ∧
      q_rg (a1 + 1) ∧
      q_r 48 2 [vR 36, vI (a1 + 1), vJ j2, vJ j3, vJ j4] [] (q_up (q_up (q_up S 45 a1 0) 46 a1 0) 47 a1 256) Q Z))) : q_r 48 2 [vR 36, vI a1, vJ j2, vJ j3, vJ j4] [] S Q Z := q_blk 33 h
-- LMModel.findSets
theorem b_48_53 {Q : q_Q} {Z : q_Z} {a1 : Int} {j2 j3 j4 : q_J} {S : q_S} (h : (a1 ≥ 150 →
    q_r 48 123 [vR 36, vI 0, vJ j2, vJ j3, vJ j4] [] S Q Z) ∧
  (¬ a1 ≥ 150 →
    q_r 48 62 [vR 36, vI a1, vI 1, vJ j3, vJ j4] [] S Q Z)) : q_r 48 53 [vR 36, vI a1, vJ j2, vJ j3, vJ j4] [] S Q Z := q_blk 7 h
-- LMModel.findSets
theorem b_48_62 {Q : q_Q} {Z : q_Z} {a1 a2 : Int} {j3 j4 : q_J} {S : q_S} (h : (a2 > (S 36 5) →
    q_rg (a1 + 1) ∧
    q_r 48 53 [vR 36, vI (a1 + 1), vI a2, vJ j3, vJ j4] [] S Q Z) ∧
  (¬ a2 > (S 36 5) →
    0 ≤ a2 ∧ a2 < 16 ∧
    0 ≤ a2 ∧ a2 < 16 ∧
    0 ≤ (S 38 a2) ∧ (S 38 a2) < 8 ∧
    ((S 45 (S 38 a2)) ≠ 0 →
      0 ≤ (S 38 a2) ∧ (S 38 a2) < 8 ∧
      q_bo 1 ∧
      q_rg (a2 + 1) ∧
      q_r 48 62 [vR 36, vI a1, vI (a2 + 1), vJ j3, vJ j4] [] (q_up S 45 (S 38 a2) 1) Q Z) ∧
    (¬ (S 45 (S 38 a2)) ≠ 0 →
      q_c 46 [vR 36, vI a2, vI 0] S (fun r2 S1 =>
        (r2 = 0 →
          0 ≤ (S 38 a2) ∧ (S 38 a2) < 8 ∧
          q_bo 0 ∧
          q_rg (a2 + 1) ∧
          q_r 48 62 [vR 36, vI a1, vI (a2 + 1), vJ j3, vJ j4] [] (q_up S1 45 (S 38 a2) 0) Q Z) ∧
        (¬ r2 = 0 →
          0 ≤ (S 38 a2) ∧ (S 38 a2) < 8 ∧
          q_bo 1 ∧
          q_rg (a2 + 1) ∧
          q_r 48 62 [vR 36, vI a1, vI (a2 + 1), vJ j3, vJ j4] [] (q_up S1 45 (S 38 a2) 1) Q Z)) Z))) : q_r 48 62 [vR 36, vI a1, vI a2, vJ j3, vJ j4] [] S Q Z := q_blk 39 h
-- LMModel.findSets
theorem b_48_123 {Q : q_Q} {Z : q_Z} {a1 : Int} {j2 j3 j4 : q_J} {S : q_S} (h : (a1 ≥ 70 →
    q_r 48 182 [vR 36, vI 0, vJ j2, vJ j3, vJ j4] [] S Q Z) ∧
  (¬ a1 ≥ 70 →
    q_r 48 131 [vR 36, vI a1, vI 1, vJ j3, vJ j4] [] S Q Z)) : q_r 48 123 [vR 36, vI a1, vJ j2, vJ j3, vJ j4] [] S Q Z := q_blk 7 h
-- LMModel.findSets
theorem b_48_131 {Q : q_Q} {Z : q_Z} {a1 a2 : Int} {j3 j4 : q_J} {S : q_S} (h : (a2 > (S 36 5) →
    q_rg (a1 + 1) ∧
    q_r 48 123 [vR 36, vI (a1 + 1), vI a2, vJ j3, vJ j4] [] S Q Z) ∧
  (¬ a2 > (S 36 5) →
    0 ≤ a2 ∧ a2 < 16 ∧
    0 ≤ a2 ∧ a2 < 16 ∧
    0 ≤ (S 38 a2) ∧ (S 38 a2) < 8 ∧
    q_c 47 [vR 36, vI a2, vI 0] S (fun r2 S1 =>
      0 ≤ (S 38 a2) ∧ (S 38 a2) < 8 ∧
      q_rg (a2 + 1) ∧
      q_r 48 131 [vR 36, vI a1, vI (a2 + 1), vJ j3, vJ j4] [] (q_up S1 46 (S 38 a2) (q_or (S 46 (S 38 a2)) r2)) Q Z) Z)) : q_r 48 131 [vR 36, vI a1, vI a2, vJ j3, vJ j4] [] S Q Z := q_blk 27 h
-- LMModel.findSets
theorem b_48_182 {Q : q_Q} {Z : q_Z} {a1 : Int} {j2 j3 j4 : q_J} {S : q_S} (h : (a1 ≥ 80 →
    Q 0 S) ∧
  (¬ a1 ≥ 80 →
    q_r 48 190 [vR 36, vI a1, vI 1, vJ j3, vJ j4] [] S Q Z)) : q_r 48 182 [vR 36, vI a1, vJ j2, vJ j3, vJ j4] [] S Q Z := q_blk 6 h
-- LMModel.findSets
theorem b_48_190 {Q : q_Q} {Z : q_Z} {a1 a2 : Int} {j3 j4 : q_J} {S : q_S} (h : (a2 > (S 36 5) →
    q_rg (a1 + 1) ∧
    q_r 48 182 [vR 36, vI (a1 + 1), vI a2, vJ j3, vJ j4] [] S Q Z) ∧
  (¬ a2 > (S 36 5) →
    q_r 48 200 [vR 36, vI a1, vI a2, vI 0, vJ j4] [] S Q Z)) : q_r 48 190 [vR 36, vI a1, vI a2, vJ j3, vJ j4] [] S Q Z := q_blk 8 h
-- LMModel.findSets
set_option maxRecDepth 20000 in
theorem b_48_200 {Q : q_Q} {Z : q_Z} {a1 a2 a3 : Int} {j4 : q_J} {S : q_S} (h : 0 ≤ a2 ∧ a2 < 16 ∧
  (a3 ≥ (S 39 a2) →
    q_rg (a2 + 1) ∧
    q_r 48 190 [vR 36, vI a1, vI (a2 + 1), vI a3, vJ j4] [] S Q Z) ∧
  (¬ a3 ≥ (S 39 a2) →
    q_rg (4 * a2) ∧
    q_rg ((4 * a2) + a3) ∧
    0 ≤ ((4 * a2) + a3) ∧ ((4 * a2) + a3) < 64 ∧
    ((S 40 ((4 * a2) + a3)) ≥ 8 →
      q_rg (a3 + 1) ∧
      q_r 48 200 [vR 36, vI a1, vI a2, vI (a3 + 1), vI (S 40 ((4 * a2) + a3))] [] S Q Z) ∧
    (¬ (S 40 ((4 * a2) + a3)) ≥ 8 →
      0 ≤ (S 40 ((4 * a2) + a3)) ∧ (S 40 ((4 * a2) + a3)) < 8 ∧
      q_rg (a3 + 1) ∧
      q_c 47 [vR 36, vI a2, vI (a3 + 1)] S (fun r2 S1 =>
        q_rg (a3 + 1) ∧
        q_c 46 [vR 36, vI a2, vI (a3 + 1)] S1 (fun r4 S3 =>
          (r4 = 0 →
            0 ≤ (S 40 ((4 * a2) + a3)) ∧ (S 40 ((4 * a2) + a3)) < 8 ∧
            q_rg (a3 + 1) ∧
            q_r 48 200 [vR 36, vI a1, vI a2, vI (a3 + 1), vI (S 40 ((4 * a2) + a3))] [] (q_up S3 47 (S 40 ((4 * a2) + a3)) (q_or (q_or (S 47 (S 40 ((4 * a2) + a3))) r2) 0)) Q Z) ∧
          (¬ r4 = 0 →
            0 ≤ a2 ∧ a2 < 16 ∧
            0 ≤ (S3 38 a2) ∧ (S3 38 a2) < 8 ∧
            0 ≤ (S 40 ((4 * a2) + a3)) ∧ (S 40 ((4 * a2) + a3)) < 8 ∧
            q_rg (a3 + 1) ∧
            q_r 48 200 [vR 36, vI a1, vI a2, vI (a3 + 1), vI (S 40 ((4 * a2) + a3))] [] (q_up S3 47 (S 40 ((4 * a2) + a3)) (q_or (q_or (S 47 (S 40 ((4 * a2) + a3))) r2) (S3 47 (S3 38 a2)))) Q Z)) Z) Z))) : q_r 48 200 [vR 36, vI a1, vI a2, vI a3, vJ j4] [] S Q Z := q_blk 60 h
-- LMModel.widen
theorem b_49_0 {Q : q_Q} {Z : q_Z} {a1 a2 a3 : Int} {S : q_S} (h : q_rg (128 * a1) ∧
  q_rg ((128 * a1) + a2) ∧
  0 ≤ ((128 * a1) + a2) ∧ ((128 * a1) + a2) < 5120 ∧
  q_rg (128 * a1) ∧
  q_rg ((128 * a1) + a2) ∧
  0 ≤ ((128 * a1) + a2) ∧ ((128 * a1) + a2) < 5120 ∧
  ((q_and a3 (q_xor (S 49 ((128 * a1) + a2)) (-1))) = 0 →
    q_bo 0 ∧ Q 0 (q_up S 49 ((128 * a1) + a2) (q_or (S 49 ((128 * a1) + a2)) a3))) ∧
  (¬ (q_and a3 (q_xor (S 49 ((128 * a1) + a2)) (-1))) = 0 →
    q_bo 1 ∧ Q 1 (q_up S 49 ((128 * a1) + a2) (q_or (S 49 ((128 * a1) + a2)) a3)))) : q_c 49 [vR 36, vI a1, vI a2, vI a3] S Q Z := q_blk 31 h
-- LMModel.handOn
set_option maxRecDepth 20000 in
theorem b_50_0 {Q : q_Q} {Z : q_Z} {a1 a2 : Int} {S : q_S} (h : 0 ≤ a2 ∧ (0 : Int) < 8 ∧
  0 ≤ a2 ∧ (0 : Int) < 8 ∧
  q_rg (128 * a1) ∧
  q_rg ((128 * a1) + a2) ∧
  0 ≤ ((128 * a1) + a2) ∧ ((128 * a1) + a2) < 5120 ∧
  ((S 48 ((128 * a1) + a2)) = 0 →
    q_bo 0 ∧ Q 0 S) ∧
  (¬ (S 48 ((128 * a1) + a2)) = 0 →
    0 ≤ (a2 / 8) ∧ (a2 / 8) < 16 ∧
    ((a2 % 8) < (S 39 (a2 / 8)) →
      q_rg (128 * a1) ∧
      q_rg ((128 * a1) + a2) ∧
      0 ≤ ((128 * a1) + a2) ∧ ((128 * a1) + a2) < 5120 ∧
      q_rg (4 * (a2 / 8)) ∧
      q_rg ((4 * (a2 / 8)) + (a2 % 8)) ∧
      0 ≤ ((4 * (a2 / 8)) + (a2 % 8)) ∧ ((4 * (a2 / 8)) + (a2 % 8)) < 64 ∧
      q_rg (16 * a1) ∧
      q_rg ((16 * a1) + (S 40 ((4 * (a2 / 8)) + (a2 % 8)))) ∧
      0 ≤ ((16 * a1) + (S 40 ((4 * (a2 / 8)) + (a2 % 8)))) ∧ ((16 * a1) + (S 40 ((4 * (a2 / 8)) + (a2 % 8)))) < 640 ∧
      q_rg (a2 + 1) ∧
      q_c 49 [vR 36, vI (S 50 ((16 * a1) + (S 40 ((4 * (a2 / 8)) + (a2 % 8))))), vI (a2 + 1), vI (S 49 ((128 * a1) + a2))] S (fun r2 S1 =>
        ((S 40 ((4 * (a2 / 8)) + (a2 % 8))) ≥ 8 →
          q_r 50 133 [vR 36, vI a1, vI a2, vI (a2 / 8), vI (a2 % 8), vI (S 49 ((128 * a1) + a2)), vI (S 40 ((4 * (a2 / 8)) + (a2 % 8))), vI r2, vI 0, vI 1, vU] [] S1 Q Z) ∧
        (¬ (S 40 ((4 * (a2 / 8)) + (a2 % 8))) ≥ 8 →
          q_rg ((a2 % 8) + 1) ∧
          q_c 47 [vR 36, vI (a2 / 8), vI ((a2 % 8) + 1)] S1 (fun r4 S3 =>
            q_rg ((a2 % 8) + 1) ∧
            q_c 46 [vR 36, vI (a2 / 8), vI ((a2 % 8) + 1)] S3 (fun r6 S5 =>
              (r6 = 0 →
                q_r 50 133 [vR 36, vI a1, vI a2, vI (a2 / 8), vI (a2 % 8), vI (S 49 ((128 * a1) + a2)), vI (S 40 ((4 * (a2 / 8)) + (a2 % 8))), vI r2, vI (q_or r4 0), vI 1, vU] [] S5 Q Z) ∧
              (¬ r6 = 0 →
                q_r 50 133 [vR 36, vI a1, vI a2, vI (a2 / 8), vI (a2 % 8), vI (S 49 ((128 * a1) + a2)), vI (S 40 ((4 * (a2 / 8)) + (a2 % 8))), vI r2, vI (q_or r4 (S 49 ((128 * a1) + a2))), vI 1, vU] [] S5 Q Z)) Z) Z)) Z) ∧
    (¬ (a2 % 8) < (S 39 (a2 / 8)) →
      q_bo 0 ∧ Q 0 S))) : q_c 50 [vR 36, vI a1, vI a2] S Q Z := q_blk 93 h
-- LMModel.handOn
set_option maxRecDepth 20000 in
theorem b_50_133 {Q : q_Q} {Z : q_Z} {a1 a6 a7 a8 a9 : Int} {j2 j3 j4 j5 j10 : q_J} {S : q_S} (h : (a9 > (S 36 5) →
    q_bo a7 ∧ Q a7 S) ∧
  (¬ a9 > (S 36 5) →
    (a6 ≥ 8 →
      q_bo a7 ∧ Q a7 S) ∧
    (¬ a6 ≥ 8 →
      0 ≤ a9 ∧ a9 < 16 ∧
      ((S 38 a9) ≠ a6 →
        (a7 ≠ 0 →
          q_rg (a9 + 1) ∧
          q_r 50 133 [vR 36, vI a1, vJ j2, vJ j3, vJ j4, vJ j5, vI a6, vI 1, vI a8, vI (a9 + 1), vI 0] [] S Q Z) ∧
        (¬ a7 ≠ 0 →
          ((0 : Int) = 0 →
            q_rg (a9 + 1) ∧
            q_r 50 133 [vR 36, vI a1, vJ j2, vJ j3, vJ j4, vJ j5, vI a6, vI 0, vI a8, vI (a9 + 1), vI 0] [] S Q Z) ∧
          (¬ (0 : Int) = 0 →
            q_rg (a9 + 1) ∧
            q_r 50 133 [vR 36, vI a1, vJ j2, vJ j3, vJ j4, vJ j5, vI a6, vI 1, vI a8, vI (a9 + 1), vI 0] [] S Q Z))) ∧
      (¬ (S 38 a9) ≠ a6 →
        q_rg (8 * a9) ∧
        q_c 49 [vR 36, vI a1, vI (8 * a9), vI a8] S (fun r2 S1 =>
          (r2 = 0 →
            (a7 ≠ 0 →
              q_rg (a9 + 1) ∧
              q_r 50 133 [vR 36, vI a1, vJ j2, vJ j3, vJ j4, vJ j5, vI a6, vI 1, vI a8, vI (a9 + 1), vI 0] [] S1 Q Z) ∧
            (¬ a7 ≠ 0 →
              ((0 : Int) = 0 →
                q_rg (a9 + 1) ∧
                q_r 50 133 [vR 36, vI a1, vJ j2, vJ j3, vJ j4, vJ j5, vI a6, vI 0, vI a8, vI (a9 + 1), vI 0] [] S1 Q Z) ∧
              (¬ (0 : Int) = 0 →
                q_rg (a9 + 1) ∧
                q_r 50 133 [vR 36, vI a1, vJ j2, vJ j3, vJ j4, vJ j5, vI a6, vI 1, vI a8, vI (a9 + 1), vI 0] [] S1 Q Z))) ∧
          (¬ r2 = 0 →
            (a7 ≠ 0 →
              q_rg (a9 + 1) ∧
              q_r 50 133 [vR 36, vI a1, vJ j2, vJ j3, vJ j4, vJ j5, vI a6, vI 1, vI a8, vI (a9 + 1), vI 1] [] S1 Q Z) ∧
            (¬ a7 ≠ 0 →
              ((1 : Int) = 0 →
                q_rg (a9 + 1) ∧
                q_r 50 133 [vR 36, vI a1, vJ j2, vJ j3, vJ j4, vJ j5, vI a6, vI 0, vI a8, vI (a9 + 1), vI 1] [] S1 Q Z) ∧
              (¬ (1 : Int) = 0 →
                q_rg (a9 + 1) ∧
                q_r 50 133 [vR 36, vI a1, vJ j2, vJ j3, vJ j4, vJ j5, vI a6, vI 1, vI a8, vI (a9 + 1), vI 1] [] S1 Q Z)))) Z)))) : q_r 50 133 [vR 36, vI a1, vJ j2, vJ j3, vJ j4, vJ j5, vI a6, vI a7, vI a8, vI a9, vJ j10] [] S Q Z := q_blk 86 h
-- LMModel.findAhead
theorem b_51_0 {Q : q_Q} {Z : q_Z} {S : q_S} (h : q_r 51 2 [vR 36, vI 0, vU, vU, vU] [] S Q Z) : q_c 51 [vR 36] S Q Z := q_blk 2 h
-- LMModel.findAhead
theorem b_51_2 {Q : q_Q} {Z : q_Z} {a1 : Int} {j2 j3 j4 : q_J} {S : q_S} (h : (a1 ≥ 5120 →
    (0 : Int) ≤ 0 ∧ (0 : Int) < 5120 ∧
    q_r 51 33 [vR 36, vI 1, vJ j2, vJ j3, vJ j4] [] (q_up S 49 0 256) Q Z) ∧
  (¬ a1 ≥ 5120 →
    0 ≤ a1 ∧ a1 < 5120 ∧
    q_rg (a1 + 1) ∧
    q_r 51 2 [vR 36, vI (a1 + 1), vJ j2, vJ j3, vJ j4] [] (q_up S 49 a1 0) Q Z)) : q_r 51 2 [vR 36, vI a1, vJ j2, vJ j3, vJ j4] [] S Q Z := q_blk 17 h
-- LMModel.findAhead
theorem b_51_33 {Q : q_Q} {Z : q_Z} {a1 : Int} {j2 j3 j4 : q_J} {S : q_S} (h : (a1 = 0 →
    Q 0 S) ∧
  (¬ a1 = 0 →
    q_r 51 41 [vR 36, vI 0, vI 0, vJ j3, vJ j4] [] S Q Z)) : q_r 51 33 [vR 36, vI a1, vJ j2, vJ j3, vJ j4] [] S Q Z := q_blk 7 h
-- LMModel.findAhead
theorem b_51_41 {Q : q_Q} {Z : q_Z} {a1 a2 : Int} {j3 j4 : q_J} {S : q_S} (h : (a2 ≥ (S 36 17) →
    q_r 51 33 [vR 36, vI a1, vI a2, vJ j3, vJ j4] [] S Q Z) ∧
  (¬ a2 ≥ (S 36 17) →
    q_r 51 51 [vR 36, vI a1, vI a2, vI 0, vJ j4] [] S Q Z)) : q_r 51 41 [vR 36, vI a1, vI a2, vJ j3, vJ j4] [] S Q Z := q_blk 7 h
-- LMModel.findAhead
theorem b_51_51 {Q : q_Q} {Z : q_Z} {a1 a2 a3 : Int} {j4 : q_J} {S : q_S} (h : (a3 ≥ 128 →
    q_rg (a2 + 1) ∧
    q_r 51 41 [vR 36, vI a1, vI (a2 + 1), vI a3, vJ j4] [] S Q Z) ∧
  (¬ a3 ≥ 128 →
    q_c 50 [vR 36, vI a2, vI a3] S (fun r2 S1 =>
      (a1 ≠ 0 →
        q_rg (a3 + 1) ∧
        q_r 51 51 [vR 36, vI 1, vI a2, vI (a3 + 1), vI r2] [] S1 Q Z) ∧
      (¬ a1 ≠ 0 →
        (r2 = 0 →
          q_rg (a3 + 1) ∧
          q_r 51 51 [vR 36, vI 0, vI a2, vI (a3 + 1), vI r2] [] S1 Q Z) ∧
        (¬ r2 = 0 →
          q_rg (a3 + 1) ∧
          q_r 51 51 [vR 36, vI 1, vI a2, vI (a3 + 1), vI r2] [] S1 Q Z))) Z)) : q_r 51 51 [vR 36, vI a1, vI a2, vI a3, vJ j4] [] S Q Z := q_blk 28 h
-- LMModel.standsBehind
set_option maxRecDepth 20000 in
theorem b_52_0 {Q : q_Q} {Z : q_Z} {a1 a2 a3 : Int} {S : q_S} (h : q_rg (128 * a1) ∧
  q_rg (8 * a2) ∧
  q_rg ((128 * a1) + (8 * a2)) ∧
  0 ≤ a2 ∧ a2 < 16 ∧
  q_rg (((128 * a1) + (8 * a2)) + (S 39 a2)) ∧
  0 ≤ (((128 * a1) + (8 * a2)) + (S 39 a2)) ∧ (((128 * a1) + (8 * a2)) + (S 39 a2)) < 5120 ∧
  ((S 48 (((128 * a1) + (8 * a2)) + (S 39 a2))) ≠ 0 →
    (a2 ≠ 0 →
      (a3 ≠ 0 →
        (a3 ≠ 1 →
          q_rg (128 * a1) ∧
          q_rg (8 * a2) ∧
          q_rg ((128 * a1) + (8 * a2)) ∧
          0 ≤ a2 ∧ a2 < 16 ∧
          q_rg (((128 * a1) + (8 * a2)) + (S 39 a2)) ∧
          0 ≤ (((128 * a1) + (8 * a2)) + (S 39 a2)) ∧ (((128 * a1) + (8 * a2)) + (S 39 a2)) < 5120 ∧
          Q (S 49 (((128 * a1) + (8 * a2)) + (S 39 a2))) S) ∧
        (¬ a3 ≠ 1 →
          0 ≤ a2 ∧ a2 < 16 ∧
          0 ≤ (S 38 a2) ∧ (S 38 a2) < 8 ∧
          Q (S 47 (S 38 a2)) S)) ∧
      (¬ a3 ≠ 0 →
        Q 511 S)) ∧
    (¬ a2 ≠ 0 →
      Q 256 S)) ∧
  (¬ (S 48 (((128 * a1) + (8 * a2)) + (S 39 a2))) ≠ 0 →
    Q 0 S)) : q_c 52 [vR 36, vI a1, vI a2, vI a3] S Q Z := q_blk 56 h
-- LMModel.reduces
theorem b_53_0 {Q : q_Q} {Z : q_Z} {a1 a2 a3 : Int} {S : q_S} (h : q_r 53 6 [vR 36, vI a1, vI a2, vI a3, vI 0, vI 0] [] S Q Z) : q_c 53 [vR 36, vI a1, vI a2, vI a3] S Q Z := q_blk 4 h
-- LMModel.reduces
theorem b_53_6 {Q : q_Q} {Z : q_Z} {a1 a2 a3 a4 a5 : Int} {S : q_S} (h : (a5 > (S 36 5) →
    Q a4 S) ∧
  (¬ a5 > (S 36 5) →
    q_c 52 [vR 36, vI a1, vI a5, vI a3] S (fun r2 S1 =>
      q_rg (a4 + (q_and (q_shr r2 a2) 1)) ∧
      q_rg (a5 + 1) ∧
      q_r 53 6 [vR 36, vI a1, vI a2, vI a3, vI (a4 + (q_and (q_shr r2 a2) 1)), vI (a5 + 1)] [] S1 Q Z) Z)) : q_r 53 6 [vR 36, vI a1, vI a2, vI a3, vI a4, vI a5] [] S Q Z := q_blk 20 h
-- LMModel.shiftTo
theorem b_54_0 {Q : q_Q} {Z : q_Z} {a1 a2 : Int} {S : q_S} (h : (a2 ≠ 8 →
    q_rg (16 * a1) ∧
    q_rg ((16 * a1) + 8) ∧
    q_rg (((16 * a1) + 8) + a2) ∧
    0 ≤ (((16 * a1) + 8) + a2) ∧ (((16 * a1) + 8) + a2) < 640 ∧
    Q (S 50 (((16 * a1) + 8) + a2)) S) ∧
  (¬ a2 ≠ 8 →
    Q (-1) S)) : q_c 54 [vR 36, vI a1, vI a2] S Q Z := q_blk 17 h
-- LMModel.least
theorem b_55_0 {Q : q_Q} {Z : q_Z} {a1 a2 : Int} {S : q_S} (h : q_r 55 8 [vR 36, vI a1, vI a2, vI (-1), vI (S 36 5)] [] S Q Z) : q_c 55 [vR 36, vI a1, vI a2] S Q Z := q_blk 5 h
-- LMModel.least
theorem b_55_8 {Q : q_Q} {Z : q_Z} {a1 a2 a3 a4 : Int} {S : q_S} (h : (a4 < 0 →
    Q a3 S) ∧
  (¬ a4 < 0 →
    q_c 52 [vR 36, vI a1, vI a4, vI 2] S (fun r2 S1 =>
      ((q_and (q_shr r2 a2) 1) ≠ 1 →
        q_rg (a4 + (-1)) ∧
        q_r 55 8 [vR 36, vI a1, vI a2, vI a3, vI (a4 + (-1))] [] S1 Q Z) ∧
      (¬ (q_and (q_shr r2 a2) 1) ≠ 1 →
        q_rg (a4 + (-1)) ∧
        q_r 55 8 [vR 36, vI a1, vI a2, vI a4, vI (a4 + (-1))] [] S1 Q Z)) Z)) : q_r 55 8 [vR 36, vI a1, vI a2, vI a3, vI a4] [] S Q Z := q_blk 24 h
-- LMModel.levelOf
theorem b_56_0 {Q : q_Q} {Z : q_Z} {a1 : Int} {S : q_S} (h : q_r 56 4 [vR 36, vI a1, vI 0, vI 0] [] S Q Z) : q_c 56 [vR 36, vI a1] S Q Z := q_blk 4 h
-- LMModel.levelOf
theorem b_56_4 {Q : q_Q} {Z : q_Z} {a1 a2 a3 : Int} {S : q_S} (h : 0 ≤ a1 ∧ a1 < 16 ∧
  (a3 ≥ (S 39 a1) →
    Q a2 S) ∧
  (¬ a3 ≥ (S 39 a1) →
    q_rg (4 * a1) ∧
    q_rg ((4 * a1) + a3) ∧
    0 ≤ ((4 * a1) + a3) ∧ ((4 * a1) + a3) < 64 ∧
    ((S 40 ((4 * a1) + a3)) ≤ 7 →
      q_rg (a3 + 1) ∧
      q_r 56 4 [vR 36, vI a1, vI a2, vI (a3 + 1)] [] S Q Z) ∧
    (¬ (S 40 ((4 * a1) + a3)) ≤ 7 →
      q_rg (4 * a1) ∧
      q_rg ((4 * a1) + a3) ∧
      0 ≤ ((4 * a1) + a3) ∧ ((4 * a1) + a3) < 64 ∧
      q_rg ((S 40 ((4 * a1) + a3)) - 8) ∧
      0 ≤ ((S 40 ((4 * a1) + a3)) - 8) ∧ ((S 40 ((4 * a1) + a3)) - 8) < 8 ∧
      q_rg (a3 + 1) ∧
      q_r 56 4 [vR 36, vI a1, vI (S 52 ((S 40 ((4 * a1) + a3)) - 8)), vI (a3 + 1)] [] S Q Z))) : q_r 56 4 [vR 36, vI a1, vI a2, vI a3] [] S Q Z := q_blk 39 h
-- LMModel.actionOf
set_option maxRecDepth 20000 in
theorem b_57_0 {Q : q_Q} {Z : q_Z} {a1 a2 : Int} {S : q_S} (h : q_c 54 [vR 36, vI a1, vI a2] S (fun r2 S1 =>
    q_c 55 [vR 36, vI a1, vI a2] S1 (fun r4 S3 =>
      (r4 ≥ 0 →
        (r4 ≠ 0 →
          (r2 ≥ 0 →
            q_c 56 [vR 36, vI r4] S3 (fun r6 S5 =>
              (r6 = 0 →
                q_rg (20 + r2) ∧
                Q (20 + r2) S5) ∧
              (¬ r6 = 0 →
                0 ≤ a2 ∧ a2 < 8 ∧
                ((S5 52 a2) = 0 →
                  q_rg (20 + r2) ∧
                  Q (20 + r2) S5) ∧
                (¬ (S5 52 a2) = 0 →
                  0 ≤ a2 ∧ a2 < 8 ∧
                  (r6 ≥ (S5 52 a2) →
                    0 ≤ a2 ∧ a2 < 8 ∧
                    (r6 ≤ (S5 52 a2) →
                      0 ≤ a2 ∧ a2 < 8 ∧
                      ((S5 53 a2) ≠ 0 →
                        0 ≤ a2 ∧ a2 < 8 ∧
                        ((S5 53 a2) ≠ 1 →
                          Q 0 S5) ∧
                        (¬ (S5 53 a2) ≠ 1 →
                          q_rg (20 + r2) ∧
                          Q (20 + r2) S5)) ∧
                      (¬ (S5 53 a2) ≠ 0 →
                        Q r4 S5)) ∧
                    (¬ r6 ≤ (S5 52 a2) →
                      Q r4 S5)) ∧
                  (¬ r6 ≥ (S5 52 a2) →
                    q_rg (20 + r2) ∧
                    Q (20 + r2) S5)))) Z) ∧
          (¬ r2 ≥ 0 →
            Q r4 S3)) ∧
        (¬ r4 ≠ 0 →
          (r2 ≥ 0 →
            q_c 56 [vR 36, vI r4] S3 (fun r8 S7 =>
              (r8 = 0 →
                q_rg (20 + r2) ∧
                Q (20 + r2) S7) ∧
              (¬ r8 = 0 →
                0 ≤ a2 ∧ a2 < 8 ∧
                ((S7 52 a2) = 0 →
                  q_rg (20 + r2) ∧
                  Q (20 + r2) S7) ∧
                (¬ (S7 52 a2) = 0 →
                  0 ≤ a2 ∧ a2 < 8 ∧
                  (r8 ≥ (S7 52 a2) →
                    0 ≤ a2 ∧ a2 < 8 ∧
                    (r8 ≤ (S7 52 a2) →
                      0 ≤ a2 ∧ a2 < 8 ∧
                      ((S7 53 a2) ≠ 0 →
                        0 ≤ a2 ∧ a2 < 8 ∧
                        ((S7 53 a2) ≠ 1 →
                          Q 0 S7) ∧
                        (¬ (S7 53 a2) ≠ 1 →
                          q_rg (20 + r2) ∧
                          Q (20 + r2) S7)) ∧
                      (¬ (S7 53 a2) ≠ 0 →
                        Q 16 S7)) ∧
                    (¬ r8 ≤ (S7 52 a2) →
                      Q 16 S7)) ∧
                  (¬ r8 ≥ (S7 52 a2) →
                    q_rg (20 + r2) ∧
                    Q (20 + r2) S7)))) Z) ∧
          (¬ r2 ≥ 0 →
            Q 16 S3))) ∧
      (¬ r4 ≥ 0 →
        (r2 ≥ 0 →
          q_rg (20 + r2) ∧
          Q (20 + r2) S3) ∧
        (¬ r2 ≥ 0 →
          Q 0 S3))) Z) Z) : q_c 57 [vR 36, vI a1, vI a2] S Q Z := q_blk 152 h
-- LMModel.isUnsettled
set_option maxRecDepth 20000 in
theorem b_58_0 {Q : q_Q} {Z : q_Z} {a1 a2 : Int} {S : q_S} (h : q_c 53 [vR 36, vI a1, vI a2, vI 2] S (fun r2 S1 =>
    (r2 = 1 →
      q_c 54 [vR 36, vI a1, vI a2] S1 (fun r4 S3 =>
        (r4 < 0 →
          q_bo 0 ∧ Q 0 S3) ∧
        (¬ r4 < 0 →
          0 ≤ a2 ∧ a2 < 8 ∧
          ((S3 52 a2) = 0 →
            q_bo 1 ∧ Q 1 S3) ∧
          (¬ (S3 52 a2) = 0 →
            q_c 55 [vR 36, vI a1, vI a2] S3 (fun r6 S5 =>
              q_c 56 [vR 36, vI r6] S5 (fun r8 S7 =>
                (r8 ≠ 0 →
                  q_bo 0 ∧ Q 0 S7) ∧
                (¬ r8 ≠ 0 →
                  q_bo 1 ∧ Q 1 S7)) Z) Z))) Z) ∧
    (¬ r2 = 1 →
      (r2 ≤ 1 →
        q_bo 0 ∧ Q 0 S1) ∧
      (¬ r2 ≤ 1 →
        q_bo 1 ∧ Q 1 S1))) Z) : q_c 58 [vR 36, vI a1, vI a2] S Q Z := q_blk 44 h
-- LMModel.kind
theorem b_59_0 {Q : q_Q} {Z : q_Z} {S : q_S} (h : q_r 59 2 [vR 36, vI 0, vU, vU, vU] [] S Q Z) : q_c 59 [vR 36] S Q Z := q_blk 2 h
-- LMModel.kind
theorem b_59_2 {Q : q_Q} {Z : q_Z} {a1 : Int} {j2 j3 j4 : q_J} {S : q_S} (h : (a1 ≥ 3 →
    Q 3 S) ∧
  (¬ a1 ≥ 3 →
    q_r 59 11 [vR 36, vI a1, vI 1, vI 0, vJ j4] [] S Q Z)) : q_r 59 2 [vR 36, vI a1, vJ j2, vJ j3, vJ j4] [] S Q Z := q_blk 9 h
-- LMModel.kind
set_option maxRecDepth 20000 in
theorem b_59_11 {Q : q_Q} {Z : q_Z} {a1 a2 a3 : Int} {j4 : q_J} {S : q_S} (h : q_rg (9 * (S 36 17)) ∧
  (a3 ≥ (9 * (S 36 17)) →
    (a2 = 0 →
      q_rg (a1 + 1) ∧
      q_r 59 2 [vR 36, vI (a1 + 1), vI a2, vI a3, vJ j4] [] S Q Z) ∧
    (¬ a2 = 0 →
      Q a1 S)) ∧
  (¬ a3 ≥ (9 * (S 36 17)) →
    0 ≤ a3 ∧ (0 : Int) < 9 ∧
    0 ≤ a3 ∧ (0 : Int) < 9 ∧
    q_c 53 [vR 36, vI (a3 / 9), vI (a3 % 9), vI a1] S (fun r2 S1 =>
      0 ≤ a3 ∧ (0 : Int) < 9 ∧
      0 ≤ a3 ∧ (0 : Int) < 9 ∧
      q_c 54 [vR 36, vI (a3 / 9), vI (a3 % 9)] S1 (fun r4 S3 =>
        (r4 < 0 →
          q_rg (r2 + 0) ∧
          (a2 = 0 →
            q_rg (a3 + 1) ∧
            q_r 59 11 [vR 36, vI a1, vI 0, vI (a3 + 1), vI (r2 + 0)] [] S3 Q Z) ∧
          (¬ a2 = 0 →
            ((r2 + 0) ≥ 2 →
              q_rg (a3 + 1) ∧
              q_r 59 11 [vR 36, vI a1, vI 0, vI (a3 + 1), vI (r2 + 0)] [] S3 Q Z) ∧
            (¬ (r2 + 0) ≥ 2 →
              q_rg (a3 + 1) ∧
              q_r 59 11 [vR 36, vI a1, vI 1, vI (a3 + 1), vI (r2 + 0)] [] S3 Q Z))) ∧
        (¬ r4 < 0 →
          q_rg (r2 + 1) ∧
          (a2 = 0 →
            q_rg (a3 + 1) ∧
            q_r 59 11 [vR 36, vI a1, vI 0, vI (a3 + 1), vI (r2 + 1)] [] S3 Q Z) ∧
          (¬ a2 = 0 →
            ((r2 + 1) ≥ 2 →
              q_rg (a3 + 1) ∧
              q_r 59 11 [vR 36, vI a1, vI 0, vI (a3 + 1), vI (r2 + 1)] [] S3 Q Z) ∧
            (¬ (r2 + 1) ≥ 2 →
              q_rg (a3 + 1) ∧
              q_r 59 11 [vR 36, vI a1, vI 1, vI (a3 + 1), vI (r2 + 1)] [] S3 Q Z)))) Z) Z)) : q_r 59 11 [vR 36, vI a1, vI a2, vI a3, vJ j4] [] S Q Z := q_blk 73 h
-- LMModel.cell
theorem b_60_0 {Q : q_Q} {Z : q_Z} {a1 : Int} {S : q_S} (h : q_r 60 4 [vR 36, vI a1, vI 0, vI 0] [] S Q Z) : q_c 60 [vR 36, vI a1] S Q Z := q_blk 4 h
-- LMModel.cell
set_option maxRecDepth 20000 in
theorem b_60_4 {Q : q_Q} {Z : q_Z} {a1 a2 a3 : Int} {S : q_S} (h : q_rg (9 * (S 36 17)) ∧
  (a3 ≥ (9 * (S 36 17)) →
    (a1 ≠ (-1) →
      Q (-1) S) ∧
    (¬ a1 ≠ (-1) →
      Q a2 S)) ∧
  (¬ a3 ≥ (9 * (S 36 17)) →
    0 ≤ a3 ∧ (0 : Int) < 9 ∧
    0 ≤ a3 ∧ (0 : Int) < 9 ∧
    q_c 58 [vR 36, vI (a3 / 9), vI (a3 % 9)] S (fun r2 S1 =>
      (r2 = 0 →
        q_rg (a3 + 1) ∧
        q_r 60 4 [vR 36, vI a1, vI a2, vI (a3 + 1)] [] S1 Q Z) ∧
      (¬ r2 = 0 →
        (a2 ≠ a1 →
          q_rg (a2 + 1) ∧
          q_rg (a3 + 1) ∧
          q_r 60 4 [vR 36, vI a1, vI (a2 + 1), vI (a3 + 1)] [] S1 Q Z) ∧
        (¬ a2 ≠ a1 →
          0 ≤ a3 ∧ (0 : Int) < 9 ∧
          q_rg (16 * (a3 / 9)) ∧
          0 ≤ a3 ∧ (0 : Int) < 9 ∧
          q_rg ((16 * (a3 / 9)) + (a3 % 9)) ∧
          Q ((16 * (a3 / 9)) + (a3 % 9)) S1))) Z)) : q_r 60 4 [vR 36, vI a1, vI a2, vI a3] [] S Q Z := q_blk 41 h
-- LMModel.bind
set_option maxRecDepth 20000 in
theorem b_61_0 {Q : q_Q} {Z : q_Z} {a1 a2 a3 : Int} {S : q_S} (h : (a1 < 97 →
    ((1 : Int) ≠ 0 →
      Q 0 (q_up S 36 0 1)) ∧
    (¬ (1 : Int) ≠ 0 →
      q_rg (a1 - 97) ∧
      0 ≤ (a1 - 97) ∧ (a1 - 97) < 8 ∧
      q_rg (a1 - 97) ∧
      0 ≤ (a1 - 97) ∧ (a1 - 97) < 8 ∧
      q_bo 0 ∧
      Q 0 (q_up (q_up (q_up (q_up S 36 0 1) 52 (a1 - 97) a2) 53 (a1 - 97) a3) 36 24 0))) ∧
  (¬ a1 < 97 →
    (a1 > 104 →
      ((1 : Int) ≠ 0 →
        Q 0 (q_up S 36 0 1)) ∧
      (¬ (1 : Int) ≠ 0 →
        q_rg (a1 - 97) ∧
        0 ≤ (a1 - 97) ∧ (a1 - 97) < 8 ∧
        q_rg (a1 - 97) ∧
        0 ≤ (a1 - 97) ∧ (a1 - 97) < 8 ∧
        q_bo 0 ∧
        Q 0 (q_up (q_up (q_up (q_up S 36 0 1) 52 (a1 - 97) a2) 53 (a1 - 97) a3) 36 24 0))) ∧
    (¬ a1 > 104 →
      (a2 < 0 →
        ((1 : Int) ≠ 0 →
          Q 0 (q_up S 36 0 1)) ∧
        (¬ (1 : Int) ≠ 0 →
          q_rg (a1 - 97) ∧
          0 ≤ (a1 - 97) ∧ (a1 - 97) < 8 ∧
          q_rg (a1 - 97) ∧
          0 ≤ (a1 - 97) ∧ (a1 - 97) < 8 ∧
          q_bo 0 ∧
          Q 0 (q_up (q_up (q_up (q_up S 36 0 1) 52 (a1 - 97) a2) 53 (a1 - 97) a3) 36 24 0))) ∧
      (¬ a2 < 0 →
        (a2 > 9 →
          ((1 : Int) ≠ 0 →
            Q 0 (q_up S 36 0 1)) ∧
          (¬ (1 : Int) ≠ 0 →
            q_rg (a1 - 97) ∧
            0 ≤ (a1 - 97) ∧ (a1 - 97) < 8 ∧
            q_rg (a1 - 97) ∧
            0 ≤ (a1 - 97) ∧ (a1 - 97) < 8 ∧
            q_bo 0 ∧
            Q 0 (q_up (q_up (q_up (q_up S 36 0 1) 52 (a1 - 97) a2) 53 (a1 - 97) a3) 36 24 0))) ∧
        (¬ a2 > 9 →
          (a3 < 0 →
            ((1 : Int) ≠ 0 →
              Q 0 (q_up S 36 0 1)) ∧
            (¬ (1 : Int) ≠ 0 →
              q_rg (a1 - 97) ∧
              0 ≤ (a1 - 97) ∧ (a1 - 97) < 8 ∧
              q_rg (a1 - 97) ∧
              0 ≤ (a1 - 97) ∧ (a1 - 97) < 8 ∧
              q_bo 0 ∧
              Q 0 (q_up (q_up (q_up (q_up S 36 0 1) 52 (a1 - 97) a2) 53 (a1 - 97) a3) 36 24 0))) ∧
          (¬ a3 < 0 →
            (a3 ≤ 2 →
              ((0 : Int) ≠ 0 →
                Q 0 (q_up S 36 0 0)) ∧
              (¬ (0 : Int) ≠ 0 →
                q_rg (a1 - 97) ∧
                0 ≤ (a1 - 97) ∧ (a1 - 97) < 8 ∧
                q_rg (a1 - 97) ∧
                0 ≤ (a1 - 97) ∧ (a1 - 97) < 8 ∧
                q_bo 0 ∧
                Q 0 (q_up (q_up (q_up (q_up S 36 0 0) 52 (a1 - 97) a2) 53 (a1 - 97) a3) 36 24 0))) ∧
            (¬ a3 ≤ 2 →
              ((1 : Int) ≠ 0 →
                Q 0 (q_up S 36 0 1)) ∧
              (¬ (1 : Int) ≠ 0 →
                q_rg (a1 - 97) ∧
                0 ≤ (a1 - 97) ∧ (a1 - 97) < 8 ∧
                q_rg (a1 - 97) ∧
                0 ≤ (a1 - 97) ∧ (a1 - 97) < 8 ∧
                q_bo 0 ∧
                Q 0 (q_up (q_up (q_up (q_up S 36 0 1) 52 (a1 - 97) a2) 53 (a1 - 97) a3) 36 24 0))))))))) : q_c 61 [vR 36, vI a1, vI a2, vI a3] S Q Z := q_blk 191 h
-- LMModel.number
set_option maxRecDepth 20000 in
theorem b_62_0 {Q : q_Q} {Z : q_Z} {a1 : Int} {S : q_S} (h : ((S 36 4) ≠ 0 →
    (a1 < 0 →
      ((2 : Int) = 0 →
        (a1 ≠ 0 →
          (a1 ≠ 1 →
            (a1 ≠ 2 →
              q_c 60 [vR 36, vI (-1)] (q_up S 36 0 2) (fun r2 S1 =>
                Q r2 S1) Z) ∧
            (¬ a1 ≠ 2 →
              q_c 59 [vR 36] (q_up S 36 0 2) (fun r4 S3 =>
                Q r4 S3) Z)) ∧
          (¬ a1 ≠ 1 →
            Q (S 36 17) (q_up S 36 0 2))) ∧
        (¬ a1 ≠ 0 →
          Q (S 36 5) (q_up S 36 0 2))) ∧
      (¬ (2 : Int) = 0 →
        Q 0 (q_up S 36 0 2))) ∧
    (¬ a1 < 0 →
      (a1 ≤ 3 →
        ((0 : Int) = 0 →
          (a1 ≠ 0 →
            (a1 ≠ 1 →
              (a1 ≠ 2 →
                q_c 60 [vR 36, vI (-1)] (q_up S 36 0 0) (fun r6 S5 =>
                  Q r6 S5) Z) ∧
              (¬ a1 ≠ 2 →
                q_c 59 [vR 36] (q_up S 36 0 0) (fun r8 S7 =>
                  Q r8 S7) Z)) ∧
            (¬ a1 ≠ 1 →
              Q (S 36 17) (q_up S 36 0 0))) ∧
          (¬ a1 ≠ 0 →
            Q (S 36 5) (q_up S 36 0 0))) ∧
        (¬ (0 : Int) = 0 →
          Q 0 (q_up S 36 0 0))) ∧
      (¬ a1 ≤ 3 →
        ((2 : Int) = 0 →
          (a1 ≠ 0 →
            (a1 ≠ 1 →
              (a1 ≠ 2 →
                q_c 60 [vR 36, vI (-1)] (q_up S 36 0 2) (fun r10 S9 =>
                  Q r10 S9) Z) ∧
              (¬ a1 ≠ 2 →
                q_c 59 [vR 36] (q_up S 36 0 2) (fun r12 S11 =>
                  Q r12 S11) Z)) ∧
            (¬ a1 ≠ 1 →
              Q (S 36 17) (q_up S 36 0 2))) ∧
          (¬ a1 ≠ 0 →
            Q (S 36 5) (q_up S 36 0 2))) ∧
        (¬ (2 : Int) = 0 →
          Q 0 (q_up S 36 0 2))))) ∧
  (¬ (S 36 4) ≠ 0 →
    ((1 : Int) = 0 →
      (a1 ≠ 0 →
        (a1 ≠ 1 →
          (a1 ≠ 2 →
            q_c 60 [vR 36, vI (-1)] (q_up S 36 0 1) (fun r14 S13 =>
              Q r14 S13) Z) ∧
          (¬ a1 ≠ 2 →
            q_c 59 [vR 36] (q_up S 36 0 1) (fun r16 S15 =>
              Q r16 S15) Z)) ∧
        (¬ a1 ≠ 1 →
          Q (S 36 17) (q_up S 36 0 1))) ∧
      (¬ a1 ≠ 0 →
        Q (S 36 5) (q_up S 36 0 1))) ∧
    (¬ (1 : Int) = 0 →
      Q 0 (q_up S 36 0 1)))) : q_c 62 [vR 36, vI a1] S Q Z := q_blk 136 h
-- LMModel.noProduction
theorem b_63_0 {Q : q_Q} {Z : q_Z} {a1 : Int} {S : q_S} (h : (a1 < 0 →
    q_bo 1 ∧ Q 1 S) ∧
  (¬ a1 < 0 →
    (a1 ≤ (S 36 5) →
      q_bo 0 ∧ Q 0 S) ∧
    (¬ a1 ≤ (S 36 5) →
      q_bo 1 ∧ Q 1 S))) : q_c 63 [vR 36, vI a1] S Q Z := q_blk 14 h
-- LMModel.noState
theorem b_64_0 {Q : q_Q} {Z : q_Z} {a1 : Int} {S : q_S} (h : (a1 < 0 →
    q_bo 1 ∧ Q 1 S) ∧
  (¬ a1 < 0 →
    (a1 < (S 36 17) →
      q_bo 0 ∧ Q 0 S) ∧
    (¬ a1 < (S 36 17) →
      q_bo 1 ∧ Q 1 S))) : q_c 64 [vR 36, vI a1] S Q Z := q_blk 14 h
-- LMModel.symbol
set_option maxRecDepth 20000 in
theorem b_65_0 {Q : q_Q} {Z : q_Z} {a1 a2 : Int} {S : q_S} (h : ((S 36 4) ≠ 0 →
    q_c 63 [vR 36, vI a1] S (fun r2 S1 =>
      (r2 ≠ 0 →
        ((2 : Int) = 0 →
          (a2 < 0 →
            (a1 ≠ 0 →
              0 ≤ a1 ∧ a1 < 16 ∧
              q_c 30 [vI (S1 38 a1)] (q_up S1 36 0 2) (fun r4 S3 =>
                Q r4 S3) Z) ∧
            (¬ a1 ≠ 0 →
              Q 0 (q_up S1 36 0 2))) ∧
          (¬ a2 < 0 →
            q_rg (4 * a1) ∧
            q_rg ((4 * a1) + a2) ∧
            0 ≤ ((4 * a1) + a2) ∧ ((4 * a1) + a2) < 64 ∧
            q_c 30 [vI (S1 40 ((4 * a1) + a2))] (q_up S1 36 0 2) (fun r6 S5 =>
              Q r6 S5) Z)) ∧
        (¬ (2 : Int) = 0 →
          Q 0 (q_up S1 36 0 2))) ∧
      (¬ r2 ≠ 0 →
        (a2 < (-1) →
          ((2 : Int) = 0 →
            (a2 < 0 →
              (a1 ≠ 0 →
                0 ≤ a1 ∧ a1 < 16 ∧
                q_c 30 [vI (S1 38 a1)] (q_up S1 36 0 2) (fun r8 S7 =>
                  Q r8 S7) Z) ∧
              (¬ a1 ≠ 0 →
                Q 0 (q_up S1 36 0 2))) ∧
            (¬ a2 < 0 →
              q_rg (4 * a1) ∧
              q_rg ((4 * a1) + a2) ∧
              0 ≤ ((4 * a1) + a2) ∧ ((4 * a1) + a2) < 64 ∧
              q_c 30 [vI (S1 40 ((4 * a1) + a2))] (q_up S1 36 0 2) (fun r10 S9 =>
                Q r10 S9) Z)) ∧
          (¬ (2 : Int) = 0 →
            Q 0 (q_up S1 36 0 2))) ∧
        (¬ a2 < (-1) →
          0 ≤ a1 ∧ a1 < 16 ∧
          (a2 < (S1 39 a1) →
            ((0 : Int) = 0 →
              (a2 < 0 →
                (a1 ≠ 0 →
                  0 ≤ a1 ∧ a1 < 16 ∧
                  q_c 30 [vI (S1 38 a1)] (q_up S1 36 0 0) (fun r12 S11 =>
                    Q r12 S11) Z) ∧
                (¬ a1 ≠ 0 →
                  Q 0 (q_up S1 36 0 0))) ∧
              (¬ a2 < 0 →
                q_rg (4 * a1) ∧
                q_rg ((4 * a1) + a2) ∧
                0 ≤ ((4 * a1) + a2) ∧ ((4 * a1) + a2) < 64 ∧
                q_c 30 [vI (S1 40 ((4 * a1) + a2))] (q_up S1 36 0 0) (fun r14 S13 =>
                  Q r14 S13) Z)) ∧
            (¬ (0 : Int) = 0 →
              Q 0 (q_up S1 36 0 0))) ∧
          (¬ a2 < (S1 39 a1) →
            ((2 : Int) = 0 →
              (a2 < 0 →
                (a1 ≠ 0 →
                  0 ≤ a1 ∧ a1 < 16 ∧
                  q_c 30 [vI (S1 38 a1)] (q_up S1 36 0 2) (fun r16 S15 =>
                    Q r16 S15) Z) ∧
                (¬ a1 ≠ 0 →
                  Q 0 (q_up S1 36 0 2))) ∧
              (¬ a2 < 0 →
                q_rg (4 * a1) ∧
                q_rg ((4 * a1) + a2) ∧
                0 ≤ ((4 * a1) + a2) ∧ ((4 * a1) + a2) < 64 ∧
                q_c 30 [vI (S1 40 ((4 * a1) + a2))] (q_up S1 36 0 2) (fun r18 S17 =>
                  Q r18 S17) Z)) ∧
            (¬ (2 : Int) = 0 →
              Q 0 (q_up S1 36 0 2)))))) Z) ∧
  (¬ (S 36 4) ≠ 0 →
    ((1 : Int) = 0 →
      (a2 < 0 →
        (a1 ≠ 0 →
          0 ≤ a1 ∧ a1 < 16 ∧
          q_c 30 [vI (S 38 a1)] (q_up S 36 0 1) (fun r20 S19 =>
            Q r20 S19) Z) ∧
        (¬ a1 ≠ 0 →
          Q 0 (q_up S 36 0 1))) ∧
      (¬ a2 < 0 →
        q_rg (4 * a1) ∧
        q_rg ((4 * a1) + a2) ∧
        0 ≤ ((4 * a1) + a2) ∧ ((4 * a1) + a2) < 64 ∧
        q_c 30 [vI (S 40 ((4 * a1) + a2))] (q_up S 36 0 1) (fun r22 S21 =>
          Q r22 S21) Z)) ∧
    (¬ (1 : Int) = 0 →
      Q 0 (q_up S 36 0 1)))) : q_c 65 [vR 36, vI a1, vI a2] S Q Z := q_blk 176 h
-- LMModel.set
set_option maxRecDepth 20000 in
theorem b_66_0 {Q : q_Q} {Z : q_Z} {a1 a2 : Int} {S : q_S} (h : (a1 < 65 →
    ((S 36 4) ≠ 0 →
      ((1 : Int) ≠ 0 →
        ((2 : Int) = 0 →
          q_rg (a1 - 65) ∧
          (a2 ≠ 0 →
            (a2 ≠ 1 →
              0 ≤ (a1 - 65) ∧ (a1 - 65) < 8 ∧
              Q (S 47 (a1 - 65)) (q_up S 36 0 2)) ∧
            (¬ a2 ≠ 1 →
              0 ≤ (a1 - 65) ∧ (a1 - 65) < 8 ∧
              Q (S 46 (a1 - 65)) (q_up S 36 0 2))) ∧
          (¬ a2 ≠ 0 →
            0 ≤ (a1 - 65) ∧ (a1 - 65) < 8 ∧
            ((S 45 (a1 - 65)) = 0 →
              Q 0 (q_up S 36 0 2)) ∧
            (¬ (S 45 (a1 - 65)) = 0 →
              Q 1 (q_up S 36 0 2)))) ∧
        (¬ (2 : Int) = 0 →
          Q 0 (q_up S 36 0 2))) ∧
      (¬ (1 : Int) ≠ 0 →
        (a2 < 0 →
          ((2 : Int) = 0 →
            q_rg (a1 - 65) ∧
            (a2 ≠ 0 →
              (a2 ≠ 1 →
                0 ≤ (a1 - 65) ∧ (a1 - 65) < 8 ∧
                Q (S 47 (a1 - 65)) (q_up S 36 0 2)) ∧
              (¬ a2 ≠ 1 →
                0 ≤ (a1 - 65) ∧ (a1 - 65) < 8 ∧
                Q (S 46 (a1 - 65)) (q_up S 36 0 2))) ∧
            (¬ a2 ≠ 0 →
              0 ≤ (a1 - 65) ∧ (a1 - 65) < 8 ∧
              ((S 45 (a1 - 65)) = 0 →
                Q 0 (q_up S 36 0 2)) ∧
              (¬ (S 45 (a1 - 65)) = 0 →
                Q 1 (q_up S 36 0 2)))) ∧
          (¬ (2 : Int) = 0 →
            Q 0 (q_up S 36 0 2))) ∧
        (¬ a2 < 0 →
          (a2 ≤ 2 →
            ((0 : Int) = 0 →
              q_rg (a1 - 65) ∧
              (a2 ≠ 0 →
                (a2 ≠ 1 →
                  0 ≤ (a1 - 65) ∧ (a1 - 65) < 8 ∧
                  Q (S 47 (a1 - 65)) (q_up S 36 0 0)) ∧
                (¬ a2 ≠ 1 →
                  0 ≤ (a1 - 65) ∧ (a1 - 65) < 8 ∧
                  Q (S 46 (a1 - 65)) (q_up S 36 0 0))) ∧
              (¬ a2 ≠ 0 →
                0 ≤ (a1 - 65) ∧ (a1 - 65) < 8 ∧
                ((S 45 (a1 - 65)) = 0 →
                  Q 0 (q_up S 36 0 0)) ∧
                (¬ (S 45 (a1 - 65)) = 0 →
                  Q 1 (q_up S 36 0 0)))) ∧
            (¬ (0 : Int) = 0 →
              Q 0 (q_up S 36 0 0))) ∧
          (¬ a2 ≤ 2 →
            ((2 : Int) = 0 →
              q_rg (a1 - 65) ∧
              (a2 ≠ 0 →
                (a2 ≠ 1 →
                  0 ≤ (a1 - 65) ∧ (a1 - 65) < 8 ∧
                  Q (S 47 (a1 - 65)) (q_up S 36 0 2)) ∧
                (¬ a2 ≠ 1 →
                  0 ≤ (a1 - 65) ∧ (a1 - 65) < 8 ∧
                  Q (S 46 (a1 - 65)) (q_up S 36 0 2))) ∧
              (¬ a2 ≠ 0 →
                0 ≤ (a1 - 65) ∧ (a1 - 65) < 8 ∧
                ((S 45 (a1 - 65)) = 0 →
                  Q 0 (q_up S 36 0 2)) ∧
                (¬ (S 45 (a1 - 65)) = 0 →
                  Q 1 (q_up S 36 0 2)))) ∧
            (¬ (2 : Int) = 0 →
              Q 0 (q_up S 36 0 2)))))) ∧
    (¬ (S 36 4) ≠ 0 →
      ((1 : Int) = 0 →
        q_rg (a1 - 65) ∧
        (a2 ≠ 0 →
          (a2 ≠ 1 →
            0 ≤ (a1 - 65) ∧ (a1 - 65) < 8 ∧
            Q (S 47 (a1 - 65)) (q_up S 36 0 1)) ∧
          (¬ a2 ≠ 1 →
            0 ≤ (a1 - 65) ∧ (a1 - 65) < 8 ∧
            Q (S 46 (a1 - 65)) (q_up S 36 0 1))) ∧
        (¬ a2 ≠ 0 →
          0 ≤ (a1 - 65) ∧ (a1 - 65) < 8 ∧
          ((S 45 (a1 - 65)) = 0 →
            Q 0 (q_up S 36 0 1)) ∧
          (¬ (S 45 (a1 - 65)) = 0 →
            Q 1 (q_up S 36 0 1)))) ∧
      (¬ (1 : Int) = 0 →
        Q 0 (q_up S 36 0 1)))) ∧
  (¬ a1 < 65 →
    (a1 > 72 →
      ((S 36 4) ≠ 0 →
        ((1 : Int) ≠ 0 →
          ((2 : Int) = 0 →
            q_rg (a1 - 65) ∧
            (a2 ≠ 0 →
              (a2 ≠ 1 →
                0 ≤ (a1 - 65) ∧ (a1 - 65) < 8 ∧
                Q (S 47 (a1 - 65)) (q_up S 36 0 2)) ∧
              (¬ a2 ≠ 1 →
                0 ≤ (a1 - 65) ∧ (a1 - 65) < 8 ∧
                Q (S 46 (a1 - 65)) (q_up S 36 0 2))) ∧
            (¬ a2 ≠ 0 →
              0 ≤ (a1 - 65) ∧ (a1 - 65) < 8 ∧
              ((S 45 (a1 - 65)) = 0 →
                Q 0 (q_up S 36 0 2)) ∧
              (¬ (S 45 (a1 - 65)) = 0 →
                Q 1 (q_up S 36 0 2)))) ∧
          (¬ (2 : Int) = 0 →
            Q 0 (q_up S 36 0 2))) ∧
        (¬ (1 : Int) ≠ 0 →
          (a2 < 0 →
            ((2 : Int) = 0 →
              q_rg (a1 - 65) ∧
              (a2 ≠ 0 →
                (a2 ≠ 1 →
                  0 ≤ (a1 - 65) ∧ (a1 - 65) < 8 ∧
                  Q (S 47 (a1 - 65)) (q_up S 36 0 2)) ∧
                (¬ a2 ≠ 1 →
                  0 ≤ (a1 - 65) ∧ (a1 - 65) < 8 ∧
                  Q (S 46 (a1 - 65)) (q_up S 36 0 2))) ∧
              (¬ a2 ≠ 0 →
                0 ≤ (a1 - 65) ∧ (a1 - 65) < 8 ∧
                ((S 45 (a1 - 65)) = 0 →
                  Q 0 (q_up S 36 0 2)) ∧
                (¬ (S 45 (a1 - 65)) = 0 →
                  Q 1 (q_up S 36 0 2)))) ∧
            (¬ (2 : Int) = 0 →
              Q 0 (q_up S 36 0 2))) ∧
          (¬ a2 < 0 →
            (a2 ≤ 2 →
              ((0 : Int) = 0 →
                q_rg (a1 - 65) ∧
                (a2 ≠ 0 →
                  (a2 ≠ 1 →
                    0 ≤ (a1 - 65) ∧ (a1 - 65) < 8 ∧
                    Q (S 47 (a1 - 65)) (q_up S 36 0 0)) ∧
                  (¬ a2 ≠ 1 →
                    0 ≤ (a1 - 65) ∧ (a1 - 65) < 8 ∧
                    Q (S 46 (a1 - 65)) (q_up S 36 0 0))) ∧
                (¬ a2 ≠ 0 →
                  0 ≤ (a1 - 65) ∧ (a1 - 65) < 8 ∧
                  ((S 45 (a1 - 65)) = 0 →
                    Q 0 (q_up S 36 0 0)) ∧
                  (¬ (S 45 (a1 - 65)) = 0 →
                    Q 1 (q_up S 36 0 0)))) ∧
              (¬ (0 : Int) = 0 →
                Q 0 (q_up S 36 0 0))) ∧
            (¬ a2 ≤ 2 →
              ((2 : Int) = 0 →
                q_rg (a1 - 65) ∧
                (a2 ≠ 0 →
                  (a2 ≠ 1 →
                    0 ≤ (a1 - 65) ∧ (a1 - 65) < 8 ∧
                    Q (S 47 (a1 - 65)) (q_up S 36 0 2)) ∧
                  (¬ a2 ≠ 1 →
                    0 ≤ (a1 - 65) ∧ (a1 - 65) < 8 ∧
                    Q (S 46 (a1 - 65)) (q_up S 36 0 2))) ∧
                (¬ a2 ≠ 0 →
                  0 ≤ (a1 - 65) ∧ (a1 - 65) < 8 ∧
                  ((S 45 (a1 - 65)) = 0 →
                    Q 0 (q_up S 36 0 2)) ∧
                  (¬ (S 45 (a1 - 65)) = 0 →
                    Q 1 (q_up S 36 0 2)))) ∧
              (¬ (2 : Int) = 0 →
                Q 0 (q_up S 36 0 2)))))) ∧
      (¬ (S 36 4) ≠ 0 →
        ((1 : Int) = 0 →
          q_rg (a1 - 65) ∧
          (a2 ≠ 0 →
            (a2 ≠ 1 →
              0 ≤ (a1 - 65) ∧ (a1 - 65) < 8 ∧
              Q (S 47 (a1 - 65)) (q_up S 36 0 1)) ∧
            (¬ a2 ≠ 1 →
              0 ≤ (a1 - 65) ∧ (a1 - 65) < 8 ∧
              Q (S 46 (a1 - 65)) (q_up S 36 0 1))) ∧
          (¬ a2 ≠ 0 →
            0 ≤ (a1 - 65) ∧ (a1 - 65) < 8 ∧
            ((S 45 (a1 - 65)) = 0 →
              Q 0 (q_up S 36 0 1)) ∧
            (¬ (S 45 (a1 - 65)) = 0 →
              Q 1 (q_up S 36 0 1)))) ∧
        (¬ (1 : Int) = 0 →
          Q 0 (q_up S 36 0 1)))) ∧
    (¬ a1 > 72 →
      ((S 36 4) = 0 →
        ((S 36 4) ≠ 0 →
          ((0 : Int) ≠ 0 →
            ((2 : Int) = 0 →
              q_rg (a1 - 65) ∧
              (a2 ≠ 0 →
                (a2 ≠ 1 →
                  0 ≤ (a1 - 65) ∧ (a1 - 65) < 8 ∧
                  Q (S 47 (a1 - 65)) (q_up S 36 0 2)) ∧
                (¬ a2 ≠ 1 →
                  0 ≤ (a1 - 65) ∧ (a1 - 65) < 8 ∧
                  Q (S 46 (a1 - 65)) (q_up S 36 0 2))) ∧
              (¬ a2 ≠ 0 →
                0 ≤ (a1 - 65) ∧ (a1 - 65) < 8 ∧
                ((S 45 (a1 - 65)) = 0 →
                  Q 0 (q_up S 36 0 2)) ∧
                (¬ (S 45 (a1 - 65)) = 0 →
                  Q 1 (q_up S 36 0 2)))) ∧
            (¬ (2 : Int) = 0 →
              Q 0 (q_up S 36 0 2))) ∧
          (¬ (0 : Int) ≠ 0 →
            (a2 < 0 →
              ((2 : Int) = 0 →
                q_rg (a1 - 65) ∧
                (a2 ≠ 0 →
                  (a2 ≠ 1 →
                    0 ≤ (a1 - 65) ∧ (a1 - 65) < 8 ∧
                    Q (S 47 (a1 - 65)) (q_up S 36 0 2)) ∧
                  (¬ a2 ≠ 1 →
                    0 ≤ (a1 - 65) ∧ (a1 - 65) < 8 ∧
                    Q (S 46 (a1 - 65)) (q_up S 36 0 2))) ∧
                (¬ a2 ≠ 0 →
                  0 ≤ (a1 - 65) ∧ (a1 - 65) < 8 ∧
                  ((S 45 (a1 - 65)) = 0 →
                    Q 0 (q_up S 36 0 2)) ∧
                  (¬ (S 45 (a1 - 65)) = 0 →
                    Q 1 (q_up S 36 0 2)))) ∧
              (¬ (2 : Int) = 0 →
                Q 0 (q_up S 36 0 2))) ∧
            (¬ a2 < 0 →
              (a2 ≤ 2 →
                ((0 : Int) = 0 →
                  q_rg (a1 - 65) ∧
                  (a2 ≠ 0 →
                    (a2 ≠ 1 →
                      0 ≤ (a1 - 65) ∧ (a1 - 65) < 8 ∧
                      Q (S 47 (a1 - 65)) (q_up S 36 0 0)) ∧
                    (¬ a2 ≠ 1 →
                      0 ≤ (a1 - 65) ∧ (a1 - 65) < 8 ∧
                      Q (S 46 (a1 - 65)) (q_up S 36 0 0))) ∧
                  (¬ a2 ≠ 0 →
                    0 ≤ (a1 - 65) ∧ (a1 - 65) < 8 ∧
                    ((S 45 (a1 - 65)) = 0 →
                      Q 0 (q_up S 36 0 0)) ∧
                    (¬ (S 45 (a1 - 65)) = 0 →
                      Q 1 (q_up S 36 0 0)))) ∧
                (¬ (0 : Int) = 0 →
                  Q 0 (q_up S 36 0 0))) ∧
              (¬ a2 ≤ 2 →
                ((2 : Int) = 0 →
                  q_rg (a1 - 65) ∧
                  (a2 ≠ 0 →
                    (a2 ≠ 1 →
                      0 ≤ (a1 - 65) ∧ (a1 - 65) < 8 ∧
                      Q (S 47 (a1 - 65)) (q_up S 36 0 2)) ∧
                    (¬ a2 ≠ 1 →
                      0 ≤ (a1 - 65) ∧ (a1 - 65) < 8 ∧
                      Q (S 46 (a1 - 65)) (q_up S 36 0 2))) ∧
                  (¬ a2 ≠ 0 →
                    0 ≤ (a1 - 65) ∧ (a1 - 65) < 8 ∧
                    ((S 45 (a1 - 65)) = 0 →
                      Q 0 (q_up S 36 0 2)) ∧
                    (¬ (S 45 (a1 - 65)) = 0 →
                      Q 1 (q_up S 36 0 2)))) ∧
                (¬ (2 : Int) = 0 →
                  Q 0 (q_up S 36 0 2)))))) ∧
        (¬ (S 36 4) ≠ 0 →
          ((1 : Int) = 0 →
            q_rg (a1 - 65) ∧
            (a2 ≠ 0 →
              (a2 ≠ 1 →
                0 ≤ (a1 - 65) ∧ (a1 - 65) < 8 ∧
                Q (S 47 (a1 - 65)) (q_up S 36 0 1)) ∧
              (¬ a2 ≠ 1 →
                0 ≤ (a1 - 65) ∧ (a1 - 65) < 8 ∧
                Q (S 46 (a1 - 65)) (q_up S 36 0 1))) ∧
            (¬ a2 ≠ 0 →
              0 ≤ (a1 - 65) ∧ (a1 - 65) < 8 ∧
              ((S 45 (a1 - 65)) = 0 →
                Q 0 (q_up S 36 0 1)) ∧
              (¬ (S 45 (a1 - 65)) = 0 →
                Q 1 (q_up S 36 0 1)))) ∧
          (¬ (1 : Int) = 0 →
            Q 0 (q_up S 36 0 1)))) ∧
      (¬ (S 36 4) = 0 →
        q_rg (a1 - 65) ∧
        0 ≤ (a1 - 65) ∧ (a1 - 65) < 8 ∧
        ((S 43 (a1 - 65)) ≥ 0 →
          ((S 36 4) ≠ 0 →
            ((0 : Int) ≠ 0 →
              ((2 : Int) = 0 →
                q_rg (a1 - 65) ∧
                (a2 ≠ 0 →
                  (a2 ≠ 1 →
                    0 ≤ (a1 - 65) ∧ (a1 - 65) < 8 ∧
                    Q (S 47 (a1 - 65)) (q_up S 36 0 2)) ∧
                  (¬ a2 ≠ 1 →
                    0 ≤ (a1 - 65) ∧ (a1 - 65) < 8 ∧
                    Q (S 46 (a1 - 65)) (q_up S 36 0 2))) ∧
                (¬ a2 ≠ 0 →
                  0 ≤ (a1 - 65) ∧ (a1 - 65) < 8 ∧
                  ((S 45 (a1 - 65)) = 0 →
                    Q 0 (q_up S 36 0 2)) ∧
                  (¬ (S 45 (a1 - 65)) = 0 →
                    Q 1 (q_up S 36 0 2)))) ∧
              (¬ (2 : Int) = 0 →
                Q 0 (q_up S 36 0 2))) ∧
            (¬ (0 : Int) ≠ 0 →
              (a2 < 0 →
                ((2 : Int) = 0 →
                  q_rg (a1 - 65) ∧
                  (a2 ≠ 0 →
                    (a2 ≠ 1 →
                      0 ≤ (a1 - 65) ∧ (a1 - 65) < 8 ∧
                      Q (S 47 (a1 - 65)) (q_up S 36 0 2)) ∧
                    (¬ a2 ≠ 1 →
                      0 ≤ (a1 - 65) ∧ (a1 - 65) < 8 ∧
                      Q (S 46 (a1 - 65)) (q_up S 36 0 2))) ∧
                  (¬ a2 ≠ 0 →
                    0 ≤ (a1 - 65) ∧ (a1 - 65) < 8 ∧
                    ((S 45 (a1 - 65)) = 0 →
                      Q 0 (q_up S 36 0 2)) ∧
                    (¬ (S 45 (a1 - 65)) = 0 →
                      Q 1 (q_up S 36 0 2)))) ∧
                (¬ (2 : Int) = 0 →
                  Q 0 (q_up S 36 0 2))) ∧
              (¬ a2 < 0 →
                (a2 ≤ 2 →
                  ((0 : Int) = 0 →
                    q_rg (a1 - 65) ∧
                    (a2 ≠ 0 →
                      (a2 ≠ 1 →
                        0 ≤ (a1 - 65) ∧ (a1 - 65) < 8 ∧
                        Q (S 47 (a1 - 65)) (q_up S 36 0 0)) ∧
                      (¬ a2 ≠ 1 →
                        0 ≤ (a1 - 65) ∧ (a1 - 65) < 8 ∧
                        Q (S 46 (a1 - 65)) (q_up S 36 0 0))) ∧
                    (¬ a2 ≠ 0 →
                      0 ≤ (a1 - 65) ∧ (a1 - 65) < 8 ∧
                      ((S 45 (a1 - 65)) = 0 →
                        Q 0 (q_up S 36 0 0)) ∧
                      (¬ (S 45 (a1 - 65)) = 0 →
                        Q 1 (q_up S 36 0 0)))) ∧
                  (¬ (0 : Int) = 0 →
                    Q 0 (q_up S 36 0 0))) ∧
                (¬ a2 ≤ 2 →
                  ((2 : Int) = 0 →
                    q_rg (a1 - 65) ∧
                    (a2 ≠ 0 →
                      (a2 ≠ 1 →
                        0 ≤ (a1 - 65) ∧ (a1 - 65) < 8 ∧
                        Q (S 47 (a1 - 65)) (q_up S 36 0 2)) ∧
                      (¬ a2 ≠ 1 →
                        0 ≤ (a1 - 65) ∧ (a1 - 65) < 8 ∧
                        Q (S 46 (a1 - 65)) (q_up S 36 0 2))) ∧
                    (¬ a2 ≠ 0 →
                      0 ≤ (a1 - 65) ∧ (a1 - 65) < 8 ∧
                      ((S 45 (a1 - 65)) = 0 →
                        Q 0 (q_up S 36 0 2)) ∧
                      (¬ (S 45 (a1 - 65)) = 0 →
                        Q 1 (q_up S 36 0 2)))) ∧
                  (¬ (2 : Int) = 0 →
                    Q 0 (q_up S 36 0 2)))))) ∧
          (¬ (S 36 4) ≠ 0 →
            ((1 : Int) = 0 →
              q_rg (a1 - 65) ∧
              (a2 ≠ 0 →
                (a2 ≠ 1 →
                  0 ≤ (a1 - 65) ∧ (a1 - 65) < 8 ∧
                  Q (S 47 (a1 - 65)) (q_up S 36 0 1)) ∧
                (¬ a2 ≠ 1 →
                  0 ≤ (a1 - 65) ∧ (a1 - 65) < 8 ∧
                  Q (S 46 (a1 - 65)) (q_up S 36 0 1))) ∧
              (¬ a2 ≠ 0 →
                0 ≤ (a1 - 65) ∧ (a1 - 65) < 8 ∧
                ((S 45 (a1 - 65)) = 0 →
                  Q 0 (q_up S 36 0 1)) ∧
                (¬ (S 45 (a1 - 65)) = 0 →
                  Q 1 (q_up S 36 0 1)))) ∧
            (¬ (1 : Int) = 0 →
              Q 0 (q_up S 36 0 1)))) ∧
        (¬ (S 43 (a1 - 65)) ≥ 0 →
          ((S 36 4) ≠ 0 →
            ((1 : Int) ≠ 0 →
              ((2 : Int) = 0 →
                q_rg (a1 - 65) ∧
                (a2 ≠ 0 →
                  (a2 ≠ 1 →
                    0 ≤ (a1 - 65) ∧ (a1 - 65) < 8 ∧
                    Q (S 47 (a1 - 65)) (q_up S 36 0 2)) ∧
                  (¬ a2 ≠ 1 →
                    0 ≤ (a1 - 65) ∧ (a1 - 65) < 8 ∧
                    Q (S 46 (a1 - 65)) (q_up S 36 0 2))) ∧
                (¬ a2 ≠ 0 →
                  0 ≤ (a1 - 65) ∧ (a1 - 65) < 8 ∧
                  ((S 45 (a1 - 65)) = 0 →
                    Q 0 (q_up S 36 0 2)) ∧
                  (¬ (S 45 (a1 - 65)) = 0 →
                    Q 1 (q_up S 36 0 2)))) ∧
              (¬ (2 : Int) = 0 →
                Q 0 (q_up S 36 0 2))) ∧
            (¬ (1 : Int) ≠ 0 →
              (a2 < 0 →
                ((2 : Int) = 0 →
                  q_rg (a1 - 65) ∧
                  (a2 ≠ 0 →
                    (a2 ≠ 1 →
                      0 ≤ (a1 - 65) ∧ (a1 - 65) < 8 ∧
                      Q (S 47 (a1 - 65)) (q_up S 36 0 2)) ∧
                    (¬ a2 ≠ 1 →
                      0 ≤ (a1 - 65) ∧ (a1 - 65) < 8 ∧
                      Q (S 46 (a1 - 65)) (q_up S 36 0 2))) ∧
                  (¬ a2 ≠ 0 →
                    0 ≤ (a1 - 65) ∧ (a1 - 65) < 8 ∧
                    ((S 45 (a1 - 65)) = 0 →
                      Q 0 (q_up S 36 0 2)) ∧
                    (¬ (S 45 (a1 - 65)) = 0 →
                      Q 1 (q_up S 36 0 2)))) ∧
                (¬ (2 : Int) = 0 →
                  Q 0 (q_up S 36 0 2))) ∧
              (¬ a2 < 0 →
                (a2 ≤ 2 →
                  ((0 : Int) = 0 →
                    q_rg (a1 - 65) ∧
                    (a2 ≠ 0 →
                      (a2 ≠ 1 →
                        0 ≤ (a1 - 65) ∧ (a1 - 65) < 8 ∧
                        Q (S 47 (a1 - 65)) (q_up S 36 0 0)) ∧
                      (¬ a2 ≠ 1 →
                        0 ≤ (a1 - 65) ∧ (a1 - 65) < 8 ∧
                        Q (S 46 (a1 - 65)) (q_up S 36 0 0))) ∧
                    (¬ a2 ≠ 0 →
                      0 ≤ (a1 - 65) ∧ (a1 - 65) < 8 ∧
                      ((S 45 (a1 - 65)) = 0 →
                        Q 0 (q_up S 36 0 0)) ∧
                      (¬ (S 45 (a1 - 65)) = 0 →
                        Q 1 (q_up S 36 0 0)))) ∧
                  (¬ (0 : Int) = 0 →
                    Q 0 (q_up S 36 0 0))) ∧
                (¬ a2 ≤ 2 →
                  ((2 : Int) = 0 →
                    q_rg (a1 - 65) ∧
                    (a2 ≠ 0 →
                      (a2 ≠ 1 →
                        0 ≤ (a1 - 65) ∧ (a1 - 65) < 8 ∧
                        Q (S 47 (a1 - 65)) (q_up S 36 0 2)) ∧
                      (¬ a2 ≠ 1 →
                        0 ≤ (a1 - 65) ∧ (a1 - 65) < 8 ∧
                        Q (S 46 (a1 - 65)) (q_up S 36 0 2))) ∧
                    (¬ a2 ≠ 0 →
                      0 ≤ (a1 - 65) ∧ (a1 - 65) < 8 ∧
                      ((S 45 (a1 - 65)) = 0 →
                        Q 0 (q_up S 36 0 2)) ∧
                      (¬ (S 45 (a1 - 65)) = 0 →
                        Q 1 (q_up S 36 0 2)))) ∧
                  (¬ (2 : Int) = 0 →
                    Q 0 (q_up S 36 0 2)))))) ∧
          (¬ (S 36 4) ≠ 0 →
            ((1 : Int) = 0 →
              q_rg (a1 - 65) ∧
              (a2 ≠ 0 →
                (a2 ≠ 1 →
                  0 ≤ (a1 - 65) ∧ (a1 - 65) < 8 ∧
                  Q (S 47 (a1 - 65)) (q_up S 36 0 1)) ∧
                (¬ a2 ≠ 1 →
                  0 ≤ (a1 - 65) ∧ (a1 - 65) < 8 ∧
                  Q (S 46 (a1 - 65)) (q_up S 36 0 1))) ∧
              (¬ a2 ≠ 0 →
                0 ≤ (a1 - 65) ∧ (a1 - 65) < 8 ∧
                ((S 45 (a1 - 65)) = 0 →
                  Q 0 (q_up S 36 0 1)) ∧
                (¬ (S 45 (a1 - 65)) = 0 →
                  Q 1 (q_up S 36 0 1)))) ∧
            (¬ (1 : Int) = 0 →
              Q 0 (q_up S 36 0 1)))))))) : q_c 66 [vR 36, vI a1, vI a2] S Q Z := q_blk 1054 h
-- LMModel.item
set_option maxRecDepth 20000 in
theorem b_67_0 {Q : q_Q} {Z : q_Z} {a1 a2 : Int} {S : q_S} (h : ((S 36 4) ≠ 0 →
    q_c 64 [vR 36, vI a1] S (fun r2 S1 =>
      (r2 = 0 →
        ((0 : Int) = 0 →
          q_r 67 42 [vR 36, vI a1, vI a2, vI 0, vI 0] [] (q_up S1 36 0 0) Q Z) ∧
        (¬ (0 : Int) = 0 →
          Q 0 (q_up S1 36 0 0))) ∧
      (¬ r2 = 0 →
        ((2 : Int) = 0 →
          q_r 67 42 [vR 36, vI a1, vI a2, vI 0, vI 0] [] (q_up S1 36 0 2) Q Z) ∧
        (¬ (2 : Int) = 0 →
          Q 0 (q_up S1 36 0 2)))) Z) ∧
  (¬ (S 36 4) ≠ 0 →
    ((1 : Int) = 0 →
      q_r 67 42 [vR 36, vI a1, vI a2, vI 0, vI 0] [] (q_up S 36 0 1) Q Z) ∧
    (¬ (1 : Int) = 0 →
      Q 0 (q_up S 36 0 1)))) : q_c 67 [vR 36, vI a1, vI a2] S Q Z := q_blk 43 h
-- LMModel.item
theorem b_67_42 {Q : q_Q} {Z : q_Z} {a1 a2 a3 a4 : Int} {S : q_S} (h : (a4 ≥ 128 →
    Q (-1) S) ∧
  (¬ a4 ≥ 128 →
    q_rg (128 * a1) ∧
    q_rg ((128 * a1) + a4) ∧
    0 ≤ ((128 * a1) + a4) ∧ ((128 * a1) + a4) < 5120 ∧
    ((S 48 ((128 * a1) + a4)) = 0 →
      q_rg (a4 + 1) ∧
      q_r 67 42 [vR 36, vI a1, vI a2, vI a3, vI (a4 + 1)] [] S Q Z) ∧
    (¬ (S 48 ((128 * a1) + a4)) = 0 →
      (a3 ≠ a2 →
        q_rg (a3 + 1) ∧
        q_rg (a4 + 1) ∧
        q_r 67 42 [vR 36, vI a1, vI a2, vI (a3 + 1), vI (a4 + 1)] [] S Q Z) ∧
      (¬ a3 ≠ a2 →
        Q a4 S)))) : q_r 67 42 [vR 36, vI a1, vI a2, vI a3, vI a4] [] S Q Z := q_blk 24 h
-- LMModel.go
set_option maxRecDepth 20000 in
theorem b_68_0 {Q : q_Q} {Z : q_Z} {a1 a2 : Int} {S : q_S} (h : ((S 36 4) ≠ 0 →
    q_c 64 [vR 36, vI a1] S (fun r2 S1 =>
      (r2 = 0 →
        q_c 29 [vI a2] S1 (fun r4 S3 =>
          (r4 ≥ 0 →
            ((0 : Int) = 0 →
              q_rg (16 * a1) ∧
              q_c 29 [vI a2] (q_up S3 36 0 0) (fun r6 S5 =>
                q_rg ((16 * a1) + r6) ∧
                0 ≤ ((16 * a1) + r6) ∧ ((16 * a1) + r6) < 640 ∧
                Q (S5 50 ((16 * a1) + r6)) S5) Z) ∧
            (¬ (0 : Int) = 0 →
              Q 0 (q_up S3 36 0 0))) ∧
          (¬ r4 ≥ 0 →
            ((3 : Int) = 0 →
              q_rg (16 * a1) ∧
              q_c 29 [vI a2] (q_up S3 36 0 3) (fun r8 S7 =>
                q_rg ((16 * a1) + r8) ∧
                0 ≤ ((16 * a1) + r8) ∧ ((16 * a1) + r8) < 640 ∧
                Q (S7 50 ((16 * a1) + r8)) S7) Z) ∧
            (¬ (3 : Int) = 0 →
              Q 0 (q_up S3 36 0 3)))) Z) ∧
      (¬ r2 = 0 →
        ((2 : Int) = 0 →
          q_rg (16 * a1) ∧
          q_c 29 [vI a2] (q_up S1 36 0 2) (fun r10 S9 =>
            q_rg ((16 * a1) + r10) ∧
            0 ≤ ((16 * a1) + r10) ∧ ((16 * a1) + r10) < 640 ∧
            Q (S9 50 ((16 * a1) + r10)) S9) Z) ∧
        (¬ (2 : Int) = 0 →
          Q 0 (q_up S1 36 0 2)))) Z) ∧
  (¬ (S 36 4) ≠ 0 →
    ((1 : Int) = 0 →
      q_rg (16 * a1) ∧
      q_c 29 [vI a2] (q_up S 36 0 1) (fun r12 S11 =>
        q_rg ((16 * a1) + r12) ∧
        0 ≤ ((16 * a1) + r12) ∧ ((16 * a1) + r12) < 640 ∧
        Q (S11 50 ((16 * a1) + r12)) S11) Z) ∧
    (¬ (1 : Int) = 0 →
      Q 0 (q_up S 36 0 1)))) : q_c 68 [vR 36, vI a1, vI a2] S Q Z := q_blk 86 h
-- LMModel.behind
set_option maxRecDepth 20000 in
theorem b_69_0 {Q : q_Q} {Z : q_Z} {a1 a2 a3 : Int} {S : q_S} (h : ((S 36 4) ≠ 0 →
    q_c 64 [vR 36, vI a1] S (fun r2 S1 =>
      (r2 ≠ 0 →
        ((2 : Int) = 0 →
          q_c 52 [vR 36, vI a1, vI a2, vI a3] (q_up S1 36 0 2) (fun r4 S3 =>
            Q r4 S3) Z) ∧
        (¬ (2 : Int) = 0 →
          Q 0 (q_up S1 36 0 2))) ∧
      (¬ r2 ≠ 0 →
        q_c 63 [vR 36, vI a2] S1 (fun r6 S5 =>
          (r6 = 0 →
            (a3 < 0 →
              ((3 : Int) = 0 →
                q_c 52 [vR 36, vI a1, vI a2, vI a3] (q_up S5 36 0 3) (fun r8 S7 =>
                  Q r8 S7) Z) ∧
              (¬ (3 : Int) = 0 →
                Q 0 (q_up S5 36 0 3))) ∧
            (¬ a3 < 0 →
              (a3 ≤ 2 →
                ((0 : Int) = 0 →
                  q_c 52 [vR 36, vI a1, vI a2, vI a3] (q_up S5 36 0 0) (fun r10 S9 =>
                    Q r10 S9) Z) ∧
                (¬ (0 : Int) = 0 →
                  Q 0 (q_up S5 36 0 0))) ∧
              (¬ a3 ≤ 2 →
                ((3 : Int) = 0 →
                  q_c 52 [vR 36, vI a1, vI a2, vI a3] (q_up S5 36 0 3) (fun r12 S11 =>
                    Q r12 S11) Z) ∧
                (¬ (3 : Int) = 0 →
                  Q 0 (q_up S5 36 0 3))))) ∧
          (¬ r6 = 0 →
            ((2 : Int) = 0 →
              q_c 52 [vR 36, vI a1, vI a2, vI a3] (q_up S5 36 0 2) (fun r14 S13 =>
                Q r14 S13) Z) ∧
            (¬ (2 : Int) = 0 →
              Q 0 (q_up S5 36 0 2)))) Z)) Z) ∧
  (¬ (S 36 4) ≠ 0 →
    ((1 : Int) = 0 →
      q_c 52 [vR 36, vI a1, vI a2, vI a3] (q_up S 36 0 1) (fun r16 S15 =>
        Q r16 S15) Z) ∧
    (¬ (1 : Int) = 0 →
      Q 0 (q_up S 36 0 1)))) : q_c 69 [vR 36, vI a1, vI a2, vI a3] S Q Z := q_blk 106 h
-- LMModel.action
set_option maxRecDepth 20000 in
theorem b_70_0 {Q : q_Q} {Z : q_Z} {a1 a2 : Int} {S : q_S} (h : ((S 36 4) ≠ 0 →
    q_c 64 [vR 36, vI a1] S (fun r2 S1 =>
      (r2 = 0 →
        q_c 31 [vI a2] S1 (fun r4 S3 =>
          (r4 ≥ 0 →
            ((0 : Int) = 0 →
              q_c 31 [vI a2] (q_up S3 36 0 0) (fun r6 S5 =>
                q_c 57 [vR 36, vI a1, vI r6] S5 (fun r8 S7 =>
                  Q r8 S7) Z) Z) ∧
            (¬ (0 : Int) = 0 →
              Q 0 (q_up S3 36 0 0))) ∧
          (¬ r4 ≥ 0 →
            ((3 : Int) = 0 →
              q_c 31 [vI a2] (q_up S3 36 0 3) (fun r10 S9 =>
                q_c 57 [vR 36, vI a1, vI r10] S9 (fun r12 S11 =>
                  Q r12 S11) Z) Z) ∧
            (¬ (3 : Int) = 0 →
              Q 0 (q_up S3 36 0 3)))) Z) ∧
      (¬ r2 = 0 →
        ((2 : Int) = 0 →
          q_c 31 [vI a2] (q_up S1 36 0 2) (fun r14 S13 =>
            q_c 57 [vR 36, vI a1, vI r14] S13 (fun r16 S15 =>
              Q r16 S15) Z) Z) ∧
        (¬ (2 : Int) = 0 →
          Q 0 (q_up S1 36 0 2)))) Z) ∧
  (¬ (S 36 4) ≠ 0 →
    ((1 : Int) = 0 →
      q_c 31 [vI a2] (q_up S 36 0 1) (fun r18 S17 =>
        q_c 57 [vR 36, vI a1, vI r18] S17 (fun r20 S19 =>
          Q r20 S19) Z) Z) ∧
    (¬ (1 : Int) = 0 →
      Q 0 (q_up S 36 0 1)))) : q_c 70 [vR 36, vI a1, vI a2] S Q Z := q_blk 70 h
-- LMModel.unsettled
theorem b_71_0 {Q : q_Q} {Z : q_Z} {a1 : Int} {S : q_S} (h : ((S 36 4) ≠ 0 →
    ((0 : Int) = 0 →
      (a1 ≥ 0 →
        q_c 60 [vR 36, vI a1] (q_up S 36 0 0) (fun r2 S1 =>
          Q r2 S1) Z) ∧
      (¬ a1 ≥ 0 →
        Q (-1) (q_up S 36 0 0))) ∧
    (¬ (0 : Int) = 0 →
      Q 0 (q_up S 36 0 0))) ∧
  (¬ (S 36 4) ≠ 0 →
    ((1 : Int) = 0 →
      (a1 ≥ 0 →
        q_c 60 [vR 36, vI a1] (q_up S 36 0 1) (fun r4 S3 =>
          Q r4 S3) Z) ∧
      (¬ a1 ≥ 0 →
        Q (-1) (q_up S 36 0 1))) ∧
    (¬ (1 : Int) = 0 →
      Q 0 (q_up S 36 0 1)))) : q_c 71 [vR 36, vI a1] S Q Z := q_blk 39 h
-- LMModel.opn
set_option maxRecDepth 20000 in
theorem b_72_0 {Q : q_Q} {Z : q_Z} {a1 a2 : Int} {S : q_S} (h : ((S 36 4) ≠ 0 →
    (a1 < 1 →
      ((2 : Int) ≠ 0 →
        Q 0 (q_up S 36 0 2)) ∧
      (¬ (2 : Int) ≠ 0 →
        q_bo 1 ∧
        (0 : Int) ≤ 0 ∧ (0 : Int) < 24 ∧
        Q 0 (q_up (q_up (q_up (q_up (q_up (q_up (q_up (q_up (q_up S 36 0 2) 36 24 1) 36 25 0) 36 26 a1) 36 27 a2) 36 28 1) 36 29 0) 36 30 0) 54 0 0))) ∧
    (¬ a1 < 1 →
      (a1 > 24 →
        ((2 : Int) ≠ 0 →
          Q 0 (q_up S 36 0 2)) ∧
        (¬ (2 : Int) ≠ 0 →
          q_bo 1 ∧
          (0 : Int) ≤ 0 ∧ (0 : Int) < 24 ∧
          Q 0 (q_up (q_up (q_up (q_up (q_up (q_up (q_up (q_up (q_up S 36 0 2) 36 24 1) 36 25 0) 36 26 a1) 36 27 a2) 36 28 1) 36 29 0) 36 30 0) 54 0 0))) ∧
      (¬ a1 > 24 →
        (a2 < 0 →
          ((2 : Int) ≠ 0 →
            Q 0 (q_up S 36 0 2)) ∧
          (¬ (2 : Int) ≠ 0 →
            q_bo 1 ∧
            (0 : Int) ≤ 0 ∧ (0 : Int) < 24 ∧
            Q 0 (q_up (q_up (q_up (q_up (q_up (q_up (q_up (q_up (q_up S 36 0 2) 36 24 1) 36 25 0) 36 26 a1) 36 27 a2) 36 28 1) 36 29 0) 36 30 0) 54 0 0))) ∧
        (¬ a2 < 0 →
          (a2 ≤ 60 →
            ((0 : Int) ≠ 0 →
              Q 0 (q_up S 36 0 0)) ∧
            (¬ (0 : Int) ≠ 0 →
              q_bo 1 ∧
              (0 : Int) ≤ 0 ∧ (0 : Int) < 24 ∧
              Q 0 (q_up (q_up (q_up (q_up (q_up (q_up (q_up (q_up (q_up S 36 0 0) 36 24 1) 36 25 0) 36 26 a1) 36 27 a2) 36 28 1) 36 29 0) 36 30 0) 54 0 0))) ∧
          (¬ a2 ≤ 60 →
            ((2 : Int) ≠ 0 →
              Q 0 (q_up S 36 0 2)) ∧
            (¬ (2 : Int) ≠ 0 →
              q_bo 1 ∧
              (0 : Int) ≤ 0 ∧ (0 : Int) < 24 ∧
              Q 0 (q_up (q_up (q_up (q_up (q_up (q_up (q_up (q_up (q_up S 36 0 2) 36 24 1) 36 25 0) 36 26 a1) 36 27 a2) 36 28 1) 36 29 0) 36 30 0) 54 0 0))))))) ∧
  (¬ (S 36 4) ≠ 0 →
    ((1 : Int) ≠ 0 →
      Q 0 (q_up S 36 0 1)) ∧
    (¬ (1 : Int) ≠ 0 →
      q_bo 1 ∧
      (0 : Int) ≤ 0 ∧ (0 : Int) < 24 ∧
      Q 0 (q_up (q_up (q_up (q_up (q_up (q_up (q_up (q_up (q_up S 36 0 1) 36 24 1) 36 25 0) 36 26 a1) 36 27 a2) 36 28 1) 36 29 0) 36 30 0) 54 0 0)))) : q_c 72 [vR 36, vI a1, vI a2] S Q Z := q_blk 218 h
-- LMModel.push
theorem b_73_0 {Q : q_Q} {Z : q_Z} {a1 a2 a3 a4 : Int} {S : q_S} (h : q_c 30 [vI a2] S (fun r2 S1 =>
    0 ≤ (S 36 30) ∧ (S 36 30) < 60 ∧
    0 ≤ (S1 36 30) ∧ (S1 36 30) < 60 ∧
    0 ≤ (S1 36 30) ∧ (S1 36 30) < 60 ∧
    q_r 73 37 [vR 36, vI a1, vI a2, vI a3, vI a4, vI 0] [] (q_up (q_up (q_up S1 56 (S 36 30) r2) 57 (S1 36 30) a3) 58 (S1 36 30) a4) Q Z) Z) : q_c 73 [vR 36, vI a1, vI a2, vI a3, vI a4] S Q Z := q_blk 21 h
-- LMModel.push
set_option maxRecDepth 20000 in
theorem b_73_37 {Q : q_Q} {Z : q_Z} {a1 a2 a4 a5 : Int} {j3 : q_J} {S : q_S} (h : (a5 ≥ a4 →
    (a4 ≤ 0 →
      0 ≤ (S 36 30) ∧ (S 36 30) < 60 ∧
      (a4 ≤ 0 →
        (a2 ≥ 8 →
          q_rg ((S 36 29) + 1) ∧
          0 ≤ (S 36 30) ∧ (S 36 30) < 60 ∧
          0 ≤ (S 36 28) ∧ (S 36 28) < 24 ∧
          0 ≤ (S 36 28) ∧ (S 36 28) < 24 ∧
          q_rg ((S 36 28) + 1) ∧
          q_rg ((S 36 30) + 1) ∧
          Q 0 (q_up (q_up (q_up (q_up (q_up (q_up S 59 (S 36 30) (S 36 29)) 60 (S 36 30) ((S 36 29) + 1)) 54 (S 36 28) a1) 55 (S 36 28) (S 36 30)) 36 28 ((S 36 28) + 1)) 36 30 ((S 36 30) + 1))) ∧
        (¬ a2 ≥ 8 →
          0 ≤ (S 36 30) ∧ (S 36 30) < 60 ∧
          0 ≤ (S 36 28) ∧ (S 36 28) < 24 ∧
          0 ≤ (S 36 28) ∧ (S 36 28) < 24 ∧
          q_rg ((S 36 28) + 1) ∧
          q_rg ((S 36 30) + 1) ∧
          Q 0 (q_up (q_up (q_up (q_up (q_up (q_up S 59 (S 36 30) (S 36 29)) 60 (S 36 30) (S 36 29)) 54 (S 36 28) a1) 55 (S 36 28) (S 36 30)) 36 28 ((S 36 28) + 1)) 36 30 ((S 36 30) + 1)))) ∧
      (¬ a4 ≤ 0 →
        q_rg ((S 36 28) + a4) ∧
        q_rg (((S 36 28) + a4) - 1) ∧
        0 ≤ (((S 36 28) + a4) - 1) ∧ (((S 36 28) + a4) - 1) < 24 ∧
        0 ≤ (S 55 (((S 36 28) + a4) - 1)) ∧ (S 55 (((S 36 28) + a4) - 1)) < 60 ∧
        0 ≤ (S 36 30) ∧ (S 36 30) < 60 ∧
        0 ≤ (S 36 28) ∧ (S 36 28) < 24 ∧
        0 ≤ (S 36 28) ∧ (S 36 28) < 24 ∧
        q_rg ((S 36 28) + 1) ∧
        q_rg ((S 36 30) + 1) ∧
        Q 0 (q_up (q_up (q_up (q_up (q_up (q_up S 59 (S 36 30) (S 36 29)) 60 (S 36 30) (S 60 (S 55 (((S 36 28) + a4) - 1)))) 54 (S 36 28) a1) 55 (S 36 28) (S 36 30)) 36 28 ((S 36 28) + 1)) 36 30 ((S 36 30) + 1)))) ∧
    (¬ a4 ≤ 0 →
      0 ≤ (S 36 28) ∧ (S 36 28) < 24 ∧
      0 ≤ (S 55 (S 36 28)) ∧ (S 55 (S 36 28)) < 60 ∧
      0 ≤ (S 36 30) ∧ (S 36 30) < 60 ∧
      (a4 ≤ 0 →
        (a2 ≥ 8 →
          q_rg ((S 36 29) + 1) ∧
          0 ≤ (S 36 30) ∧ (S 36 30) < 60 ∧
          0 ≤ (S 36 28) ∧ (S 36 28) < 24 ∧
          0 ≤ (S 36 28) ∧ (S 36 28) < 24 ∧
          q_rg ((S 36 28) + 1) ∧
          q_rg ((S 36 30) + 1) ∧
          Q 0 (q_up (q_up (q_up (q_up (q_up (q_up S 59 (S 36 30) (S 59 (S 55 (S 36 28)))) 60 (S 36 30) ((S 36 29) + 1)) 54 (S 36 28) a1) 55 (S 36 28) (S 36 30)) 36 28 ((S 36 28) + 1)) 36 30 ((S 36 30) + 1))) ∧
        (¬ a2 ≥ 8 →
          0 ≤ (S 36 30) ∧ (S 36 30) < 60 ∧
          0 ≤ (S 36 28) ∧ (S 36 28) < 24 ∧
          0 ≤ (S 36 28) ∧ (S 36 28) < 24 ∧
          q_rg ((S 36 28) + 1) ∧
          q_rg ((S 36 30) + 1) ∧
          Q 0 (q_up (q_up (q_up (q_up (q_up (q_up S 59 (S 36 30) (S 59 (S 55 (S 36 28)))) 60 (S 36 30) (S 36 29)) 54 (S 36 28) a1) 55 (S 36 28) (S 36 30)) 36 28 ((S 36 28) + 1)) 36 30 ((S 36 30) + 1)))) ∧
      (¬ a4 ≤ 0 →
        q_rg ((S 36 28) + a4) ∧
        q_rg (((S 36 28) + a4) - 1) ∧
        0 ≤ (((S 36 28) + a4) - 1) ∧ (((S 36 28) + a4) - 1) < 24 ∧
        0 ≤ (S 55 (((S 36 28) + a4) - 1)) ∧ (S 55 (((S 36 28) + a4) - 1)) < 60 ∧
        0 ≤ (S 36 30) ∧ (S 36 30) < 60 ∧
        0 ≤ (S 36 28) ∧ (S 36 28) < 24 ∧
        0 ≤ (S 36 28) ∧ (S 36 28) < 24 ∧
        q_rg ((S 36 28) + 1) ∧
        q_rg ((S 36 30) + 1) ∧
        Q 0 (q_up (q_up (q_up (q_up (q_up (q_up S 59 (S 36 30) (S 59 (S 55 (S 36 28)))) 60 (S 36 30) (S 60 (S 55 (((S 36 28) + a4) - 1)))) 54 (S 36 28) a1) 55 (S 36 28) (S 36 30)) 36 28 ((S 36 28) + 1)) 36 30 ((S 36 30) + 1))))) ∧
  (¬ a5 ≥ a4 →
    q_rg (4 * (S 36 30)) ∧
    q_rg ((4 * (S 36 30)) + a5) ∧
    q_rg ((S 36 28) + a5) ∧
    0 ≤ ((S 36 28) + a5) ∧ ((S 36 28) + a5) < 24 ∧
    0 ≤ ((4 * (S 36 30)) + a5) ∧ ((4 * (S 36 30)) + a5) < 240 ∧
    q_rg (a5 + 1) ∧
    q_r 73 37 [vR 36, vI a1, vI a2, vJ j3, vI a4, vI (a5 + 1)] [] (q_up S 61 ((4 * (S 36 30)) + a5) (S 55 ((S 36 28) + a5))) Q Z)) : q_r 73 37 [vR 36, vI a1, vI a2, vJ j3, vI a4, vI a5] [] S Q Z := q_blk 260 h
-- LMModel.does
set_option maxRecDepth 20000 in
theorem b_74_0 {Q : q_Q} {Z : q_Z} {a1 a2 : Int} {S : q_S} (h : (a1 < 20 →
    ((0 : Int) = 0 →
      0 ≤ a1 ∧ a1 < 16 ∧
      q_rg ((S 36 28) - (S 39 a1)) ∧
      q_rg (((S 36 28) - (S 39 a1)) + 1) ∧
      ((((S 36 28) - (S 39 a1)) + 1) > (S 36 26) →
        q_bo 0 ∧ Q 0 (q_up S 36 25 3)) ∧
      (¬ (((S 36 28) - (S 39 a1)) + 1) > (S 36 26) →
        q_rg ((S 36 30) + 1) ∧
        (((S 36 30) + 1) ≤ (S 36 27) →
          ((0 : Int) = 0 →
            q_rg ((S 36 28) - (S 39 a1)) ∧
            q_rg (((S 36 28) - (S 39 a1)) - 1) ∧
            0 ≤ (((S 36 28) - (S 39 a1)) - 1) ∧ (((S 36 28) - (S 39 a1)) - 1) < 24 ∧
            q_rg (16 * (S 54 (((S 36 28) - (S 39 a1)) - 1))) ∧
            0 ≤ a1 ∧ a1 < 16 ∧
            q_rg ((16 * (S 54 (((S 36 28) - (S 39 a1)) - 1))) + (S 38 a1)) ∧
            0 ≤ ((16 * (S 54 (((S 36 28) - (S 39 a1)) - 1))) + (S 38 a1)) ∧ ((16 * (S 54 (((S 36 28) - (S 39 a1)) - 1))) + (S 38 a1)) < 640 ∧
            0 ≤ a1 ∧ a1 < 16 ∧
            q_c 73 [vR 36, vI (S 50 ((16 * (S 54 (((S 36 28) - (S 39 a1)) - 1))) + (S 38 a1))), vI (S 38 a1), vI a1, vI (S 39 a1)] (q_up S 36 28 ((S 36 28) - (S 39 a1))) (fun _ S1 =>
              q_bo 1 ∧ Q 1 S1) Z) ∧
          (¬ (0 : Int) = 0 →
            q_rg (a1 - 20) ∧
            q_rg (8 + a2) ∧
            q_c 73 [vR 36, vI (a1 - 20), vI (8 + a2), vI 0, vI 0] S (fun _ S3 =>
              q_rg ((S3 36 29) + 1) ∧
              q_bo 0 ∧ Q 0 (q_up S3 36 29 ((S3 36 29) + 1))) Z)) ∧
        (¬ ((S 36 30) + 1) ≤ (S 36 27) →
          q_bo 0 ∧ Q 0 (q_up S 36 25 3)))) ∧
    (¬ (0 : Int) = 0 →
      q_rg ((S 36 28) - 0) ∧
      q_rg (((S 36 28) - 0) + 1) ∧
      ((((S 36 28) - 0) + 1) > (S 36 26) →
        q_bo 0 ∧ Q 0 (q_up S 36 25 3)) ∧
      (¬ (((S 36 28) - 0) + 1) > (S 36 26) →
        q_rg ((S 36 30) + 1) ∧
        (((S 36 30) + 1) ≤ (S 36 27) →
          ((0 : Int) = 0 →
            q_rg ((S 36 28) - 0) ∧
            q_rg (((S 36 28) - 0) - 1) ∧
            0 ≤ (((S 36 28) - 0) - 1) ∧ (((S 36 28) - 0) - 1) < 24 ∧
            q_rg (16 * (S 54 (((S 36 28) - 0) - 1))) ∧
            0 ≤ a1 ∧ a1 < 16 ∧
            q_rg ((16 * (S 54 (((S 36 28) - 0) - 1))) + (S 38 a1)) ∧
            0 ≤ ((16 * (S 54 (((S 36 28) - 0) - 1))) + (S 38 a1)) ∧ ((16 * (S 54 (((S 36 28) - 0) - 1))) + (S 38 a1)) < 640 ∧
            0 ≤ a1 ∧ a1 < 16 ∧
            q_c 73 [vR 36, vI (S 50 ((16 * (S 54 (((S 36 28) - 0) - 1))) + (S 38 a1))), vI (S 38 a1), vI a1, vI 0] (q_up S 36 28 ((S 36 28) - 0)) (fun _ S5 =>
              q_bo 1 ∧ Q 1 S5) Z) ∧
          (¬ (0 : Int) = 0 →
            q_rg (a1 - 20) ∧
            q_rg (8 + a2) ∧
            q_c 73 [vR 36, vI (a1 - 20), vI (8 + a2), vI 0, vI 0] S (fun _ S7 =>
              q_rg ((S7 36 29) + 1) ∧
              q_bo 0 ∧ Q 0 (q_up S7 36 29 ((S7 36 29) + 1))) Z)) ∧
        (¬ ((S 36 30) + 1) ≤ (S 36 27) →
          q_bo 0 ∧ Q 0 (q_up S 36 25 3))))) ∧
  (¬ a1 < 20 →
    ((1 : Int) = 0 →
      0 ≤ a1 ∧ a1 < 16 ∧
      q_rg ((S 36 28) - (S 39 a1)) ∧
      q_rg (((S 36 28) - (S 39 a1)) + 1) ∧
      ((((S 36 28) - (S 39 a1)) + 1) > (S 36 26) →
        q_bo 0 ∧ Q 0 (q_up S 36 25 3)) ∧
      (¬ (((S 36 28) - (S 39 a1)) + 1) > (S 36 26) →
        q_rg ((S 36 30) + 1) ∧
        (((S 36 30) + 1) ≤ (S 36 27) →
          ((1 : Int) = 0 →
            q_rg ((S 36 28) - (S 39 a1)) ∧
            q_rg (((S 36 28) - (S 39 a1)) - 1) ∧
            0 ≤ (((S 36 28) - (S 39 a1)) - 1) ∧ (((S 36 28) - (S 39 a1)) - 1) < 24 ∧
            q_rg (16 * (S 54 (((S 36 28) - (S 39 a1)) - 1))) ∧
            0 ≤ a1 ∧ a1 < 16 ∧
            q_rg ((16 * (S 54 (((S 36 28) - (S 39 a1)) - 1))) + (S 38 a1)) ∧
            0 ≤ ((16 * (S 54 (((S 36 28) - (S 39 a1)) - 1))) + (S 38 a1)) ∧ ((16 * (S 54 (((S 36 28) - (S 39 a1)) - 1))) + (S 38 a1)) < 640 ∧
            0 ≤ a1 ∧ a1 < 16 ∧
            q_c 73 [vR 36, vI (S 50 ((16 * (S 54 (((S 36 28) - (S 39 a1)) - 1))) + (S 38 a1))), vI (S 38 a1), vI a1, vI (S 39 a1)] (q_up S 36 28 ((S 36 28) - (S 39 a1))) (fun _ S9 =>
              q_bo 1 ∧ Q 1 S9) Z) ∧
          (¬ (1 : Int) = 0 →
            q_rg (a1 - 20) ∧
            q_rg (8 + a2) ∧
            q_c 73 [vR 36, vI (a1 - 20), vI (8 + a2), vI 0, vI 0] S (fun _ S11 =>
              q_rg ((S11 36 29) + 1) ∧
              q_bo 0 ∧ Q 0 (q_up S11 36 29 ((S11 36 29) + 1))) Z)) ∧
        (¬ ((S 36 30) + 1) ≤ (S 36 27) →
          q_bo 0 ∧ Q 0 (q_up S 36 25 3)))) ∧
    (¬ (1 : Int) = 0 →
      q_rg ((S 36 28) - 0) ∧
      q_rg (((S 36 28) - 0) + 1) ∧
      ((((S 36 28) - 0) + 1) > (S 36 26) →
        q_bo 0 ∧ Q 0 (q_up S 36 25 3)) ∧
      (¬ (((S 36 28) - 0) + 1) > (S 36 26) →
        q_rg ((S 36 30) + 1) ∧
        (((S 36 30) + 1) ≤ (S 36 27) →
          ((1 : Int) = 0 →
            q_rg ((S 36 28) - 0) ∧
            q_rg (((S 36 28) - 0) - 1) ∧
            0 ≤ (((S 36 28) - 0) - 1) ∧ (((S 36 28) - 0) - 1) < 24 ∧
            q_rg (16 * (S 54 (((S 36 28) - 0) - 1))) ∧
            0 ≤ a1 ∧ a1 < 16 ∧
            q_rg ((16 * (S 54 (((S 36 28) - 0) - 1))) + (S 38 a1)) ∧
            0 ≤ ((16 * (S 54 (((S 36 28) - 0) - 1))) + (S 38 a1)) ∧ ((16 * (S 54 (((S 36 28) - 0) - 1))) + (S 38 a1)) < 640 ∧
            0 ≤ a1 ∧ a1 < 16 ∧
            q_c 73 [vR 36, vI (S 50 ((16 * (S 54 (((S 36 28) - 0) - 1))) + (S 38 a1))), vI (S 38 a1), vI a1, vI 0] (q_up S 36 28 ((S 36 28) - 0)) (fun _ S13 =>
              q_bo 1 ∧ Q 1 S13) Z) ∧
          (¬ (1 : Int) = 0 →
            q_rg (a1 - 20) ∧
            q_rg (8 + a2) ∧
            q_c 73 [vR 36, vI (a1 - 20), vI (8 + a2), vI 0, vI 0] S (fun _ S15 =>
              q_rg ((S15 36 29) + 1) ∧
              q_bo 0 ∧ Q 0 (q_up S15 36 29 ((S15 36 29) + 1))) Z)) ∧
        (¬ ((S 36 30) + 1) ≤ (S 36 27) →
          q_bo 0 ∧ Q 0 (q_up S 36 25 3)))))) : q_c 74 [vR 36, vI a1, vI a2] S Q Z := q_blk 352 h
-- LMModel.token
set_option maxRecDepth 20000 in
theorem b_75_0 {Q : q_Q} {Z : q_Z} {a1 : Int} {S : q_S} (h : ((S 36 24) = 0 →
    ((1 : Int) = 0 →
      q_c 31 [vI a1] (q_up S 36 0 1) (fun r2 S1 =>
        q_r 75 50 [vR 36, vI a1, vI r2, vI 1, vU] [] S1 Q Z) Z) ∧
    (¬ (1 : Int) = 0 →
      Q 0 (q_up S 36 0 1))) ∧
  (¬ (S 36 24) = 0 →
    ((S 36 25) = 0 →
      q_c 31 [vI a1] S (fun r4 S3 =>
        (r4 ≥ 0 →
          ((0 : Int) = 0 →
            q_c 31 [vI a1] (q_up S3 36 0 0) (fun r6 S5 =>
              q_r 75 50 [vR 36, vI a1, vI r6, vI 1, vU] [] S5 Q Z) Z) ∧
          (¬ (0 : Int) = 0 →
            Q 0 (q_up S3 36 0 0))) ∧
        (¬ r4 ≥ 0 →
          ((2 : Int) = 0 →
            q_c 31 [vI a1] (q_up S3 36 0 2) (fun r8 S7 =>
              q_r 75 50 [vR 36, vI a1, vI r8, vI 1, vU] [] S7 Q Z) Z) ∧
          (¬ (2 : Int) = 0 →
            Q 0 (q_up S3 36 0 2)))) Z) ∧
    (¬ (S 36 25) = 0 →
      ((1 : Int) = 0 →
        q_c 31 [vI a1] (q_up S 36 0 1) (fun r10 S9 =>
          q_r 75 50 [vR 36, vI a1, vI r10, vI 1, vU] [] S9 Q Z) Z) ∧
      (¬ (1 : Int) = 0 →
        Q 0 (q_up S 36 0 1))))) : q_c 75 [vR 36, vI a1] S Q Z := q_blk 61 h
-- LMModel.token
set_option maxRecDepth 20000 in
theorem b_75_50 {Q : q_Q} {Z : q_Z} {a2 a3 : Int} {j1 j4 : q_J} {S : q_S} (h : (a3 = 0 →
    Q (S 36 25) S) ∧
  (¬ a3 = 0 →
    q_rg ((S 36 28) - 1) ∧
    0 ≤ ((S 36 28) - 1) ∧ ((S 36 28) - 1) < 24 ∧
    q_c 57 [vR 36, vI (S 54 ((S 36 28) - 1)), vI a2] S (fun r2 S1 =>
      (r2 = 0 →
        (r2 ≠ 0 →
          q_r 75 50 [vR 36, vJ j1, vI a2, vI 0, vI r2] [] (q_up S1 36 25 1) Q Z) ∧
        (¬ r2 ≠ 0 →
          q_r 75 50 [vR 36, vJ j1, vI a2, vI 0, vI r2] [] (q_up S1 36 25 2) Q Z)) ∧
      (¬ r2 = 0 →
        (r2 ≠ 16 →
          q_c 74 [vR 36, vI r2, vI a2] S1 (fun r4 S3 =>
            q_r 75 50 [vR 36, vJ j1, vI a2, vI r4, vI r2] [] S3 Q Z) Z) ∧
        (¬ r2 ≠ 16 →
          (r2 ≠ 0 →
            q_r 75 50 [vR 36, vJ j1, vI a2, vI 0, vI r2] [] (q_up S1 36 25 1) Q Z) ∧
          (¬ r2 ≠ 0 →
            q_r 75 50 [vR 36, vJ j1, vI a2, vI 0, vI r2] [] (q_up S1 36 25 2) Q Z)))) Z)) : q_r 75 50 [vR 36, vJ j1, vI a2, vI a3, vJ j4] [] S Q Z := q_blk 59 h
-- LMModel.parser
theorem b_76_0 {Q : q_Q} {Z : q_Z} {a1 : Int} {S : q_S} (h : ((S 36 24) ≠ 0 →
    (a1 ≠ 0 →
      (a1 ≠ 1 →
        (a1 ≠ 2 →
          (a1 ≠ 3 →
            Q (-1) (q_up S 36 0 0)) ∧
          (¬ a1 ≠ 3 →
            Q (S 36 30) (q_up S 36 0 0))) ∧
        (¬ a1 ≠ 2 →
          Q (S 36 29) (q_up S 36 0 0))) ∧
      (¬ a1 ≠ 1 →
        Q (S 36 28) (q_up S 36 0 0))) ∧
    (¬ a1 ≠ 0 →
      Q (S 36 25) (q_up S 36 0 0))) ∧
  (¬ (S 36 24) ≠ 0 →
    Q (-1) (q_up S 36 0 0))) : q_c 76 [vR 36, vI a1] S Q Z := q_blk 37 h
-- LMModel.stack
set_option maxRecDepth 20000 in
theorem b_77_0 {Q : q_Q} {Z : q_Z} {a1 : Int} {S : q_S} (h : ((S 36 24) = 0 →
    ((1 : Int) = 0 →
      0 ≤ a1 ∧ a1 < 24 ∧
      Q (S 54 a1) (q_up S 36 0 1)) ∧
    (¬ (1 : Int) = 0 →
      Q 0 (q_up S 36 0 1))) ∧
  (¬ (S 36 24) = 0 →
    (a1 < 0 →
      ((1 : Int) = 0 →
        0 ≤ a1 ∧ a1 < 24 ∧
        Q (S 54 a1) (q_up S 36 0 1)) ∧
      (¬ (1 : Int) = 0 →
        Q 0 (q_up S 36 0 1))) ∧
    (¬ a1 < 0 →
      (a1 < (S 36 28) →
        ((0 : Int) = 0 →
          0 ≤ a1 ∧ a1 < 24 ∧
          Q (S 54 a1) (q_up S 36 0 0)) ∧
        (¬ (0 : Int) = 0 →
          Q 0 (q_up S 36 0 0))) ∧
      (¬ a1 < (S 36 28) →
        ((1 : Int) = 0 →
          0 ≤ a1 ∧ a1 < 24 ∧
          Q (S 54 a1) (q_up S 36 0 1)) ∧
        (¬ (1 : Int) = 0 →
          Q 0 (q_up S 36 0 1)))))) : q_c 77 [vR 36, vI a1] S Q Z := q_blk 65 h
-- LMModel.expected
theorem b_78_0 {Q : q_Q} {Z : q_Z} {S : q_S} (h : ((S 36 24) ≠ 0 →
    q_r 78 20 [vR 36, vI 0, vI 0] [] (q_up S 36 0 0) Q Z) ∧
  (¬ (S 36 24) ≠ 0 →
    q_r 78 20 [vR 36, vI 0, vI 0] [] (q_up S 36 0 1) Q Z)) : q_c 78 [vR 36] S Q Z := q_blk 17 h
-- LMModel.expected
theorem b_78_20 {Q : q_Q} {Z : q_Z} {a1 a2 : Int} {S : q_S} (h : (a2 ≥ 9 →
    Q a1 S) ∧
  (¬ a2 ≥ 9 →
    ((S 36 24) = 0 →
      Q a1 S) ∧
    (¬ (S 36 24) = 0 →
      q_rg ((S 36 28) - 1) ∧
      0 ≤ ((S 36 28) - 1) ∧ ((S 36 28) - 1) < 24 ∧
      q_c 57 [vR 36, vI (S 54 ((S 36 28) - 1)), vI a2] S (fun r2 S1 =>
        (r2 = 0 →
          q_rg (a2 + 1) ∧
          q_r 78 20 [vR 36, vI a1, vI (a2 + 1)] [] S1 Q Z) ∧
        (¬ r2 = 0 →
          q_rg (a2 + 1) ∧
          q_r 78 20 [vR 36, vI (q_or a1 (q_shl 1 a2)), vI (a2 + 1)] [] S1 Q Z)) Z))) : q_r 78 20 [vR 36, vI a1, vI a2] [] S Q Z := q_blk 34 h
-- LMModel.node
set_option maxRecDepth 20000 in
theorem b_79_0 {Q : q_Q} {Z : q_Z} {a1 a2 : Int} {S : q_S} (h : ((S 36 24) = 0 →
    ((1 : Int) = 0 →
      (a2 ≠ 0 →
        (a2 ≠ 1 →
          (a2 ≠ 2 →
            (a2 ≠ 3 →
              0 ≤ a1 ∧ a1 < 60 ∧
              Q (S 60 a1) (q_up S 36 0 1)) ∧
            (¬ a2 ≠ 3 →
              0 ≤ a1 ∧ a1 < 60 ∧
              Q (S 59 a1) (q_up S 36 0 1))) ∧
          (¬ a2 ≠ 2 →
            0 ≤ a1 ∧ a1 < 60 ∧
            Q (S 58 a1) (q_up S 36 0 1))) ∧
        (¬ a2 ≠ 1 →
          0 ≤ a1 ∧ a1 < 60 ∧
          Q (S 57 a1) (q_up S 36 0 1))) ∧
      (¬ a2 ≠ 0 →
        0 ≤ a1 ∧ a1 < 60 ∧
        Q (S 56 a1) (q_up S 36 0 1))) ∧
    (¬ (1 : Int) = 0 →
      Q 0 (q_up S 36 0 1))) ∧
  (¬ (S 36 24) = 0 →
    (a1 < 0 →
      ((1 : Int) = 0 →
        (a2 ≠ 0 →
          (a2 ≠ 1 →
            (a2 ≠ 2 →
              (a2 ≠ 3 →
                0 ≤ a1 ∧ a1 < 60 ∧
                Q (S 60 a1) (q_up S 36 0 1)) ∧
              (¬ a2 ≠ 3 →
                0 ≤ a1 ∧ a1 < 60 ∧
                Q (S 59 a1) (q_up S 36 0 1))) ∧
            (¬ a2 ≠ 2 →
              0 ≤ a1 ∧ a1 < 60 ∧
              Q (S 58 a1) (q_up S 36 0 1))) ∧
          (¬ a2 ≠ 1 →
            0 ≤ a1 ∧ a1 < 60 ∧
            Q (S 57 a1) (q_up S 36 0 1))) ∧
        (¬ a2 ≠ 0 →
          0 ≤ a1 ∧ a1 < 60 ∧
          Q (S 56 a1) (q_up S 36 0 1))) ∧
      (¬ (1 : Int) = 0 →
        Q 0 (q_up S 36 0 1))) ∧
    (¬ a1 < 0 →
      (a1 < (S 36 30) →
        (a2 < 0 →
          ((2 : Int) = 0 →
            (a2 ≠ 0 →
              (a2 ≠ 1 →
                (a2 ≠ 2 →
                  (a2 ≠ 3 →
                    0 ≤ a1 ∧ a1 < 60 ∧
                    Q (S 60 a1) (q_up S 36 0 2)) ∧
                  (¬ a2 ≠ 3 →
                    0 ≤ a1 ∧ a1 < 60 ∧
                    Q (S 59 a1) (q_up S 36 0 2))) ∧
                (¬ a2 ≠ 2 →
                  0 ≤ a1 ∧ a1 < 60 ∧
                  Q (S 58 a1) (q_up S 36 0 2))) ∧
              (¬ a2 ≠ 1 →
                0 ≤ a1 ∧ a1 < 60 ∧
                Q (S 57 a1) (q_up S 36 0 2))) ∧
            (¬ a2 ≠ 0 →
              0 ≤ a1 ∧ a1 < 60 ∧
              Q (S 56 a1) (q_up S 36 0 2))) ∧
          (¬ (2 : Int) = 0 →
            Q 0 (q_up S 36 0 2))) ∧
        (¬ a2 < 0 →
          (a2 ≤ 4 →
            ((0 : Int) = 0 →
              (a2 ≠ 0 →
                (a2 ≠ 1 →
                  (a2 ≠ 2 →
                    (a2 ≠ 3 →
                      0 ≤ a1 ∧ a1 < 60 ∧
                      Q (S 60 a1) (q_up S 36 0 0)) ∧
                    (¬ a2 ≠ 3 →
                      0 ≤ a1 ∧ a1 < 60 ∧
                      Q (S 59 a1) (q_up S 36 0 0))) ∧
                  (¬ a2 ≠ 2 →
                    0 ≤ a1 ∧ a1 < 60 ∧
                    Q (S 58 a1) (q_up S 36 0 0))) ∧
                (¬ a2 ≠ 1 →
                  0 ≤ a1 ∧ a1 < 60 ∧
                  Q (S 57 a1) (q_up S 36 0 0))) ∧
              (¬ a2 ≠ 0 →
                0 ≤ a1 ∧ a1 < 60 ∧
                Q (S 56 a1) (q_up S 36 0 0))) ∧
            (¬ (0 : Int) = 0 →
              Q 0 (q_up S 36 0 0))) ∧
          (¬ a2 ≤ 4 →
            ((2 : Int) = 0 →
              (a2 ≠ 0 →
                (a2 ≠ 1 →
                  (a2 ≠ 2 →
                    (a2 ≠ 3 →
                      0 ≤ a1 ∧ a1 < 60 ∧
                      Q (S 60 a1) (q_up S 36 0 2)) ∧
                    (¬ a2 ≠ 3 →
                      0 ≤ a1 ∧ a1 < 60 ∧
                      Q (S 59 a1) (q_up S 36 0 2))) ∧
                  (¬ a2 ≠ 2 →
                    0 ≤ a1 ∧ a1 < 60 ∧
                    Q (S 58 a1) (q_up S 36 0 2))) ∧
                (¬ a2 ≠ 1 →
                  0 ≤ a1 ∧ a1 < 60 ∧
                  Q (S 57 a1) (q_up S 36 0 2))) ∧
              (¬ a2 ≠ 0 →
                0 ≤ a1 ∧ a1 < 60 ∧
                Q (S 56 a1) (q_up S 36 0 2))) ∧
            (¬ (2 : Int) = 0 →
              Q 0 (q_up S 36 0 2))))) ∧
      (¬ a1 < (S 36 30) →
        ((1 : Int) = 0 →
          (a2 ≠ 0 →
            (a2 ≠ 1 →
              (a2 ≠ 2 →
                (a2 ≠ 3 →
                  0 ≤ a1 ∧ a1 < 60 ∧
                  Q (S 60 a1) (q_up S 36 0 1)) ∧
                (¬ a2 ≠ 3 →
                  0 ≤ a1 ∧ a1 < 60 ∧
                  Q (S 59 a1) (q_up S 36 0 1))) ∧
              (¬ a2 ≠ 2 →
                0 ≤ a1 ∧ a1 < 60 ∧
                Q (S 58 a1) (q_up S 36 0 1))) ∧
            (¬ a2 ≠ 1 →
              0 ≤ a1 ∧ a1 < 60 ∧
              Q (S 57 a1) (q_up S 36 0 1))) ∧
          (¬ a2 ≠ 0 →
            0 ≤ a1 ∧ a1 < 60 ∧
            Q (S 56 a1) (q_up S 36 0 1))) ∧
        (¬ (1 : Int) = 0 →
          Q 0 (q_up S 36 0 1)))))) : q_c 79 [vR 36, vI a1, vI a2] S Q Z := q_blk 302 h
-- LMModel.child
set_option maxRecDepth 20000 in
theorem b_80_0 {Q : q_Q} {Z : q_Z} {a1 a2 : Int} {S : q_S} (h : ((S 36 24) = 0 →
    ((1 : Int) = 0 →
      q_rg (4 * a1) ∧
      q_rg ((4 * a1) + a2) ∧
      0 ≤ ((4 * a1) + a2) ∧ ((4 * a1) + a2) < 240 ∧
      Q (S 61 ((4 * a1) + a2)) (q_up S 36 0 1)) ∧
    (¬ (1 : Int) = 0 →
      Q 0 (q_up S 36 0 1))) ∧
  (¬ (S 36 24) = 0 →
    (a1 < 0 →
      ((1 : Int) = 0 →
        q_rg (4 * a1) ∧
        q_rg ((4 * a1) + a2) ∧
        0 ≤ ((4 * a1) + a2) ∧ ((4 * a1) + a2) < 240 ∧
        Q (S 61 ((4 * a1) + a2)) (q_up S 36 0 1)) ∧
      (¬ (1 : Int) = 0 →
        Q 0 (q_up S 36 0 1))) ∧
    (¬ a1 < 0 →
      (a1 ≥ (S 36 30) →
        ((1 : Int) = 0 →
          q_rg (4 * a1) ∧
          q_rg ((4 * a1) + a2) ∧
          0 ≤ ((4 * a1) + a2) ∧ ((4 * a1) + a2) < 240 ∧
          Q (S 61 ((4 * a1) + a2)) (q_up S 36 0 1)) ∧
        (¬ (1 : Int) = 0 →
          Q 0 (q_up S 36 0 1))) ∧
      (¬ a1 ≥ (S 36 30) →
        (a2 < 0 →
          ((1 : Int) = 0 →
            q_rg (4 * a1) ∧
            q_rg ((4 * a1) + a2) ∧
            0 ≤ ((4 * a1) + a2) ∧ ((4 * a1) + a2) < 240 ∧
            Q (S 61 ((4 * a1) + a2)) (q_up S 36 0 1)) ∧
          (¬ (1 : Int) = 0 →
            Q 0 (q_up S 36 0 1))) ∧
        (¬ a2 < 0 →
          0 ≤ a1 ∧ a1 < 60 ∧
          (a2 < (S 58 a1) →
            ((0 : Int) = 0 →
              q_rg (4 * a1) ∧
              q_rg ((4 * a1) + a2) ∧
              0 ≤ ((4 * a1) + a2) ∧ ((4 * a1) + a2) < 240 ∧
              Q (S 61 ((4 * a1) + a2)) (q_up S 36 0 0)) ∧
            (¬ (0 : Int) = 0 →
              Q 0 (q_up S 36 0 0))) ∧
          (¬ a2 < (S 58 a1) →
            ((1 : Int) = 0 →
              q_rg (4 * a1) ∧
              q_rg ((4 * a1) + a2) ∧
              0 ≤ ((4 * a1) + a2) ∧ ((4 * a1) + a2) < 240 ∧
              Q (S 61 ((4 * a1) + a2)) (q_up S 36 0 1)) ∧
            (¬ (1 : Int) = 0 →
              Q 0 (q_up S 36 0 1)))))))) : q_c 80 [vR 36, vI a1, vI a2] S Q Z := q_blk 125 h
-- LM$Aheads.find
theorem b_81_0 {Q : q_Q} {Z : q_Z} {S : q_S} (h : q_c 176 [vR 22, vI 0] S (fun _ S1 =>
    q_c 85 [vR 21, vI 0, vI 0, vI 0, vI 256] (q_up S1 21 4 (q_wsub (q_wshl 1 (S1 16 0)) 1)) (fun _ S3 =>
      q_r 81 35 [vR 21, vI 0, vU] [] S3 Q Z) Z) Z) : q_c 81 [vR 21] S Q Z := q_blk 21 h
-- LM$Aheads.find
theorem b_81_35 {Q : q_Q} {Z : q_Z} {a1 : Int} {j2 : q_J} {S : q_S} (h : ((q_wcmp (S 21 4) 0) = 0 →
    Q 0 S) ∧
  (¬ (q_wcmp (S 21 4) 0) = 0 →
    (a1 ≥ 1000000 →
      Q 0 S) ∧
    (¬ a1 ≥ 1000000 →
      q_r 81 52 [vR 21, vI a1, vI 0] [] S Q Z))) : q_r 81 35 [vR 21, vI a1, vJ j2] [] S Q Z := q_blk 12 h
-- LM$Aheads.find
theorem b_81_52 {Q : q_Q} {Z : q_Z} {a1 a2 : Int} {S : q_S} (h : (a2 ≥ (S 16 0) →
    q_rg (a1 + 1) ∧
    q_r 81 35 [vR 21, vI (a1 + 1), vI a2] [] S Q Z) ∧
  (¬ a2 ≥ (S 16 0) →
    ((q_wcmp (q_wand (q_wshr (S 21 4) a2) 1) 0) = 0 →
      q_rg (a2 + 1) ∧
      q_r 81 52 [vR 21, vI a1, vI (a2 + 1)] [] S Q Z) ∧
    (¬ (q_wcmp (q_wand (q_wshr (S 21 4) a2) 1) 0) = 0 →
      q_c 83 [vR 21, vI a2] (q_up S 21 4 (q_wand (S 21 4) (q_wxor (q_wshl 1 a2) (-1)))) (fun _ S1 =>
        q_rg (a2 + 1) ∧
        q_r 81 52 [vR 21, vI a1, vI (a2 + 1)] [] S1 Q Z) Z))) : q_r 81 52 [vR 21, vI a1, vI a2] [] S Q Z := q_blk 33 h
-- LM$Aheads.aheadOf
theorem b_82_0 {Q : q_Q} {Z : q_Z} {a1 a2 a3 : Int} {S : q_S} (h : q_rg (a1 * 80) ∧
  q_rg (a2 * 5) ∧
  q_rg ((a1 * 80) + (a2 * 5)) ∧
  q_rg (((a1 * 80) + (a2 * 5)) + a3) ∧
  0 ≤ (((a1 * 80) + (a2 * 5)) + a3) ∧ (((a1 * 80) + (a2 * 5)) + a3) < 3200 ∧
  Q (S 22 (((a1 * 80) + (a2 * 5)) + a3)) S) : q_c 82 [vR 21, vI a1, vI a2, vI a3] S Q Z := q_blk 13 h
-- LM$Aheads.handOn
theorem b_83_0 {Q : q_Q} {Z : q_Z} {a1 : Int} {S : q_S} (h : q_r 83 2 [vR 21, vI a1, vI 0, vU] [] S Q Z) : q_c 83 [vR 21, vI a1] S Q Z := q_blk 2 h
-- LM$Aheads.handOn
theorem b_83_2 {Q : q_Q} {Z : q_Z} {a1 a2 : Int} {j3 : q_J} {S : q_S} (h : (a2 > (S 3 4) →
    Q 0 S) ∧
  (¬ a2 > (S 3 4) →
    q_r 83 15 [vR 21, vI a1, vI a2, vI 0] [] S Q Z)) : q_r 83 2 [vR 21, vI a1, vI a2, vJ j3] [] S Q Z := q_blk 8 h
-- LM$Aheads.handOn
theorem b_83_15 {Q : q_Q} {Z : q_Z} {a1 a2 a3 : Int} {S : q_S} (h : 0 ≤ a2 ∧ a2 < 16 ∧
  (a3 ≥ (S 5 a2) →
    q_rg (a2 + 1) ∧
    q_r 83 2 [vR 21, vI a1, vI (a2 + 1), vI a3] [] S Q Z) ∧
  (¬ a3 ≥ (S 5 a2) →
    q_c 140 [vR 16, vI a1, vI a2, vI a3] S (fun r2 S1 =>
      (r2 = 0 →
        q_rg (a3 + 1) ∧
        q_r 83 15 [vR 21, vI a1, vI a2, vI (a3 + 1)] [] S1 Q Z) ∧
      (¬ r2 = 0 →
        q_c 84 [vR 21, vI a1, vI a2, vI a3] S1 (fun _ S3 =>
          q_rg (a3 + 1) ∧
          q_r 83 15 [vR 21, vI a1, vI a2, vI (a3 + 1)] [] S3 Q Z) Z)) Z)) : q_r 83 15 [vR 21, vI a1, vI a2, vI a3] [] S Q Z := q_blk 25 h
-- LM$Aheads.handOnItem
set_option maxRecDepth 20000 in
theorem b_84_0 {Q : q_Q} {Z : q_Z} {a1 a2 a3 : Int} {S : q_S} (h : q_c 82 [vR 21, vI a1, vI a2, vI a3] S (fun r2 S1 =>
    q_c 105 [vR 3, vI a2, vI a3] S1 (fun r4 S3 =>
      q_c 142 [vR 16, vI a1, vI r4] S3 (fun r6 S5 =>
        (r6 = (-1) →
          (r4 ≥ 8 →
            Q 0 S5) ∧
          (¬ r4 ≥ 8 →
            q_rg (a3 + 1) ∧
            q_c 134 [vR 12, vI a2, vI (a3 + 1), vI r2] S5 (fun r8 S7 =>
              0 ≤ r4 ∧ r4 < 8 ∧
              q_r 84 84 [vR 21, vI a1, vI a2, vI a3, vI r2, vI r4, vI r6, vI r8, vI (S7 6 r4)] [] S7 Q Z) Z)) ∧
        (¬ r6 = (-1) →
          q_rg (a3 + 1) ∧
          q_c 85 [vR 21, vI r6, vI a2, vI (a3 + 1), vI r2] S5 (fun _ S9 =>
            (r4 ≥ 8 →
              Q 0 S9) ∧
            (¬ r4 ≥ 8 →
              q_rg (a3 + 1) ∧
              q_c 134 [vR 12, vI a2, vI (a3 + 1), vI r2] S9 (fun r12 S11 =>
                0 ≤ r4 ∧ r4 < 8 ∧
                q_r 84 84 [vR 21, vI a1, vI a2, vI a3, vI r2, vI r4, vI r6, vI r12, vI (S11 6 r4)] [] S11 Q Z) Z)) Z)) Z) Z) Z) : q_c 84 [vR 21, vI a1, vI a2, vI a3] S Q Z := q_blk 67 h
-- LM$Aheads.handOnItem
theorem b_84_84 {Q : q_Q} {Z : q_Z} {a1 a5 a7 a8 : Int} {j2 j3 j4 j6 : q_J} {S : q_S} (h : 0 ≤ a5 ∧ a5 < 8 ∧
  (a8 > (S 7 a5) →
    Q 0 S) ∧
  (¬ a8 > (S 7 a5) →
    q_c 85 [vR 21, vI a1, vI a8, vI 0, vI a7] S (fun _ S1 =>
      q_rg (a8 + 1) ∧
      q_r 84 84 [vR 21, vI a1, vJ j2, vJ j3, vJ j4, vI a5, vJ j6, vI a7, vI (a8 + 1)] [] S1 Q Z) Z)) : q_r 84 84 [vR 21, vI a1, vJ j2, vJ j3, vJ j4, vI a5, vJ j6, vI a7, vI a8] [] S Q Z := q_blk 16 h
-- LM$Aheads.add
theorem b_85_0 {Q : q_Q} {Z : q_Z} {a1 a2 a3 a4 : Int} {S : q_S} (h : q_rg (a1 * 80) ∧
  q_rg (a2 * 5) ∧
  q_rg ((a1 * 80) + (a2 * 5)) ∧
  q_rg (((a1 * 80) + (a2 * 5)) + a3) ∧
  0 ≤ (((a1 * 80) + (a2 * 5)) + a3) ∧ (((a1 * 80) + (a2 * 5)) + a3) < 3200 ∧
  ((q_and a4 (q_xor (S 22 (((a1 * 80) + (a2 * 5)) + a3)) (-1))) = 0 →
    Q 0 S) ∧
  (¬ (q_and a4 (q_xor (S 22 (((a1 * 80) + (a2 * 5)) + a3)) (-1))) = 0 →
    0 ≤ (((a1 * 80) + (a2 * 5)) + a3) ∧ (((a1 * 80) + (a2 * 5)) + a3) < 3200 ∧
    0 ≤ (((a1 * 80) + (a2 * 5)) + a3) ∧ (((a1 * 80) + (a2 * 5)) + a3) < 3200 ∧
    Q 0 (q_up (q_up S 22 (((a1 * 80) + (a2 * 5)) + a3) (q_or (S 22 (((a1 * 80) + (a2 * 5)) + a3)) a4)) 21 4 (q_wor (S 21 4) (q_wshl 1 a1))))) : q_c 85 [vR 21, vI a1, vI a2, vI a3, vI a4] S Q Z := q_blk 37 h
-- LM$Bindings.areBound
theorem b_86_0 {Q : q_Q} {Z : q_Z} {a1 a2 : Int} {S : q_S} (h : 0 ≤ a1 ∧ a1 < 9 ∧
  ((S 24 a1) ≤ 0 →
    q_bo 0 ∧ Q 0 S) ∧
  (¬ (S 24 a1) ≤ 0 →
    q_c 88 [vR 23, vI a2] S (fun r2 S1 =>
      (r2 ≤ 0 →
        q_bo 0 ∧ Q 0 S1) ∧
      (¬ r2 ≤ 0 →
        q_bo 1 ∧ Q 1 S1)) Z)) : q_c 86 [vR 23, vI a1, vI a2] S Q Z := q_blk 16 h
-- LM$Bindings.sideFor
theorem b_87_0 {Q : q_Q} {Z : q_Z} {a1 a2 : Int} {S : q_S} (h : q_c 88 [vR 23, vI a2] S (fun r2 S1 =>
    q_c 86 [vR 23, vI a1, vI a2] S1 (fun r4 S3 =>
      (r4 = 0 →
        Q 1 S3) ∧
      (¬ r4 = 0 →
        0 ≤ a1 ∧ a1 < 9 ∧
        (r2 ≥ (S3 24 a1) →
          0 ≤ a1 ∧ a1 < 9 ∧
          (r2 ≤ (S3 24 a1) →
            0 ≤ a1 ∧ a1 < 9 ∧
            Q (S3 25 a1) S3) ∧
          (¬ r2 ≤ (S3 24 a1) →
            Q 0 S3)) ∧
        (¬ r2 ≥ (S3 24 a1) →
          Q 1 S3))) Z) Z) : q_c 87 [vR 23, vI a1, vI a2] S Q Z := q_blk 33 h
-- LM$Bindings.levelOf
theorem b_88_0 {Q : q_Q} {Z : q_Z} {a1 : Int} {S : q_S} (h : 0 ≤ a1 ∧ a1 < 16 ∧
  q_rg ((S 5 a1) - 1) ∧
  q_r 88 12 [vR 23, vI a1, vI ((S 5 a1) - 1), vU] [] S Q Z) : q_c 88 [vR 23, vI a1] S Q Z := q_blk 8 h
-- LM$Bindings.levelOf
theorem b_88_12 {Q : q_Q} {Z : q_Z} {a1 a2 : Int} {j3 : q_J} {S : q_S} (h : (a2 < 0 →
    Q 0 S) ∧
  (¬ a2 < 0 →
    q_c 105 [vR 3, vI a1, vI a2] S (fun r2 S1 =>
      (r2 < 8 →
        q_rg (a2 + (-1)) ∧
        q_r 88 12 [vR 23, vI a1, vI (a2 + (-1)), vI r2] [] S1 Q Z) ∧
      (¬ r2 < 8 →
        q_rg (r2 - 8) ∧
        0 ≤ (r2 - 8) ∧ (r2 - 8) < 9 ∧
        Q (S1 24 (r2 - 8)) S1)) Z)) : q_r 88 12 [vR 23, vI a1, vI a2, vJ j3] [] S Q Z := q_blk 22 h
-- LM$Cells.behindDone
theorem b_89_0 {Q : q_Q} {Z : q_Z} {a1 a2 a3 : Int} {S : q_S} (h : q_c 141 [vR 16, vI a1, vI a2] S (fun r2 S1 =>
    (r2 ≠ 0 →
      (a2 ≠ 0 →
        (a3 = 0 →
          Q 511 S1) ∧
        (¬ a3 = 0 →
          (a3 = 1 →
          0 ≤ a2 ∧ a2 < 16 ∧
          0 ≤ (S1 4 a2) ∧ (S1 4 a2) < 8 ∧
          Q (S1 14 (S1 4 a2)) S1) ∧
        (¬ a3 = 1 →
          0 ≤ a2 ∧ a2 < 16 ∧
          q_c 82 [vR 21, vI a1, vI a2, vI (S1 5 a2)] S1 (fun r4 S3 =>
            Q r4 S3) Z))) ∧
      (¬ a2 ≠ 0 →
        Q 256 S1)) ∧
    (¬ r2 ≠ 0 →
      Q 0 S1)) Z) : q_c 89 [vR 26, vI a1, vI a2, vI a3] S Q Z := q_blk 37 h
-- LM$Cells.kind
theorem b_90_0 {Q : q_Q} {Z : q_Z} {S : q_S} (h : q_r 90 2 [vR 26, vI 0] [] S Q Z) : q_c 90 [vR 26] S Q Z := q_blk 2 h
-- LM$Cells.kind
theorem b_90_2 {Q : q_Q} {Z : q_Z} {a1 : Int} {S : q_S} (h : (a1 ≥ 3 →
    Q 3 S) ∧
  (¬ a1 ≥ 3 →
    q_c 97 [vR 26, vI a1] S (fun r2 S1 =>
      (r2 = 0 →
        q_rg (a1 + 1) ∧
        q_r 90 2 [vR 26, vI (a1 + 1)] [] S1 Q Z) ∧
      (¬ r2 = 0 →
        Q a1 S1)) Z)) : q_r 90 2 [vR 26, vI a1] [] S Q Z := q_blk 13 h
-- LM$Cells.actionOf
set_option maxRecDepth 20000 in
theorem b_91_0 {Q : q_Q} {Z : q_Z} {a1 a2 : Int} {S : q_S} (h : q_c 100 [vR 26, vI a1, vI a2] S (fun r2 S1 =>
    q_c 96 [vR 26, vI a1, vI a2, vI 0] S1 (fun r4 S3 =>
      (r4 ≠ (-1) →
        (r4 ≠ 0 →
          (r2 ≠ (-1) →
            q_c 87 [vR 23, vI a2, vI r4] S3 (fun r6 S5 =>
              (r6 = 0 →
                Q r4 S5) ∧
              (¬ r6 = 0 →
                (r6 = 1 →
                q_rg (20 + r2) ∧
                Q (20 + r2) S5) ∧
              (¬ r6 = 1 →
                Q 0 S5))) Z) ∧
          (¬ r2 ≠ (-1) →
            Q r4 S3)) ∧
        (¬ r4 ≠ 0 →
          (r2 ≠ (-1) →
            q_c 87 [vR 23, vI a2, vI r4] S3 (fun r8 S7 =>
              (r8 = 0 →
                Q 16 S7) ∧
              (¬ r8 = 0 →
                (r8 = 1 →
                q_rg (20 + r2) ∧
                Q (20 + r2) S7) ∧
              (¬ r8 = 1 →
                Q 0 S7))) Z) ∧
          (¬ r2 ≠ (-1) →
            Q 16 S3))) ∧
      (¬ r4 ≠ (-1) →
        (r2 ≠ (-1) →
          q_rg (20 + r2) ∧
          Q (20 + r2) S3) ∧
        (¬ r2 ≠ (-1) →
          Q 0 S3))) Z) Z) : q_c 91 [vR 26, vI a1, vI a2] S Q Z := q_blk 69 h
-- LM$Cells.tokensWithAction
theorem b_92_0 {Q : q_Q} {Z : q_Z} {a1 : Int} {S : q_S} (h : q_r 92 4 [vR 26, vI a1, vI 0, vI 0] [] S Q Z) : q_c 92 [vR 26, vI a1] S Q Z := q_blk 4 h
-- LM$Cells.tokensWithAction
theorem b_92_4 {Q : q_Q} {Z : q_Z} {a1 a2 a3 : Int} {S : q_S} (h : (a3 ≥ 9 →
    Q a2 S) ∧
  (¬ a3 ≥ 9 →
    q_c 91 [vR 26, vI a1, vI a3] S (fun r2 S1 =>
      (r2 = 0 →
        q_rg (a3 + 1) ∧
        q_r 92 4 [vR 26, vI a1, vI a2, vI (a3 + 1)] [] S1 Q Z) ∧
      (¬ r2 = 0 →
        q_rg (a3 + 1) ∧
        q_r 92 4 [vR 26, vI a1, vI (q_or a2 (q_shl 1 a3)), vI (a3 + 1)] [] S1 Q Z)) Z)) : q_r 92 4 [vR 26, vI a1, vI a2, vI a3] [] S Q Z := q_blk 20 h
-- LM$Cells.countUnsettled
theorem b_93_0 {Q : q_Q} {Z : q_Z} {S : q_S} (h : q_r 93 4 [vR 26, vI 0, vI 0, vU] [] S Q Z) : q_c 93 [vR 26] S Q Z := q_blk 4 h
-- LM$Cells.countUnsettled
theorem b_93_4 {Q : q_Q} {Z : q_Z} {a1 a2 : Int} {j3 : q_J} {S : q_S} (h : (a2 ≥ (S 16 0) →
    Q a1 S) ∧
  (¬ a2 ≥ (S 16 0) →
    q_r 93 17 [vR 26, vI a1, vI a2, vI 0] [] S Q Z)) : q_r 93 4 [vR 26, vI a1, vI a2, vJ j3] [] S Q Z := q_blk 9 h
-- LM$Cells.countUnsettled
theorem b_93_17 {Q : q_Q} {Z : q_Z} {a1 a2 a3 : Int} {S : q_S} (h : (a3 ≥ 9 →
    q_rg (a2 + 1) ∧
    q_r 93 4 [vR 26, vI a1, vI (a2 + 1), vI a3] [] S Q Z) ∧
  (¬ a3 ≥ 9 →
    q_c 95 [vR 26, vI a2, vI a3] S (fun r2 S1 =>
      (r2 = 0 →
        q_rg (a3 + 1) ∧
        q_r 93 17 [vR 26, vI a1, vI a2, vI (a3 + 1)] [] S1 Q Z) ∧
      (¬ r2 = 0 →
        q_rg (a1 + 1) ∧
        q_rg (a3 + 1) ∧
        q_r 93 17 [vR 26, vI (a1 + 1), vI a2, vI (a3 + 1)] [] S1 Q Z)) Z)) : q_r 93 17 [vR 26, vI a1, vI a2, vI a3] [] S Q Z := q_blk 15 h
-- LM$Cells.unsettledAt
theorem b_94_0 {Q : q_Q} {Z : q_Z} {a1 : Int} {S : q_S} (h : q_r 94 4 [vR 26, vI a1, vI 0, vI 0, vU] [] S Q Z) : q_c 94 [vR 26, vI a1] S Q Z := q_blk 4 h
-- LM$Cells.unsettledAt
theorem b_94_4 {Q : q_Q} {Z : q_Z} {a1 a2 a3 : Int} {j4 : q_J} {S : q_S} (h : (a3 ≥ (S 16 0) →
    Q (-1) S) ∧
  (¬ a3 ≥ (S 16 0) →
    q_r 94 18 [vR 26, vI a1, vI a2, vI a3, vI 0] [] S Q Z)) : q_r 94 4 [vR 26, vI a1, vI a2, vI a3, vJ j4] [] S Q Z := q_blk 9 h
-- LM$Cells.unsettledAt
theorem b_94_18 {Q : q_Q} {Z : q_Z} {a1 a2 a3 a4 : Int} {S : q_S} (h : (a4 ≥ 9 →
    q_rg (a3 + 1) ∧
    q_r 94 4 [vR 26, vI a1, vI a2, vI (a3 + 1), vI a4] [] S Q Z) ∧
  (¬ a4 ≥ 9 →
    q_c 95 [vR 26, vI a3, vI a4] S (fun r2 S1 =>
      (r2 = 0 →
        q_rg (a4 + 1) ∧
        q_r 94 18 [vR 26, vI a1, vI a2, vI a3, vI (a4 + 1)] [] S1 Q Z) ∧
      (¬ r2 = 0 →
        (a2 ≠ a1 →
          q_rg (a2 + 1) ∧
          q_rg (a4 + 1) ∧
          q_r 94 18 [vR 26, vI a1, vI (a2 + 1), vI a3, vI (a4 + 1)] [] S1 Q Z) ∧
        (¬ a2 ≠ a1 →
          q_rg (16 * a3) ∧
          q_rg ((16 * a3) + a4) ∧
          Q ((16 * a3) + a4) S1))) Z)) : q_r 94 18 [vR 26, vI a1, vI a2, vI a3, vI a4] [] S Q Z := q_blk 24 h
-- LM$Cells.isUnsettled
set_option maxRecDepth 20000 in
theorem b_95_0 {Q : q_Q} {Z : q_Z} {a1 a2 : Int} {S : q_S} (h : q_c 96 [vR 26, vI a1, vI a2, vI 0] S (fun r2 S1 =>
    (r2 ≠ (-1) →
      q_rg (r2 + 1) ∧
      q_c 96 [vR 26, vI a1, vI a2, vI (r2 + 1)] S1 (fun r4 S3 =>
        (r4 = (-1) →
          q_c 100 [vR 26, vI a1, vI a2] S3 (fun r6 S5 =>
            (r6 = (-1) →
              q_bo 0 ∧ Q 0 S5) ∧
            (¬ r6 = (-1) →
              q_c 86 [vR 23, vI a2, vI r2] S5 (fun r8 S7 =>
                (r8 ≠ 0 →
                  q_bo 0 ∧ Q 0 S7) ∧
                (¬ r8 ≠ 0 →
                  q_bo 1 ∧ Q 1 S7)) Z)) Z) ∧
        (¬ r4 = (-1) →
          q_bo 1 ∧ Q 1 S3)) Z) ∧
    (¬ r2 ≠ (-1) →
      q_bo 0 ∧ Q 0 S1)) Z) : q_c 95 [vR 26, vI a1, vI a2] S Q Z := q_blk 41 h
-- LM$Cells.nextReduction
theorem b_96_0 {Q : q_Q} {Z : q_Z} {a1 a2 a3 : Int} {S : q_S} (h : q_r 96 3 [vR 26, vI a1, vI a2, vI a3, vI a3] [] S Q Z) : q_c 96 [vR 26, vI a1, vI a2, vI a3] S Q Z := q_blk 2 h
-- LM$Cells.nextReduction
theorem b_96_3 {Q : q_Q} {Z : q_Z} {a1 a2 a4 : Int} {j3 : q_J} {S : q_S} (h : (a4 > (S 3 4) →
    Q (-1) S) ∧
  (¬ a4 > (S 3 4) →
    q_c 89 [vR 26, vI a1, vI a4, vI 2] S (fun r2 S1 =>
      ((q_and (q_shr r2 a2) 1) = 0 →
        q_rg (a4 + 1) ∧
        q_r 96 3 [vR 26, vI a1, vI a2, vJ j3, vI (a4 + 1)] [] S1 Q Z) ∧
      (¬ (q_and (q_shr r2 a2) 1) = 0 →
        Q a4 S1)) Z)) : q_r 96 3 [vR 26, vI a1, vI a2, vJ j3, vI a4] [] S Q Z := q_blk 21 h
-- LM$Cells.isDecidedBy
theorem b_97_0 {Q : q_Q} {Z : q_Z} {a1 : Int} {S : q_S} (h : q_r 97 2 [vR 26, vI a1, vI 0] [] S Q Z) : q_c 97 [vR 26, vI a1] S Q Z := q_blk 2 h
-- LM$Cells.isDecidedBy
theorem b_97_2 {Q : q_Q} {Z : q_Z} {a1 a2 : Int} {S : q_S} (h : (a2 ≥ (S 16 0) →
    q_bo 1 ∧ Q 1 S) ∧
  (¬ a2 ≥ (S 16 0) →
    q_c 98 [vR 26, vI a2, vI a1] S (fun r2 S1 =>
      (r2 = 0 →
        q_rg (a2 + 1) ∧
        q_r 97 2 [vR 26, vI a1, vI (a2 + 1)] [] S1 Q Z) ∧
      (¬ r2 = 0 →
        q_bo 0 ∧ Q 0 S1)) Z)) : q_r 97 2 [vR 26, vI a1, vI a2] [] S Q Z := q_blk 16 h
-- LM$Cells.isTorn
theorem b_98_0 {Q : q_Q} {Z : q_Z} {a1 a2 : Int} {S : q_S} (h : q_c 99 [vR 26, vI a1] S (fun r2 S1 =>
    q_r 98 9 [vR 26, vI a1, vI a2, vI r2, vI 0, vU] [] S1 Q Z) Z) : q_c 98 [vR 26, vI a1, vI a2] S Q Z := q_blk 6 h
-- LM$Cells.isTorn
theorem b_98_9 {Q : q_Q} {Z : q_Z} {a1 a2 a3 a4 : Int} {j5 : q_J} {S : q_S} (h : (a4 > (S 3 4) →
    q_bo 0 ∧ Q 0 S) ∧
  (¬ a4 > (S 3 4) →
    q_c 89 [vR 26, vI a1, vI a4, vI a2] S (fun r2 S1 =>
      ((q_and a3 r2) = 0 →
        q_rg (a4 + 1) ∧
        q_r 98 9 [vR 26, vI a1, vI a2, vI (q_or a3 r2), vI (a4 + 1), vI r2] [] S1 Q Z) ∧
      (¬ (q_and a3 r2) = 0 →
        q_bo 1 ∧ Q 1 S1)) Z)) : q_r 98 9 [vR 26, vI a1, vI a2, vI a3, vI a4, vJ j5] [] S Q Z := q_blk 25 h
-- LM$Cells.shiftTokens
theorem b_99_0 {Q : q_Q} {Z : q_Z} {a1 : Int} {S : q_S} (h : q_r 99 4 [vR 26, vI a1, vI 0, vI 0] [] S Q Z) : q_c 99 [vR 26, vI a1] S Q Z := q_blk 4 h
-- LM$Cells.shiftTokens
theorem b_99_4 {Q : q_Q} {Z : q_Z} {a1 a2 a3 : Int} {S : q_S} (h : (a3 ≥ 8 →
    Q a2 S) ∧
  (¬ a3 ≥ 8 →
    q_c 100 [vR 26, vI a1, vI a3] S (fun r2 S1 =>
      (r2 = (-1) →
        q_rg (a3 + 1) ∧
        q_r 99 4 [vR 26, vI a1, vI a2, vI (a3 + 1)] [] S1 Q Z) ∧
      (¬ r2 = (-1) →
        q_rg (a3 + 1) ∧
        q_r 99 4 [vR 26, vI a1, vI (q_or a2 (q_shl 1 a3)), vI (a3 + 1)] [] S1 Q Z)) Z)) : q_r 99 4 [vR 26, vI a1, vI a2, vI a3] [] S Q Z := q_blk 21 h
-- LM$Cells.shiftGoal
theorem b_100_0 {Q : q_Q} {Z : q_Z} {a1 a2 : Int} {S : q_S} (h : (a2 ≠ 8 →
    q_rg (8 + a2) ∧
    q_c 142 [vR 16, vI a1, vI (8 + a2)] S (fun r2 S1 =>
      Q r2 S1) Z) ∧
  (¬ a2 ≠ 8 →
    Q (-1) S)) : q_c 100 [vR 26, vI a1, vI a2] S Q Z := q_blk 14 h
-- LM$Grammar.clear
theorem b_101_0 {Q : q_Q} {Z : q_Z} {S : q_S} (h : (0 : Int) ≤ 0 ∧ (0 : Int) < 16 ∧
  q_c 176 [vR 6, vI 0] (q_up (q_up S 3 4 0) 5 0 0) (fun _ S1 =>
    Q 0 S1) Z) : q_c 101 [vR 3] S Q Z := q_blk 13 h
-- LM$Grammar.isFull
theorem b_102_0 {Q : q_Q} {Z : q_Z} {S : q_S} (h : q_rg ((S 3 4) + 1) ∧
  (((S 3 4) + 1) ≠ 16 →
    q_bo 0 ∧ Q 0 S) ∧
  (¬ ((S 3 4) + 1) ≠ 16 →
    q_bo 1 ∧ Q 1 S)) : q_c 102 [vR 3] S Q Z := q_blk 11 h
-- LM$Grammar.beginProduction
set_option maxRecDepth 20000 in
theorem b_103_0 {Q : q_Q} {Z : q_Z} {a1 : Int} {S : q_S} (h : q_rg ((S 3 4) + 1) ∧
  0 ≤ ((S 3 4) + 1) ∧ ((S 3 4) + 1) < 16 ∧
  0 ≤ ((S 3 4) + 1) ∧ ((S 3 4) + 1) < 16 ∧
  0 ≤ a1 ∧ a1 < 8 ∧
  ((S 6 a1) ≠ 0 →
    0 ≤ a1 ∧ a1 < 8 ∧
    Q 0 (q_up (q_up (q_up (q_up S 3 4 ((S 3 4) + 1)) 4 ((S 3 4) + 1) a1) 5 ((S 3 4) + 1) 0) 7 a1 ((S 3 4) + 1))) ∧
  (¬ (S 6 a1) ≠ 0 →
    0 ≤ a1 ∧ a1 < 8 ∧
    0 ≤ a1 ∧ a1 < 8 ∧
    Q 0 (q_up (q_up (q_up (q_up (q_up S 3 4 ((S 3 4) + 1)) 4 ((S 3 4) + 1) a1) 5 ((S 3 4) + 1) 0) 6 a1 ((S 3 4) + 1)) 7 a1 ((S 3 4) + 1)))) : q_c 103 [vR 3, vI a1] S Q Z := q_blk 43 h
-- LM$Grammar.addLetter
theorem b_104_0 {Q : q_Q} {Z : q_Z} {a1 a2 : Int} {S : q_S} (h : q_rg (a1 * 4) ∧
  0 ≤ a1 ∧ a1 < 16 ∧
  q_rg ((a1 * 4) + (S 5 a1)) ∧
  0 ≤ ((a1 * 4) + (S 5 a1)) ∧ ((a1 * 4) + (S 5 a1)) < 64 ∧
  0 ≤ a1 ∧ a1 < 16 ∧
  q_rg ((S 5 a1) + 1) ∧
  0 ≤ a1 ∧ a1 < 16 ∧
  Q 0 (q_up (q_up S 8 ((a1 * 4) + (S 5 a1)) a2) 5 a1 ((S 5 a1) + 1))) : q_c 104 [vR 3, vI a1, vI a2] S Q Z := q_blk 21 h
-- LM$Grammar.letter
theorem b_105_0 {Q : q_Q} {Z : q_Z} {a1 a2 : Int} {S : q_S} (h : q_rg (a1 * 4) ∧
  q_rg ((a1 * 4) + a2) ∧
  0 ≤ ((a1 * 4) + a2) ∧ ((a1 * 4) + a2) < 64 ∧
  Q (S 8 ((a1 * 4) + a2)) S) : q_c 105 [vR 3, vI a1, vI a2] S Q Z := q_blk 9 h
-- LM$Grammar.hasRule
theorem b_106_0 {Q : q_Q} {Z : q_Z} {a1 : Int} {S : q_S} (h : 0 ≤ a1 ∧ a1 < 8 ∧
  ((S 6 a1) = 0 →
    q_bo 0 ∧ Q 0 S) ∧
  (¬ (S 6 a1) = 0 →
    q_bo 1 ∧ Q 1 S)) : q_c 106 [vR 3, vI a1] S Q Z := q_blk 10 h
-- LM$Grammar.start
theorem b_107_0 {Q : q_Q} {Z : q_Z} {S : q_S} (h : (0 : Int) ≤ 1 ∧ (1 : Int) < 16 ∧
  Q (S 4 1) S) : q_c 107 [vR 3] S Q Z := q_blk 5 h
-- LM$Grammar.grownFrom
theorem b_108_0 {Q : q_Q} {Z : q_Z} {a1 : Int} {S : q_S} (h : q_r 108 7 [vR 3, vI a1, vI a1, vI 1, vI 0, vU, vU] [] S Q Z) : q_c 108 [vR 3, vI a1] S Q Z := q_blk 6 h
-- LM$Grammar.grownFrom
theorem b_108_7 {Q : q_Q} {Z : q_Z} {a2 a3 a4 : Int} {j1 j5 j6 : q_J} {S : q_S} (h : (a3 = 0 →
    Q a2 S) ∧
  (¬ a3 = 0 →
    (a4 > 8 →
      Q a2 S) ∧
    (¬ a4 > 8 →
      q_r 108 24 [vR 3, vJ j1, vI a2, vI a3, vI a4, vI a2, vI 1] [] S Q Z))) : q_r 108 7 [vR 3, vJ j1, vI a2, vI a3, vI a4, vJ j5, vJ j6] [] S Q Z := q_blk 13 h
-- LM$Grammar.grownFrom
theorem b_108_24 {Q : q_Q} {Z : q_Z} {a2 a4 a5 a6 : Int} {j1 j3 : q_J} {S : q_S} (h : (a6 > (S 3 4) →
    (a2 = a5 →
      q_rg (a4 + 1) ∧
      q_r 108 7 [vR 3, vJ j1, vI a2, vI 0, vI (a4 + 1), vI a5, vI a6] [] S Q Z) ∧
    (¬ a2 = a5 →
      q_rg (a4 + 1) ∧
      q_r 108 7 [vR 3, vJ j1, vI a2, vI 1, vI (a4 + 1), vI a5, vI a6] [] S Q Z)) ∧
  (¬ a6 > (S 3 4) →
    q_c 110 [vR 3, vI a6, vI a2] S (fun r2 S1 =>
      (r2 = 0 →
        q_rg (a6 + 1) ∧
        q_r 108 24 [vR 3, vJ j1, vI a2, vJ j3, vI a4, vI a5, vI (a6 + 1)] [] S1 Q Z) ∧
      (¬ r2 = 0 →
        0 ≤ a6 ∧ a6 < 16 ∧
        q_rg (a6 + 1) ∧
        q_r 108 24 [vR 3, vJ j1, vI (q_or a2 (q_shl 1 (S1 4 a6))), vJ j3, vI a4, vI a5, vI (a6 + 1)] [] S1 Q Z)) Z)) : q_r 108 24 [vR 3, vJ j1, vI a2, vJ j3, vI a4, vI a5, vI a6] [] S Q Z := q_blk 34 h
-- LM$Grammar.reachedSymbols
theorem b_109_0 {Q : q_Q} {Z : q_Z} {S : q_S} (h : q_c 107 [vR 3] S (fun r2 S1 =>
    q_r 109 11 [vR 3, vI (q_shl 1 r2), vI 1, vI 0, vU, vU] [] S1 Q Z) Z) : q_c 109 [vR 3] S Q Z := q_blk 9 h
-- LM$Grammar.reachedSymbols
theorem b_109_11 {Q : q_Q} {Z : q_Z} {a1 a2 a3 : Int} {j4 j5 : q_J} {S : q_S} (h : (a2 = 0 →
    Q a1 S) ∧
  (¬ a2 = 0 →
    (a3 > 8 →
      Q a1 S) ∧
    (¬ a3 > 8 →
      q_r 109 27 [vR 3, vI a1, vI a2, vI a3, vI a1, vI 1] [] S Q Z))) : q_r 109 11 [vR 3, vI a1, vI a2, vI a3, vJ j4, vJ j5] [] S Q Z := q_blk 13 h
-- LM$Grammar.reachedSymbols
theorem b_109_27 {Q : q_Q} {Z : q_Z} {a1 a3 a4 a5 : Int} {j2 : q_J} {S : q_S} (h : (a5 > (S 3 4) →
    (a1 = a4 →
      q_rg (a3 + 1) ∧
      q_r 109 11 [vR 3, vI a1, vI 0, vI (a3 + 1), vI a4, vI a5] [] S Q Z) ∧
    (¬ a1 = a4 →
      q_rg (a3 + 1) ∧
      q_r 109 11 [vR 3, vI a1, vI 1, vI (a3 + 1), vI a4, vI a5] [] S Q Z)) ∧
  (¬ a5 > (S 3 4) →
    0 ≤ a5 ∧ a5 < 16 ∧
    ((q_and (q_shr a1 (S 4 a5)) 1) = 0 →
      q_rg (a5 + 1) ∧
      q_r 109 27 [vR 3, vI a1, vJ j2, vI a3, vI a4, vI (a5 + 1)] [] S Q Z) ∧
    (¬ (q_and (q_shr a1 (S 4 a5)) 1) = 0 →
      q_c 111 [vR 3, vI a5] S (fun r2 S1 =>
        q_rg (a5 + 1) ∧
        q_r 109 27 [vR 3, vI (q_or a1 r2), vJ j2, vI a3, vI a4, vI (a5 + 1)] [] S1 Q Z) Z))) : q_r 109 27 [vR 3, vI a1, vJ j2, vI a3, vI a4, vI a5] [] S Q Z := q_blk 35 h
-- LM$Grammar.isMadeOf
theorem b_110_0 {Q : q_Q} {Z : q_Z} {a1 a2 : Int} {S : q_S} (h : q_c 111 [vR 3, vI a1] S (fun r2 S1 =>
    ((q_and r2 (q_xor a2 (-1))) ≠ 0 →
      q_bo 0 ∧ Q 0 S1) ∧
    (¬ (q_and r2 (q_xor a2 (-1))) ≠ 0 →
      q_bo 1 ∧ Q 1 S1)) Z) : q_c 110 [vR 3, vI a1, vI a2] S Q Z := q_blk 13 h
-- LM$Grammar.symbolsIn
theorem b_111_0 {Q : q_Q} {Z : q_Z} {a1 : Int} {S : q_S} (h : q_r 111 4 [vR 3, vI a1, vI 0, vI 0] [] S Q Z) : q_c 111 [vR 3, vI a1] S Q Z := q_blk 4 h
-- LM$Grammar.symbolsIn
theorem b_111_4 {Q : q_Q} {Z : q_Z} {a1 a2 a3 : Int} {S : q_S} (h : 0 ≤ a1 ∧ a1 < 16 ∧
  (a3 ≥ (S 5 a1) →
    Q a2 S) ∧
  (¬ a3 ≥ (S 5 a1) →
    q_c 105 [vR 3, vI a1, vI a3] S (fun r2 S1 =>
      q_rg (a3 + 1) ∧
      q_r 111 4 [vR 3, vI a1, vI (q_or a2 (q_shl 1 r2)), vI (a3 + 1)] [] S1 Q Z) Z)) : q_r 111 4 [vR 3, vI a1, vI a2, vI a3] [] S Q Z := q_blk 19 h
-- LM$Parse.close
theorem b_112_0 {Q : q_Q} {Z : q_Z} {S : q_S} (h : q_bo 0 ∧
  Q 0 (q_up S 27 0 0)) : q_c 112 [vR 27] S Q Z := q_blk 4 h
-- LM$Parse.begin
theorem b_113_0 {Q : q_Q} {Z : q_Z} {a1 a2 : Int} {S : q_S} (h : q_bo 1 ∧
  (0 : Int) ≤ 0 ∧ (0 : Int) < 24 ∧
  Q 0 (q_up (q_up (q_up (q_up (q_up (q_up (q_up (q_up S 27 0 1) 27 1 0) 27 2 1) 28 0 0) 27 3 0) 30 5 0) 27 10 a1) 27 11 a2)) : q_c 113 [vR 27, vI a1, vI a2] S Q Z := q_blk 28 h
-- LM$Parse.topState
theorem b_114_0 {Q : q_Q} {Z : q_Z} {S : q_S} (h : q_rg ((S 27 2) - 1) ∧
  0 ≤ ((S 27 2) - 1) ∧ ((S 27 2) - 1) < 24 ∧
  Q (S 28 ((S 27 2) - 1)) S) : q_c 114 [vR 27] S Q Z := q_blk 8 h
-- LM$Parse.give
theorem b_115_0 {Q : q_Q} {Z : q_Z} {a1 : Int} {S : q_S} (h : q_r 115 4 [vR 27, vI a1, vI 1, vI 0] [] S Q Z) : q_c 115 [vR 27, vI a1] S Q Z := q_blk 4 h
-- LM$Parse.give
theorem b_115_4 {Q : q_Q} {Z : q_Z} {a1 a2 a3 : Int} {S : q_S} (h : (a2 = 0 →
    Q (S 27 1) S) ∧
  (¬ a2 = 0 →
    (a3 > 60 →
      Q (S 27 1) S) ∧
    (¬ a3 > 60 →
      q_c 114 [vR 27] S (fun r2 S1 =>
        q_c 91 [vR 26, vI r2, vI a1] S1 (fun r4 S3 =>
          q_c 116 [vR 27, vI r4, vI a1] S3 (fun r6 S5 =>
            q_rg (a3 + 1) ∧
            q_r 115 4 [vR 27, vI a1, vI r6, vI (a3 + 1)] [] S5 Q Z) Z) Z) Z))) : q_r 115 4 [vR 27, vI a1, vI a2, vI a3] [] S Q Z := q_blk 23 h
-- LM$Parse.doAction
theorem b_116_0 {Q : q_Q} {Z : q_Z} {a1 a2 : Int} {S : q_S} (h : (a1 ≠ 0 →
    (a1 ≠ 16 →
      (a1 < 20 →
        q_c 118 [vR 27, vI a1] S (fun _ S1 =>
          ((S1 27 1) ≠ 0 →
            q_bo 0 ∧ Q 0 S1) ∧
          (¬ (S1 27 1) ≠ 0 →
            q_bo 1 ∧ Q 1 S1)) Z) ∧
      (¬ a1 < 20 →
        q_rg (a1 - 20) ∧
        q_c 117 [vR 27, vI (a1 - 20), vI a2] S (fun _ S3 =>
          q_bo 0 ∧ Q 0 S3) Z)) ∧
    (¬ a1 ≠ 16 →
      q_bo 0 ∧ Q 0 (q_up S 27 1 1))) ∧
  (¬ a1 ≠ 0 →
    q_bo 0 ∧ Q 0 (q_up S 27 1 2))) : q_c 116 [vR 27, vI a1, vI a2] S Q Z := q_blk 40 h
-- LM$Parse.shift
theorem b_117_0 {Q : q_Q} {Z : q_Z} {a1 a2 : Int} {S : q_S} (h : q_rg ((S 27 2) + 1) ∧
  q_c 120 [vR 27, vI ((S 27 2) + 1)] S (fun r2 S1 =>
    (r2 ≠ 0 →
      q_c 158 [vR 30, vI a2, vI (S1 27 3)] S1 (fun r4 S3 =>
        q_c 121 [vR 27, vI a1, vI r4] S3 (fun _ S5 =>
          q_rg ((S5 27 3) + 1) ∧
          Q 0 (q_up S5 27 3 ((S5 27 3) + 1))) Z) Z) ∧
    (¬ r2 ≠ 0 →
      Q 0 (q_up S1 27 1 3))) Z) : q_c 117 [vR 27, vI a1, vI a2] S Q Z := q_blk 27 h
-- LM$Parse.reduce
set_option maxRecDepth 20000 in
theorem b_118_0 {Q : q_Q} {Z : q_Z} {a1 : Int} {S : q_S} (h : 0 ≤ a1 ∧ a1 < 16 ∧
  q_rg ((S 27 2) - (S 5 a1)) ∧
  0 ≤ a1 ∧ a1 < 16 ∧
  q_c 119 [vR 27, vI ((S 27 2) - (S 5 a1)), vI (S 4 a1)] S (fun r2 S1 =>
    (r2 ≠ (-1) →
      q_rg (((S 27 2) - (S 5 a1)) + 1) ∧
      q_c 120 [vR 27, vI (((S 27 2) - (S 5 a1)) + 1)] S1 (fun r4 S3 =>
        (r4 ≠ 0 →
          q_c 159 [vR 30, vI a1, vR 29, vI ((S 27 2) - (S 5 a1)), vI (S3 27 3)] S3 (fun r6 S5 =>
            q_c 121 [vR 27, vI r2, vI r6] (q_up S5 27 2 ((S 27 2) - (S 5 a1))) (fun _ S7 =>
              Q 0 S7) Z) Z) ∧
        (¬ r4 ≠ 0 →
          Q 0 (q_up S3 27 1 3))) Z) ∧
    (¬ r2 ≠ (-1) →
      Q 0 (q_up S1 27 1 2))) Z) : q_c 118 [vR 27, vI a1] S Q Z := q_blk 55 h
-- LM$Parse.goalFrom
theorem b_119_0 {Q : q_Q} {Z : q_Z} {a1 a2 : Int} {S : q_S} (h : (a1 ≥ 1 →
    q_rg (a1 - 1) ∧
    0 ≤ (a1 - 1) ∧ (a1 - 1) < 24 ∧
    q_c 142 [vR 16, vI (S 28 (a1 - 1)), vI a2] S (fun r2 S1 =>
      Q r2 S1) Z) ∧
  (¬ a1 ≥ 1 →
    Q (-1) S)) : q_c 119 [vR 27, vI a1, vI a2] S Q Z := q_blk 17 h
-- LM$Parse.hasRoom
theorem b_120_0 {Q : q_Q} {Z : q_Z} {a1 : Int} {S : q_S} (h : (a1 > (S 27 10) →
    q_bo 0 ∧ Q 0 S) ∧
  (¬ a1 > (S 27 10) →
    ((S 30 5) ≥ (S 27 11) →
      q_bo 0 ∧ Q 0 S) ∧
    (¬ (S 30 5) ≥ (S 27 11) →
      q_bo 1 ∧ Q 1 S))) : q_c 120 [vR 27, vI a1] S Q Z := q_blk 17 h
-- LM$Parse.push
theorem b_121_0 {Q : q_Q} {Z : q_Z} {a1 a2 : Int} {S : q_S} (h : 0 ≤ (S 27 2) ∧ (S 27 2) < 24 ∧
  0 ≤ (S 27 2) ∧ (S 27 2) < 24 ∧
  q_rg ((S 27 2) + 1) ∧
  Q 0 (q_up (q_up (q_up S 28 (S 27 2) a1) 29 (S 27 2) a2) 27 2 ((S 27 2) + 1))) : q_c 121 [vR 27, vI a1, vI a2] S Q Z := q_blk 19 h
-- LM$Reader.readText
set_option maxRecDepth 20000 in
theorem b_122_0 {Q : q_Q} {Z : q_Z} {S : q_S} (h : q_c 123 [vR 9] S (fun _ S1 =>
    q_c 124 [vR 9] S1 (fun r4 S3 =>
      (r4 ≠ 0 →
        (r4 ≠ 0 →
          (r4 ≠ 0 →
            Q r4 S3) ∧
          (¬ r4 ≠ 0 →
            q_c 109 [vR 3] S3 (fun r6 S5 =>
              q_c 131 [vR 9, vI r6, vI 7] S5 (fun r8 S7 =>
                Q r8 S7) Z) Z)) ∧
        (¬ r4 ≠ 0 →
          q_c 108 [vR 3, vI 65280] S3 (fun r10 S9 =>
            q_c 131 [vR 9, vI r10, vI 6] S9 (fun r12 S11 =>
              (r12 ≠ 0 →
                Q r12 S11) ∧
              (¬ r12 ≠ 0 →
                q_c 109 [vR 3] S11 (fun r14 S13 =>
                  q_c 131 [vR 9, vI r14, vI 7] S13 (fun r16 S15 =>
                    Q r16 S15) Z) Z)) Z) Z)) ∧
      (¬ r4 ≠ 0 →
        q_c 130 [vR 9] S3 (fun r18 S17 =>
          (r18 ≠ 0 →
            (r18 ≠ 0 →
              Q r18 S17) ∧
            (¬ r18 ≠ 0 →
              q_c 109 [vR 3] S17 (fun r20 S19 =>
                q_c 131 [vR 9, vI r20, vI 7] S19 (fun r22 S21 =>
                  Q r22 S21) Z) Z)) ∧
          (¬ r18 ≠ 0 →
            q_c 108 [vR 3, vI 65280] S17 (fun r24 S23 =>
              q_c 131 [vR 9, vI r24, vI 6] S23 (fun r26 S25 =>
                (r26 ≠ 0 →
                  Q r26 S25) ∧
                (¬ r26 ≠ 0 →
                  q_c 109 [vR 3] S25 (fun r28 S27 =>
                    q_c 131 [vR 9, vI r28, vI 7] S27 (fun r30 S29 =>
                      Q r30 S29) Z) Z)) Z) Z)) Z)) Z) Z) : q_c 122 [vR 9] S Q Z := q_blk 82 h
-- LM$Reader.clear
theorem b_123_0 {Q : q_Q} {Z : q_Z} {S : q_S} (h : q_c 101 [vR 3] S (fun _ S1 =>
    q_c 176 [vR 11, vI (-1)] S1 (fun _ S3 =>
      Q 0 (q_up (q_up S3 9 5 0) 9 0 (-1))) Z) Z) : q_c 123 [vR 9] S Q Z := q_blk 14 h
-- LM$Reader.readRules
theorem b_124_0 {Q : q_Q} {Z : q_Z} {S : q_S} (h : q_r 124 2 [vR 9, vI 0, vU, vU] [] S Q Z) : q_c 124 [vR 9] S Q Z := q_blk 2 h
-- LM$Reader.readRules
set_option maxRecDepth 20000 in
theorem b_124_2 {Q : q_Q} {Z : q_Z} {a1 : Int} {j2 j3 : q_J} {S : q_S} (h : (a1 ≥ (S 1 1) →
    ((S 9 5) ≠ 0 →
      Q 1 (q_up S 9 0 (S 1 1))) ∧
    (¬ (S 9 5) ≠ 0 →
      ((S 3 4) ≠ 0 →
        q_c 107 [vR 3] S (fun r2 S1 =>
          q_c 104 [vR 3, vI 0, vI r2] S1 (fun _ S3 =>
            Q 0 S3) Z) Z) ∧
      (¬ (S 3 4) ≠ 0 →
        Q 1 (q_up S 9 0 (S 1 1))))) ∧
  (¬ a1 ≥ (S 1 1) →
    0 ≤ a1 ∧ a1 < 200 ∧
    ((S 2 a1) ≠ 32 →
      q_c 125 [vR 9, vI (S 2 a1), vI a1] S (fun r6 S5 =>
        (r6 = 0 →
          q_rg (a1 + 1) ∧
          q_r 124 2 [vR 9, vI (a1 + 1), vI (S 2 a1), vI r6] [] S5 Q Z) ∧
        (¬ r6 = 0 →
          Q r6 (q_up S5 9 0 a1))) Z) ∧
    (¬ (S 2 a1) ≠ 32 →
      ((0 : Int) = 0 →
        q_rg (a1 + 1) ∧
        q_r 124 2 [vR 9, vI (a1 + 1), vI (S 2 a1), vI 0] [] S Q Z) ∧
      (¬ (0 : Int) = 0 →
        Q 0 (q_up S 9 0 a1))))) : q_r 124 2 [vR 9, vI a1, vJ j2, vJ j3] [] S Q Z := q_blk 70 h
-- LM$Reader.take
theorem b_125_0 {Q : q_Q} {Z : q_Z} {a1 a2 : Int} {S : q_S} (h : ((S 9 5) = 0 →
    q_c 25 [vI a1] S (fun r2 S1 =>
      q_c 126 [vR 9, vI r2, vI a2] S1 (fun r4 S3 =>
        Q r4 S3) Z) Z) ∧
  (¬ (S 9 5) = 0 →
    ((S 9 5) = 1 →
    (a1 ≠ 58 →
      Q 1 S) ∧
    (¬ a1 ≠ 58 →
      q_c 127 [vR 9] S (fun r6 S5 =>
        Q r6 S5) Z)) ∧
  (¬ (S 9 5) = 1 →
    q_c 128 [vR 9, vI a1, vI a2] S (fun r8 S7 =>
      Q r8 S7) Z))) : q_c 125 [vR 9, vI a1, vI a2] S Q Z := q_blk 23 h
-- LM$Reader.beginRule
theorem b_126_0 {Q : q_Q} {Z : q_Z} {a1 a2 : Int} {S : q_S} (h : (a1 = (-1) →
    Q 1 S) ∧
  (¬ a1 = (-1) →
    (a1 < 8 →
      q_c 106 [vR 3, vI a1] S (fun r2 S1 =>
        (r2 = 0 →
          0 ≤ a1 ∧ a1 < 8 ∧
          Q 0 (q_up (q_up (q_up S1 9 6 a1) 10 a1 a2) 9 5 1)) ∧
        (¬ r2 = 0 →
          Q 2 S1)) Z) ∧
    (¬ a1 < 8 →
      Q 1 S))) : q_c 126 [vR 9, vI a1, vI a2] S Q Z := q_blk 30 h
-- LM$Reader.beginAlternative
theorem b_127_0 {Q : q_Q} {Z : q_Z} {S : q_S} (h : q_c 102 [vR 3] S (fun r2 S1 =>
    (r2 = 0 →
      q_c 103 [vR 3, vI (S1 9 6)] S1 (fun _ S3 =>
        Q 0 (q_up S3 9 5 2)) Z) ∧
    (¬ r2 = 0 →
      Q 4 S1)) Z) : q_c 127 [vR 9] S Q Z := q_blk 16 h
-- LM$Reader.takeInAlternatives
theorem b_128_0 {Q : q_Q} {Z : q_Z} {a1 a2 : Int} {S : q_S} (h : (a1 ≠ 124 →
    (a1 ≠ 59 →
      q_c 25 [vI a1] S (fun r2 S1 =>
        (r2 ≠ (-1) →
          q_c 129 [vR 9, vI r2, vI a2] S1 (fun r4 S3 =>
            Q r4 S3) Z) ∧
        (¬ r2 ≠ (-1) →
          Q 1 S1)) Z) ∧
    (¬ a1 ≠ 59 →
      Q 0 (q_up S 9 5 0))) ∧
  (¬ a1 ≠ 124 →
    q_c 127 [vR 9] S (fun r6 S5 =>
      Q r6 S5) Z)) : q_c 128 [vR 9, vI a1, vI a2] S Q Z := q_blk 28 h
-- LM$Reader.takeLetter
theorem b_129_0 {Q : q_Q} {Z : q_Z} {a1 a2 : Int} {S : q_S} (h : 0 ≤ (S 3 4) ∧ (S 3 4) < 16 ∧
  ((S 5 (S 3 4)) ≠ 4 →
    q_c 104 [vR 3, vI (S 3 4), vI a1] S (fun _ S1 =>
      (a1 ≥ 8 →
        Q 0 S1) ∧
      (¬ a1 ≥ 8 →
        0 ≤ a1 ∧ a1 < 8 ∧
        ((S1 11 a1) ≠ (-1) →
          Q 0 S1) ∧
        (¬ (S1 11 a1) ≠ (-1) →
          0 ≤ a1 ∧ a1 < 8 ∧
          Q 0 (q_up S1 11 a1 a2)))) Z) ∧
  (¬ (S 5 (S 3 4)) ≠ 4 →
    Q 3 S)) : q_c 129 [vR 9, vI a1, vI a2] S Q Z := q_blk 38 h
-- LM$Reader.checkRules
theorem b_130_0 {Q : q_Q} {Z : q_Z} {S : q_S} (h : q_r 130 2 [vR 9, vI 0, vU] [] S Q Z) : q_c 130 [vR 9] S Q Z := q_blk 2 h
-- LM$Reader.checkRules
set_option maxRecDepth 20000 in
theorem b_130_2 {Q : q_Q} {Z : q_Z} {a1 : Int} {j2 : q_J} {S : q_S} (h : (a1 ≥ 8 →
    ((S 9 0) ≠ (-1) →
      Q 5 S) ∧
    (¬ (S 9 0) ≠ (-1) →
      Q 0 S)) ∧
  (¬ a1 ≥ 8 →
    0 ≤ a1 ∧ a1 < 8 ∧
    ((S 11 a1) = (-1) →
      q_rg (a1 + 1) ∧
      q_r 130 2 [vR 9, vI (a1 + 1), vI (S 11 a1)] [] S Q Z) ∧
    (¬ (S 11 a1) = (-1) →
      q_c 106 [vR 3, vI a1] S (fun r2 S1 =>
        (r2 ≠ 0 →
          q_rg (a1 + 1) ∧
          q_r 130 2 [vR 9, vI (a1 + 1), vI (S 11 a1)] [] S1 Q Z) ∧
        (¬ r2 ≠ 0 →
          ((S1 9 0) = (-1) →
            q_rg (a1 + 1) ∧
            q_r 130 2 [vR 9, vI (a1 + 1), vI (S 11 a1)] [] (q_up S1 9 0 (S 11 a1)) Q Z) ∧
          (¬ (S1 9 0) = (-1) →
            ((S 11 a1) ≥ (S1 9 0) →
              q_rg (a1 + 1) ∧
              q_r 130 2 [vR 9, vI (a1 + 1), vI (S 11 a1)] [] S1 Q Z) ∧
            (¬ (S 11 a1) ≥ (S1 9 0) →
              q_rg (a1 + 1) ∧
              q_r 130 2 [vR 9, vI (a1 + 1), vI (S 11 a1)] [] (q_up S1 9 0 (S 11 a1)) Q Z)))) Z))) : q_r 130 2 [vR 9, vI a1, vJ j2] [] S Q Z := q_blk 49 h
-- LM$Reader.checkMarked
theorem b_131_0 {Q : q_Q} {Z : q_Z} {a1 a2 : Int} {S : q_S} (h : q_r 131 2 [vR 9, vI a1, vI a2, vI 1, vU] [] S Q Z) : q_c 131 [vR 9, vI a1, vI a2] S Q Z := q_blk 2 h
-- LM$Reader.checkMarked
theorem b_131_2 {Q : q_Q} {Z : q_Z} {a1 a2 a3 : Int} {j4 : q_J} {S : q_S} (h : (a3 > (S 3 4) →
    Q 0 S) ∧
  (¬ a3 > (S 3 4) →
    0 ≤ a3 ∧ a3 < 16 ∧
    ((q_and (q_shr a1 (S 4 a3)) 1) ≠ 0 →
      q_rg (a3 + 1) ∧
      q_r 131 2 [vR 9, vI a1, vI a2, vI (a3 + 1), vI (S 4 a3)] [] S Q Z) ∧
    (¬ (q_and (q_shr a1 (S 4 a3)) 1) ≠ 0 →
      0 ≤ (S 4 a3) ∧ (S 4 a3) < 8 ∧
      Q a2 (q_up S 9 0 (S 10 (S 4 a3)))))) : q_r 131 2 [vR 9, vI a1, vI a2, vI a3, vJ j4] [] S Q Z := q_blk 29 h
-- LM$Sets.find
theorem b_132_0 {Q : q_Q} {Z : q_Z} {S : q_S} (h : q_c 108 [vR 3, vI 0] S (fun r2 S1 =>
    q_c 135 [vR 12] (q_up S1 12 4 r2) (fun _ S3 =>
      q_c 137 [vR 12] S3 (fun _ S5 =>
        Q 0 S5) Z) Z) Z) : q_c 132 [vR 12] S Q Z := q_blk 11 h
-- LM$Sets.isNullable
theorem b_133_0 {Q : q_Q} {Z : q_Z} {a1 : Int} {S : q_S} (h : ((q_and (q_shr (S 12 4) a1) 1) = 0 →
    q_bo 0 ∧ Q 0 S) ∧
  (¬ (q_and (q_shr (S 12 4) a1) 1) = 0 →
    q_bo 1 ∧ Q 1 S)) : q_c 133 [vR 12, vI a1] S Q Z := q_blk 12 h
-- LM$Sets.startsOf
theorem b_134_0 {Q : q_Q} {Z : q_Z} {a1 a2 a3 : Int} {S : q_S} (h : q_rg (a1 * 5) ∧
  q_rg ((a1 * 5) + a2) ∧
  0 ≤ ((a1 * 5) + a2) ∧ ((a1 * 5) + a2) < 80 ∧
  q_r 134 15 [vR 12, vI a1, vI a2, vI a3, vI (S 15 ((a1 * 5) + a2)), vI a2] [] S Q Z) : q_c 134 [vR 12, vI a1, vI a2, vI a3] S Q Z := q_blk 11 h
-- LM$Sets.startsOf
theorem b_134_15 {Q : q_Q} {Z : q_Z} {a1 a3 a4 a5 : Int} {j2 : q_J} {S : q_S} (h : 0 ≤ a1 ∧ a1 < 16 ∧
  (a5 ≥ (S 5 a1) →
    Q (q_or a4 a3) S) ∧
  (¬ a5 ≥ (S 5 a1) →
    q_c 105 [vR 3, vI a1, vI a5] S (fun r2 S1 =>
      q_c 133 [vR 12, vI r2] S1 (fun r4 S3 =>
        (r4 ≠ 0 →
          q_rg (a5 + 1) ∧
          q_r 134 15 [vR 12, vI a1, vJ j2, vI a3, vI a4, vI (a5 + 1)] [] S3 Q Z) ∧
        (¬ r4 ≠ 0 →
          Q a4 S3)) Z) Z)) : q_r 134 15 [vR 12, vI a1, vJ j2, vI a3, vI a4, vI a5] [] S Q Z := q_blk 23 h
-- LM$Sets.findFirst
theorem b_135_0 {Q : q_Q} {Z : q_Z} {S : q_S} (h : q_c 176 [vR 13, vI 0] S (fun _ S1 =>
    q_r 135 12 [vR 12, vI 1, vI 0, vU, vU, vU] [] S1 Q Z) Z) : q_c 135 [vR 12] S Q Z := q_blk 8 h
-- LM$Sets.findFirst
theorem b_135_12 {Q : q_Q} {Z : q_Z} {a1 a2 : Int} {j3 j4 j5 : q_J} {S : q_S} (h : (a1 = 0 →
    q_r 135 107 [vR 12, vI a1, vI 0, vJ j3, vJ j4, vJ j5] [] S Q Z) ∧
  (¬ a1 = 0 →
    (a2 ≥ 1000000 →
      q_r 135 107 [vR 12, vI a1, vI 0, vJ j3, vJ j4, vJ j5] [] S Q Z) ∧
    (¬ a2 ≥ 1000000 →
      q_r 135 26 [vR 12, vI 0, vI a2, vI 1, vJ j4, vJ j5] [] S Q Z))) : q_r 135 12 [vR 12, vI a1, vI a2, vJ j3, vJ j4, vJ j5] [] S Q Z := q_blk 13 h
-- LM$Sets.findFirst
set_option maxRecDepth 20000 in
theorem b_135_26 {Q : q_Q} {Z : q_Z} {a1 a2 a3 : Int} {j4 j5 : q_J} {S : q_S} (h : (a3 > (S 3 4) →
    q_rg (a2 + 1) ∧
    q_r 135 12 [vR 12, vI a1, vI (a2 + 1), vI a3, vJ j4, vJ j5] [] S Q Z) ∧
  (¬ a3 > (S 3 4) →
    0 ≤ a3 ∧ a3 < 16 ∧
    0 ≤ (S 4 a3) ∧ (S 4 a3) < 8 ∧
    0 ≤ (S 4 a3) ∧ (S 4 a3) < 8 ∧
    q_c 136 [vR 12, vI a3, vI 0] S (fun r2 S1 =>
      0 ≤ (S 4 a3) ∧ (S 4 a3) < 8 ∧
      0 ≤ (S 4 a3) ∧ (S 4 a3) < 8 ∧
      (((q_up S1 13 (S 4 a3) (q_or (S 13 (S 4 a3)) r2)) 13 (S 4 a3)) = (S 13 (S 4 a3)) →
        q_rg (a3 + 1) ∧
        q_r 135 26 [vR 12, vI (q_or a1 0), vI a2, vI (a3 + 1), vI (S 4 a3), vI (S 13 (S 4 a3))] [] (q_up S1 13 (S 4 a3) (q_or (S 13 (S 4 a3)) r2)) Q Z) ∧
      (¬ ((q_up S1 13 (S 4 a3) (q_or (S 13 (S 4 a3)) r2)) 13 (S 4 a3)) = (S 13 (S 4 a3)) →
        q_rg (a3 + 1) ∧
        q_r 135 26 [vR 12, vI (q_or a1 1), vI a2, vI (a3 + 1), vI (S 4 a3), vI (S 13 (S 4 a3))] [] (q_up S1 13 (S 4 a3) (q_or (S 13 (S 4 a3)) r2)) Q Z)) Z)) : q_r 135 26 [vR 12, vI a1, vI a2, vI a3, vJ j4, vJ j5] [] S Q Z := q_blk 47 h
-- LM$Sets.findFirst
theorem b_135_107 {Q : q_Q} {Z : q_Z} {a2 : Int} {j1 j3 j4 j5 : q_J} {S : q_S} (h : (a2 > (S 3 4) →
    Q 0 S) ∧
  (¬ a2 > (S 3 4) →
    q_r 135 120 [vR 12, vJ j1, vI a2, vI 0, vJ j4, vJ j5] [] S Q Z)) : q_r 135 107 [vR 12, vJ j1, vI a2, vJ j3, vJ j4, vJ j5] [] S Q Z := q_blk 8 h
-- LM$Sets.findFirst
theorem b_135_120 {Q : q_Q} {Z : q_Z} {a2 a3 : Int} {j1 j4 j5 : q_J} {S : q_S} (h : 0 ≤ a2 ∧ a2 < 16 ∧
  (a3 > (S 5 a2) →
    q_rg (a2 + 1) ∧
    q_r 135 107 [vR 12, vJ j1, vI (a2 + 1), vI a3, vJ j4, vJ j5] [] S Q Z) ∧
  (¬ a3 > (S 5 a2) →
    q_rg (a2 * 5) ∧
    q_rg ((a2 * 5) + a3) ∧
    q_c 136 [vR 12, vI a2, vI a3] S (fun r2 S1 =>
      0 ≤ ((a2 * 5) + a3) ∧ ((a2 * 5) + a3) < 80 ∧
      q_rg (a3 + 1) ∧
      q_r 135 120 [vR 12, vJ j1, vI a2, vI (a3 + 1), vJ j4, vJ j5] [] (q_up S1 15 ((a2 * 5) + a3) r2) Q Z) Z)) : q_r 135 120 [vR 12, vJ j1, vI a2, vI a3, vJ j4, vJ j5] [] S Q Z := q_blk 23 h
-- LM$Sets.firstOfRow
theorem b_136_0 {Q : q_Q} {Z : q_Z} {a1 a2 : Int} {S : q_S} (h : q_r 136 5 [vR 12, vI a1, vI a2, vI 0, vI a2, vU] [] S Q Z) : q_c 136 [vR 12, vI a1, vI a2] S Q Z := q_blk 4 h
-- LM$Sets.firstOfRow
set_option maxRecDepth 20000 in
theorem b_136_5 {Q : q_Q} {Z : q_Z} {a1 a3 a4 : Int} {j2 j5 : q_J} {S : q_S} (h : 0 ≤ a1 ∧ a1 < 16 ∧
  (a4 ≥ (S 5 a1) →
    Q a3 S) ∧
  (¬ a4 ≥ (S 5 a1) →
    q_c 105 [vR 3, vI a1, vI a4] S (fun r2 S1 =>
      (r2 ≥ 8 →
        q_rg (r2 - 8) ∧
        q_c 133 [vR 12, vI r2] S1 (fun r4 S3 =>
          (r4 ≠ 0 →
            q_rg (a4 + 1) ∧
            q_r 136 5 [vR 12, vI a1, vJ j2, vI (q_or a3 (q_shl 1 (r2 - 8))), vI (a4 + 1), vI r2] [] S3 Q Z) ∧
          (¬ r4 ≠ 0 →
            Q (q_or a3 (q_shl 1 (r2 - 8))) S3)) Z) ∧
      (¬ r2 ≥ 8 →
        0 ≤ r2 ∧ r2 < 8 ∧
        q_c 133 [vR 12, vI r2] S1 (fun r6 S5 =>
          (r6 ≠ 0 →
            q_rg (a4 + 1) ∧
            q_r 136 5 [vR 12, vI a1, vJ j2, vI (q_or a3 (S1 13 r2)), vI (a4 + 1), vI r2] [] S5 Q Z) ∧
          (¬ r6 ≠ 0 →
            Q (q_or a3 (S1 13 r2)) S5)) Z)) Z)) : q_r 136 5 [vR 12, vI a1, vJ j2, vI a3, vI a4, vJ j5] [] S Q Z := q_blk 49 h
-- LM$Sets.findFollow
theorem b_137_0 {Q : q_Q} {Z : q_Z} {S : q_S} (h : q_c 176 [vR 14, vI 0] S (fun _ S1 =>
    q_c 107 [vR 3] S1 (fun r4 S3 =>
      0 ≤ r4 ∧ r4 < 8 ∧
      q_r 137 27 [vR 12, vI 1, vI 0, vU] [] (q_up S3 14 r4 256) Q Z) Z) Z) : q_c 137 [vR 12] S Q Z := q_blk 15 h
-- LM$Sets.findFollow
theorem b_137_27 {Q : q_Q} {Z : q_Z} {a1 a2 : Int} {j3 : q_J} {S : q_S} (h : (a1 = 0 →
    Q 0 S) ∧
  (¬ a1 = 0 →
    (a2 ≥ 1000000 →
      Q 0 S) ∧
    (¬ a2 ≥ 1000000 →
      q_r 137 41 [vR 12, vI 0, vI a2, vI 1] [] S Q Z))) : q_r 137 27 [vR 12, vI a1, vI a2, vJ j3] [] S Q Z := q_blk 11 h
-- LM$Sets.findFollow
theorem b_137_41 {Q : q_Q} {Z : q_Z} {a1 a2 a3 : Int} {S : q_S} (h : (a3 > (S 3 4) →
    q_rg (a2 + 1) ∧
    q_r 137 27 [vR 12, vI a1, vI (a2 + 1), vI a3] [] S Q Z) ∧
  (¬ a3 > (S 3 4) →
    q_c 138 [vR 12, vI a3] S (fun r2 S1 =>
      q_rg (a3 + 1) ∧
      q_r 137 41 [vR 12, vI (q_or a1 r2), vI a2, vI (a3 + 1)] [] S1 Q Z) Z)) : q_r 137 41 [vR 12, vI a1, vI a2, vI a3] [] S Q Z := q_blk 15 h
-- LM$Sets.followIn
theorem b_138_0 {Q : q_Q} {Z : q_Z} {a1 : Int} {S : q_S} (h : q_r 138 4 [vR 12, vI a1, vI 0, vI 0, vU, vU] [] S Q Z) : q_c 138 [vR 12, vI a1] S Q Z := q_blk 4 h
-- LM$Sets.followIn
set_option maxRecDepth 20000 in
theorem b_138_4 {Q : q_Q} {Z : q_Z} {a1 a2 a3 : Int} {j4 j5 : q_J} {S : q_S} (h : 0 ≤ a1 ∧ a1 < 16 ∧
  (a3 ≥ (S 5 a1) →
    q_bo a2 ∧ Q a2 S) ∧
  (¬ a3 ≥ (S 5 a1) →
    q_c 105 [vR 3, vI a1, vI a3] S (fun r2 S1 =>
      (r2 ≥ 8 →
        q_rg (a3 + 1) ∧
        q_r 138 4 [vR 12, vI a1, vI a2, vI (a3 + 1), vI r2, vJ j5] [] S1 Q Z) ∧
      (¬ r2 ≥ 8 →
        0 ≤ r2 ∧ r2 < 8 ∧
        0 ≤ r2 ∧ r2 < 8 ∧
        q_rg (a3 + 1) ∧
        0 ≤ a1 ∧ a1 < 16 ∧
        0 ≤ (S1 4 a1) ∧ (S1 4 a1) < 8 ∧
        q_c 134 [vR 12, vI a1, vI (a3 + 1), vI (S1 14 (S1 4 a1))] S1 (fun r4 S3 =>
          0 ≤ r2 ∧ r2 < 8 ∧
          0 ≤ r2 ∧ r2 < 8 ∧
          (((q_up S3 14 r2 (q_or (S1 14 r2) r4)) 14 r2) = (S1 14 r2) →
            q_rg (a3 + 1) ∧
            q_r 138 4 [vR 12, vI a1, vI (q_or a2 0), vI (a3 + 1), vI r2, vI (S1 14 r2)] [] (q_up S3 14 r2 (q_or (S1 14 r2) r4)) Q Z) ∧
          (¬ ((q_up S3 14 r2 (q_or (S1 14 r2) r4)) 14 r2) = (S1 14 r2) →
            q_rg (a3 + 1) ∧
            q_r 138 4 [vR 12, vI a1, vI (q_or a2 1), vI (a3 + 1), vI r2, vI (S1 14 r2)] [] (q_up S3 14 r2 (q_or (S1 14 r2) r4)) Q Z)) Z)) Z)) : q_r 138 4 [vR 12, vI a1, vI a2, vI a3, vJ j4, vJ j5] [] S Q Z := q_blk 64 h
-- LM$States.build
theorem b_139_0 {Q : q_Q} {Z : q_Z} {S : q_S} (h : q_c 144 [vR 16] S (fun _ S1 =>
    q_c 176 [vR 20, vI 0] (q_up S1 16 0 0) (fun _ S3 =>
      (0 : Int) ≤ 0 ∧ (0 : Int) < 16 ∧
      q_c 149 [vR 16] (q_up S3 20 0 1) (fun r6 S5 =>
        q_r 139 31 [vR 16, vI 0, vU] [] S5 Q Z) Z) Z) Z) : q_c 139 [vR 16] S Q Z := q_blk 19 h
-- LM$States.build
theorem b_139_31 {Q : q_Q} {Z : q_Z} {a1 : Int} {j2 : q_J} {S : q_S} (h : (a1 ≥ (S 16 0) →
    q_bo 1 ∧ Q 1 S) ∧
  (¬ a1 ≥ (S 16 0) →
    (a1 ≥ 40 →
      q_bo 1 ∧ Q 1 S) ∧
    (¬ a1 ≥ 40 →
      q_r 139 47 [vR 16, vI a1, vI 0] [] S Q Z))) : q_r 139 31 [vR 16, vI a1, vJ j2] [] S Q Z := q_blk 13 h
-- LM$States.build
theorem b_139_47 {Q : q_Q} {Z : q_Z} {a1 a2 : Int} {S : q_S} (h : (a2 ≥ 16 →
    q_rg (a1 + 1) ∧
    q_r 139 31 [vR 16, vI (a1 + 1), vI a2] [] S Q Z) ∧
  (¬ a2 ≥ 16 →
    q_c 145 [vR 16, vI a1, vI a2] S (fun r2 S1 =>
      (r2 ≠ 0 →
        q_rg (a2 + 1) ∧
        q_r 139 47 [vR 16, vI a1, vI (a2 + 1)] [] S1 Q Z) ∧
      (¬ r2 ≠ 0 →
        q_bo 0 ∧ Q 0 S1)) Z)) : q_r 139 47 [vR 16, vI a1, vI a2] [] S Q Z := q_blk 14 h
-- LM$States.has
theorem b_140_0 {Q : q_Q} {Z : q_Z} {a1 a2 a3 : Int} {S : q_S} (h : q_rg (a1 * 16) ∧
  q_rg ((a1 * 16) + a2) ∧
  0 ≤ ((a1 * 16) + a2) ∧ ((a1 * 16) + a2) < 640 ∧
  ((q_and (q_shr (S 17 ((a1 * 16) + a2)) a3) 1) = 0 →
    q_bo 0 ∧ Q 0 S) ∧
  (¬ (q_and (q_shr (S 17 ((a1 * 16) + a2)) a3) 1) = 0 →
    q_bo 1 ∧ Q 1 S)) : q_c 140 [vR 16, vI a1, vI a2, vI a3] S Q Z := q_blk 18 h
-- LM$States.hasDone
theorem b_141_0 {Q : q_Q} {Z : q_Z} {a1 a2 : Int} {S : q_S} (h : q_rg (a1 * 16) ∧
  q_rg ((a1 * 16) + a2) ∧
  0 ≤ ((a1 * 16) + a2) ∧ ((a1 * 16) + a2) < 640 ∧
  0 ≤ a2 ∧ a2 < 16 ∧
  ((q_and (q_shr (S 17 ((a1 * 16) + a2)) (S 5 a2)) 1) = 0 →
    q_bo 0 ∧ Q 0 S) ∧
  (¬ (q_and (q_shr (S 17 ((a1 * 16) + a2)) (S 5 a2)) 1) = 0 →
    q_bo 1 ∧ Q 1 S)) : q_c 141 [vR 16, vI a1, vI a2] S Q Z := q_blk 22 h
-- LM$States.goal
theorem b_142_0 {Q : q_Q} {Z : q_Z} {a1 a2 : Int} {S : q_S} (h : q_rg (a1 * 16) ∧
  q_rg ((a1 * 16) + a2) ∧
  0 ≤ ((a1 * 16) + a2) ∧ ((a1 * 16) + a2) < 640 ∧
  Q (S 18 ((a1 * 16) + a2)) S) : q_c 142 [vR 16, vI a1, vI a2] S Q Z := q_blk 9 h
-- LM$States.itemAt
theorem b_143_0 {Q : q_Q} {Z : q_Z} {a1 a2 : Int} {S : q_S} (h : q_r 143 5 [vR 16, vI a1, vI a2, vI 0, vI 0, vU] [] S Q Z) : q_c 143 [vR 16, vI a1, vI a2] S Q Z := q_blk 4 h
-- LM$States.itemAt
theorem b_143_5 {Q : q_Q} {Z : q_Z} {a1 a2 a3 a4 : Int} {j5 : q_J} {S : q_S} (h : (a4 > (S 3 4) →
    Q (-1) S) ∧
  (¬ a4 > (S 3 4) →
    q_r 143 20 [vR 16, vI a1, vI a2, vI a3, vI a4, vI 0] [] S Q Z)) : q_r 143 5 [vR 16, vI a1, vI a2, vI a3, vI a4, vJ j5] [] S Q Z := q_blk 9 h
-- LM$States.itemAt
theorem b_143_20 {Q : q_Q} {Z : q_Z} {a1 a2 a3 a4 a5 : Int} {S : q_S} (h : 0 ≤ a4 ∧ a4 < 16 ∧
  (a5 > (S 5 a4) →
    q_rg (a4 + 1) ∧
    q_r 143 5 [vR 16, vI a1, vI a2, vI a3, vI (a4 + 1), vI a5] [] S Q Z) ∧
  (¬ a5 > (S 5 a4) →
    q_c 140 [vR 16, vI a1, vI a4, vI a5] S (fun r2 S1 =>
      (r2 = 0 →
        q_rg (a5 + 1) ∧
        q_r 143 20 [vR 16, vI a1, vI a2, vI a3, vI a4, vI (a5 + 1)] [] S1 Q Z) ∧
      (¬ r2 = 0 →
        (a3 ≠ a2 →
          q_rg (a3 + 1) ∧
          q_rg (a5 + 1) ∧
          q_r 143 20 [vR 16, vI a1, vI a2, vI (a3 + 1), vI a4, vI (a5 + 1)] [] S1 Q Z) ∧
        (¬ a3 ≠ a2 →
          q_rg (8 * a4) ∧
          q_rg ((8 * a4) + a5) ∧
          Q ((8 * a4) + a5) S1))) Z)) : q_r 143 20 [vR 16, vI a1, vI a2, vI a3, vI a4, vI a5] [] S Q Z := q_blk 29 h
-- LM$States.findStands
theorem b_144_0 {Q : q_Q} {Z : q_Z} {S : q_S} (h : q_c 176 [vR 19, vI 0] S (fun _ S1 =>
    q_r 144 10 [vR 16, vI 0, vU] [] S1 Q Z) Z) : q_c 144 [vR 16] S Q Z := q_blk 6 h
-- LM$States.findStands
theorem b_144_10 {Q : q_Q} {Z : q_Z} {a1 : Int} {j2 : q_J} {S : q_S} (h : (a1 > (S 3 4) →
    Q 0 S) ∧
  (¬ a1 > (S 3 4) →
    q_r 144 23 [vR 16, vI a1, vI 0] [] S Q Z)) : q_r 144 10 [vR 16, vI a1, vJ j2] [] S Q Z := q_blk 8 h
-- LM$States.findStands
theorem b_144_23 {Q : q_Q} {Z : q_Z} {a1 a2 : Int} {S : q_S} (h : 0 ≤ a1 ∧ a1 < 16 ∧
  (a2 ≥ (S 5 a1) →
    q_rg (a1 + 1) ∧
    q_r 144 10 [vR 16, vI (a1 + 1), vI a2] [] S Q Z) ∧
  (¬ a2 ≥ (S 5 a1) →
    q_c 105 [vR 3, vI a1, vI a2] S (fun r2 S1 =>
      q_rg (r2 * 16) ∧
      q_rg ((r2 * 16) + a1) ∧
      0 ≤ ((r2 * 16) + a1) ∧ ((r2 * 16) + a1) < 256 ∧
      0 ≤ ((r2 * 16) + a1) ∧ ((r2 * 16) + a1) < 256 ∧
      q_rg (a2 + 1) ∧
      q_r 144 23 [vR 16, vI a1, vI (a2 + 1)] [] (q_up S1 19 ((r2 * 16) + a1) (q_or (S1 19 ((r2 * 16) + a1)) (q_shl 1 a2))) Q Z) Z)) : q_r 144 23 [vR 16, vI a1, vI a2] [] S Q Z := q_blk 29 h
-- LM$States.goFrom
set_option maxRecDepth 20000 in
theorem b_145_0 {Q : q_Q} {Z : q_Z} {a1 a2 : Int} {S : q_S} (h : q_c 146 [vR 16, vI a1, vI a2] S (fun r2 S1 =>
    (r2 = 0 →
      q_rg (a1 * 16) ∧
      q_rg ((a1 * 16) + a2) ∧
      0 ≤ ((a1 * 16) + a2) ∧ ((a1 * 16) + a2) < 640 ∧
      q_bo 1 ∧ Q 1 (q_up S1 18 ((a1 * 16) + a2) (-1))) ∧
    (¬ r2 = 0 →
      q_c 147 [vR 16] S1 (fun r4 S3 =>
        (r4 ≠ (-1) →
          q_rg (a1 * 16) ∧
          q_rg ((a1 * 16) + a2) ∧
          0 ≤ ((a1 * 16) + a2) ∧ ((a1 * 16) + a2) < 640 ∧
          q_bo 1 ∧ Q 1 (q_up S3 18 ((a1 * 16) + a2) r4)) ∧
        (¬ r4 ≠ (-1) →
          ((S3 16 0) ≠ 40 →
            q_c 149 [vR 16] S3 (fun r6 S5 =>
              q_rg (a1 * 16) ∧
              q_rg ((a1 * 16) + a2) ∧
              0 ≤ ((a1 * 16) + a2) ∧ ((a1 * 16) + a2) < 640 ∧
              q_bo 1 ∧ Q 1 (q_up S5 18 ((a1 * 16) + a2) r6)) Z) ∧
          (¬ (S3 16 0) ≠ 40 →
            q_bo 0 ∧ Q 0 S3))) Z)) Z) : q_c 145 [vR 16, vI a1, vI a2] S Q Z := q_blk 55 h
-- LM$States.moveDots
theorem b_146_0 {Q : q_Q} {Z : q_Z} {a1 a2 : Int} {S : q_S} (h : q_r 146 5 [vR 16, vI a1, vI a2, vI 0, vI 0, vU] [] S Q Z) : q_c 146 [vR 16, vI a1, vI a2] S Q Z := q_blk 4 h
-- LM$States.moveDots
set_option maxRecDepth 20000 in
theorem b_146_5 {Q : q_Q} {Z : q_Z} {a1 a2 a3 a4 : Int} {j5 : q_J} {S : q_S} (h : (a4 > (S 3 4) →
    (a3 = 0 →
      q_bo 0 ∧ Q 0 S) ∧
    (¬ a3 = 0 →
      q_bo 1 ∧ Q 1 S)) ∧
  (¬ a4 > (S 3 4) →
    q_rg (a1 * 16) ∧
    q_rg ((a1 * 16) + a4) ∧
    0 ≤ ((a1 * 16) + a4) ∧ ((a1 * 16) + a4) < 640 ∧
    q_rg (a2 * 16) ∧
    q_rg ((a2 * 16) + a4) ∧
    0 ≤ ((a2 * 16) + a4) ∧ ((a2 * 16) + a4) < 256 ∧
    0 ≤ a4 ∧ a4 < 16 ∧
    q_rg (a4 + 1) ∧
    q_r 146 5 [vR 16, vI a1, vI a2, vI (q_or a3 (q_and (S 17 ((a1 * 16) + a4)) (S 19 ((a2 * 16) + a4)))), vI (a4 + 1), vI (q_and (S 17 ((a1 * 16) + a4)) (S 19 ((a2 * 16) + a4)))] [] (q_up S 20 a4 (q_shl (q_and (S 17 ((a1 * 16) + a4)) (S 19 ((a2 * 16) + a4))) 1)) Q Z)) : q_r 146 5 [vR 16, vI a1, vI a2, vI a3, vI a4, vJ j5] [] S Q Z := q_blk 43 h
-- LM$States.findMade
theorem b_147_0 {Q : q_Q} {Z : q_Z} {S : q_S} (h : q_r 147 2 [vR 16, vI 0] [] S Q Z) : q_c 147 [vR 16] S Q Z := q_blk 2 h
-- LM$States.findMade
theorem b_147_2 {Q : q_Q} {Z : q_Z} {a1 : Int} {S : q_S} (h : (a1 ≥ (S 16 0) →
    Q (-1) S) ∧
  (¬ a1 ≥ (S 16 0) →
    q_c 148 [vR 16, vI a1] S (fun r2 S1 =>
      (r2 = 0 →
        q_rg (a1 + 1) ∧
        q_r 147 2 [vR 16, vI (a1 + 1)] [] S1 Q Z) ∧
      (¬ r2 = 0 →
        Q a1 S1)) Z)) : q_r 147 2 [vR 16, vI a1] [] S Q Z := q_blk 14 h
-- LM$States.isMade
theorem b_148_0 {Q : q_Q} {Z : q_Z} {a1 : Int} {S : q_S} (h : q_r 148 2 [vR 16, vI a1, vI 0] [] S Q Z) : q_c 148 [vR 16, vI a1] S Q Z := q_blk 2 h
-- LM$States.isMade
theorem b_148_2 {Q : q_Q} {Z : q_Z} {a1 a2 : Int} {S : q_S} (h : (a2 > (S 3 4) →
    q_bo 1 ∧ Q 1 S) ∧
  (¬ a2 > (S 3 4) →
    q_rg (a1 * 16) ∧
    q_rg ((a1 * 16) + a2) ∧
    0 ≤ ((a1 * 16) + a2) ∧ ((a1 * 16) + a2) < 640 ∧
    0 ≤ a2 ∧ a2 < 16 ∧
    ((q_and (S 17 ((a1 * 16) + a2)) (-2)) = (S 20 a2) →
      q_rg (a2 + 1) ∧
      q_r 148 2 [vR 16, vI a1, vI (a2 + 1)] [] S Q Z) ∧
    (¬ (q_and (S 17 ((a1 * 16) + a2)) (-2)) = (S 20 a2) →
      q_bo 0 ∧ Q 0 S))) : q_r 148 2 [vR 16, vI a1, vI a2] [] S Q Z := q_blk 26 h
-- LM$States.keepMade
theorem b_149_0 {Q : q_Q} {Z : q_Z} {S : q_S} (h : q_c 150 [vR 16] S (fun _ S1 =>
    q_rg ((S1 16 0) * 16) ∧
    ((0 : Int) ≤ 0 ∧ (0 : Int) ≤ ((S1 16 0) * 16) ∧ (0 : Int) ≤ 16 ∧ (0 : Int) + 16 ≤ 16 ∧ (((S1 16 0) * 16) : Int) + 16 ≤ 640) ∧
    q_rg ((S1 16 0) + 1) ∧
    Q (S1 16 0) (q_up (q_cpy S1 20 0 17 ((S1 16 0) * 16) 16) 16 0 ((S1 16 0) + 1))) Z) : q_c 149 [vR 16] S Q Z := q_blk 23 h
-- LM$States.closeMade
theorem b_150_0 {Q : q_Q} {Z : q_Z} {S : q_S} (h : q_r 150 6 [vR 16, vI 0, vI 1, vI 0, vU, vU] [] S Q Z) : q_c 150 [vR 16] S Q Z := q_blk 6 h
-- LM$States.closeMade
theorem b_150_6 {Q : q_Q} {Z : q_Z} {a1 a2 a3 : Int} {j4 j5 : q_J} {S : q_S} (h : (a2 = 0 →
    Q 0 S) ∧
  (¬ a2 = 0 →
    (a3 > 8 →
      Q 0 S) ∧
    (¬ a3 > 8 →
      q_r 150 22 [vR 16, vI a1, vI a2, vI a3, vI a1, vI 0] [] S Q Z))) : q_r 150 6 [vR 16, vI a1, vI a2, vI a3, vJ j4, vJ j5] [] S Q Z := q_blk 11 h
-- LM$States.closeMade
theorem b_150_22 {Q : q_Q} {Z : q_Z} {a1 a3 a4 a5 : Int} {j2 : q_J} {S : q_S} (h : (a5 ≥ 8 →
    (a1 = a4 →
      q_rg (a3 + 1) ∧
      q_r 150 6 [vR 16, vI a1, vI 0, vI (a3 + 1), vI a4, vI a5] [] S Q Z) ∧
    (¬ a1 = a4 →
      q_rg (a3 + 1) ∧
      q_r 150 6 [vR 16, vI a1, vI 1, vI (a3 + 1), vI a4, vI a5] [] S Q Z)) ∧
  (¬ a5 ≥ 8 →
    ((q_and (q_shr a1 a5) 1) ≠ 0 →
      q_rg (a5 + 1) ∧
      q_r 150 22 [vR 16, vI a1, vJ j2, vI a3, vI a4, vI (a5 + 1)] [] S Q Z) ∧
    (¬ (q_and (q_shr a1 a5) 1) ≠ 0 →
      q_c 151 [vR 16, vI a5] S (fun r2 S1 =>
        (r2 = 0 →
          q_rg (a5 + 1) ∧
          q_r 150 22 [vR 16, vI a1, vJ j2, vI a3, vI a4, vI (a5 + 1)] [] S1 Q Z) ∧
        (¬ r2 = 0 →
          q_c 152 [vR 16, vI a5] S1 (fun _ S3 =>
            q_rg (a5 + 1) ∧
            q_r 150 22 [vR 16, vI (q_or a1 (q_shl 1 a5)), vJ j2, vI a3, vI a4, vI (a5 + 1)] [] S3 Q Z) Z)) Z))) : q_r 150 22 [vR 16, vI a1, vJ j2, vI a3, vI a4, vI a5] [] S Q Z := q_blk 40 h
-- LM$States.standsBehindDot
theorem b_151_0 {Q : q_Q} {Z : q_Z} {a1 : Int} {S : q_S} (h : q_r 151 2 [vR 16, vI a1, vI 0] [] S Q Z) : q_c 151 [vR 16, vI a1] S Q Z := q_blk 2 h
-- LM$States.standsBehindDot
theorem b_151_2 {Q : q_Q} {Z : q_Z} {a1 a2 : Int} {S : q_S} (h : (a2 > (S 3 4) →
    q_bo 0 ∧ Q 0 S) ∧
  (¬ a2 > (S 3 4) →
    0 ≤ a2 ∧ a2 < 16 ∧
    q_rg (a1 * 16) ∧
    q_rg ((a1 * 16) + a2) ∧
    0 ≤ ((a1 * 16) + a2) ∧ ((a1 * 16) + a2) < 256 ∧
    ((q_and (S 20 a2) (S 19 ((a1 * 16) + a2))) = 0 →
      q_rg (a2 + 1) ∧
      q_r 151 2 [vR 16, vI a1, vI (a2 + 1)] [] S Q Z) ∧
    (¬ (q_and (S 20 a2) (S 19 ((a1 * 16) + a2))) = 0 →
      q_bo 1 ∧ Q 1 S))) : q_r 151 2 [vR 16, vI a1, vI a2] [] S Q Z := q_blk 25 h
-- LM$States.addProductions
theorem b_152_0 {Q : q_Q} {Z : q_Z} {a1 : Int} {S : q_S} (h : 0 ≤ a1 ∧ a1 < 8 ∧
  0 ≤ a1 ∧ a1 < 8 ∧
  q_r 152 20 [vR 16, vI a1, vI (S 7 a1), vI (S 6 a1)] [] S Q Z) : q_c 152 [vR 16, vI a1] S Q Z := q_blk 12 h
-- LM$States.addProductions
theorem b_152_20 {Q : q_Q} {Z : q_Z} {a2 a3 : Int} {j1 : q_J} {S : q_S} (h : (a3 > a2 →
    Q 0 S) ∧
  (¬ a3 > a2 →
    0 ≤ a3 ∧ a3 < 16 ∧
    0 ≤ a3 ∧ a3 < 16 ∧
    q_rg (a3 + 1) ∧
    q_r 152 20 [vR 16, vJ j1, vI a2, vI (a3 + 1)] [] (q_up S 20 a3 (q_or (S 20 a3) 1)) Q Z)) : q_r 152 20 [vR 16, vJ j1, vI a2, vI a3] [] S Q Z := q_blk 14 h
-- LM$Text.append
theorem b_153_0 {Q : q_Q} {Z : q_Z} {a1 : Int} {S : q_S} (h : q_c 155 [vR 1, vL a1] S (fun r2 S1 =>
    (r2 ≠ 0 →
      q_r 153 12 [vR 1, vL a1, vU, vI 0, vU] [] S1 Q Z) ∧
    (¬ r2 ≠ 0 →
      Q (-1) S1)) Z) : q_c 153 [vR 1, vL a1] S Q Z := q_blk 8 h
-- LM$Text.append
theorem b_153_12 {Q : q_Q} {Z : q_Z} {a1 a3 : Int} {j2 j4 : q_J} {S : q_S} (h : (a3 ≥ 8 →
    Q (S 1 1) S) ∧
  (¬ a3 ≥ 8 →
    q_c 156 [vL a1, vI a3] S (fun r2 S1 =>
      (r2 = 0 →
        q_rg (a3 + 1) ∧
        q_r 153 12 [vR 1, vL a1, vJ j2, vI (a3 + 1), vI r2] [] S1 Q Z) ∧
      (¬ r2 = 0 →
        0 ≤ (S1 1 1) ∧ (S1 1 1) < 200 ∧
        q_ch (r2 % 65536) ∧
        q_rg ((S1 1 1) + 1) ∧
        q_rg (a3 + 1) ∧
        q_r 153 12 [vR 1, vL a1, vJ j2, vI (a3 + 1), vI r2] [] (q_up (q_up S1 2 (S1 1 1) (r2 % 65536)) 1 1 ((S1 1 1) + 1)) Q Z)) Z)) : q_r 153 12 [vR 1, vL a1, vJ j2, vI a3, vJ j4] [] S Q Z := q_blk 29 h
-- LM$Text.clear
theorem b_154_0 {Q : q_Q} {Z : q_Z} {S : q_S} (h : Q (S 1 1) (q_up S 1 1 0)) : q_c 154 [vR 1] S Q Z := q_blk 8 h
-- LM$Text.fits
theorem b_155_0 {Q : q_Q} {Z : q_Z} {a1 : Int} {S : q_S} (h : q_r 155 5 [vR 1, vL a1, vU, vI 0, vI 0, vU] [] S Q Z) : q_c 155 [vR 1, vL a1] S Q Z := q_blk 4 h
-- LM$Text.fits
theorem b_155_5 {Q : q_Q} {Z : q_Z} {a1 a3 a4 : Int} {j2 j5 : q_J} {S : q_S} (h : (a4 ≥ 8 →
    q_rg ((S 1 1) + a3) ∧
    (((S 1 1) + a3) > 200 →
      q_bo 0 ∧ Q 0 S) ∧
    (¬ ((S 1 1) + a3) > 200 →
      q_bo 1 ∧ Q 1 S)) ∧
  (¬ a4 ≥ 8 →
    q_c 156 [vL a1, vI a4] S (fun r2 S1 =>
      (r2 = 0 →
        q_rg (a4 + 1) ∧
        q_r 155 5 [vR 1, vL a1, vJ j2, vI a3, vI (a4 + 1), vI r2] [] S1 Q Z) ∧
      (¬ r2 = 0 →
        (r2 < 32 →
          q_bo 0 ∧ Q 0 S1) ∧
        (¬ r2 < 32 →
          (r2 ≤ 126 →
            q_rg (a3 + 1) ∧
            q_rg (a4 + 1) ∧
            q_r 155 5 [vR 1, vL a1, vJ j2, vI (a3 + 1), vI (a4 + 1), vI r2] [] S1 Q Z) ∧
          (¬ r2 ≤ 126 →
            q_bo 0 ∧ Q 0 S1)))) Z)) : q_r 155 5 [vR 1, vL a1, vJ j2, vI a3, vI a4, vJ j5] [] S Q Z := q_blk 35 h
-- LM$Text.byteAt
theorem b_156_0 {Q : q_Q} {Z : q_Z} {a0 a2 : Int} {S : q_S} (h : q_rg (8 * a2) ∧
  Q (q_and (q_wint (q_wush a0 (8 * a2))) 255) S) : q_c 156 [vL a0, vI a2] S Q Z := q_blk 9 h
-- LM$Tree.childCount
theorem b_157_0 {Q : q_Q} {Z : q_Z} {a1 : Int} {S : q_S} (h : 0 ≤ a1 ∧ a1 < 60 ∧
  ((S 32 a1) ≠ 0 →
    0 ≤ a1 ∧ a1 < 60 ∧
    0 ≤ (S 32 a1) ∧ (S 32 a1) < 16 ∧
    Q (S 5 (S 32 a1)) S) ∧
  (¬ (S 32 a1) ≠ 0 →
    Q 0 S)) : q_c 157 [vR 30, vI a1] S Q Z := q_blk 17 h
-- LM$Tree.addLeaf
theorem b_158_0 {Q : q_Q} {Z : q_Z} {a1 a2 : Int} {S : q_S} (h : q_rg (8 + a1) ∧
  0 ≤ (S 30 5) ∧ (S 30 5) < 60 ∧
  0 ≤ (S 30 5) ∧ (S 30 5) < 60 ∧
  0 ≤ (S 30 5) ∧ (S 30 5) < 60 ∧
  q_rg (a2 + 1) ∧
  0 ≤ (S 30 5) ∧ (S 30 5) < 60 ∧
  q_rg ((S 30 5) + 1) ∧
  Q (S 30 5) (q_up (q_up (q_up (q_up (q_up S 31 (S 30 5) (8 + a1)) 32 (S 30 5) 0) 33 (S 30 5) a2) 34 (S 30 5) (a2 + 1)) 30 5 ((S 30 5) + 1))) : q_c 158 [vR 30, vI a1, vI a2] S Q Z := q_blk 35 h
-- LM$Tree.addBranch
set_option maxRecDepth 20000 in
theorem b_159_0 {Q : q_Q} {Z : q_Z} {a1 a3 a4 : Int} {S : q_S} (h : 0 ≤ a1 ∧ a1 < 16 ∧
  0 ≤ a1 ∧ a1 < 16 ∧
  0 ≤ (S 30 5) ∧ (S 30 5) < 60 ∧
  0 ≤ (S 30 5) ∧ (S 30 5) < 60 ∧
  q_rg ((S 30 5) * 4) ∧
  ((0 : Int) ≤ a3 ∧ (0 : Int) ≤ ((S 30 5) * 4) ∧ (0 : Int) ≤ (S 5 a1) ∧ (a3 : Int) + (S 5 a1) ≤ 24 ∧ (((S 30 5) * 4) : Int) + (S 5 a1) ≤ 240) ∧
  ((S 5 a1) ≠ 0 →
    0 ≤ a3 ∧ a3 < 24 ∧
    0 ≤ (S 29 a3) ∧ (S 29 a3) < 60 ∧
    0 ≤ (S 30 5) ∧ (S 30 5) < 60 ∧
    ((S 5 a1) ≠ 0 →
      q_rg (a3 + (S 5 a1)) ∧
      q_rg ((a3 + (S 5 a1)) - 1) ∧
      0 ≤ ((a3 + (S 5 a1)) - 1) ∧ ((a3 + (S 5 a1)) - 1) < 24 ∧
      0 ≤ (S 29 ((a3 + (S 5 a1)) - 1)) ∧ (S 29 ((a3 + (S 5 a1)) - 1)) < 60 ∧
      0 ≤ (S 30 5) ∧ (S 30 5) < 60 ∧
      q_rg ((S 30 5) + 1) ∧
      Q (S 30 5) (q_up (q_up (q_up (q_cpy (q_up (q_up S 31 (S 30 5) (S 4 a1)) 32 (S 30 5) a1) 29 a3 35 ((S 30 5) * 4) (S 5 a1)) 33 (S 30 5) (S 33 (S 29 a3))) 34 (S 30 5) (S 34 (S 29 ((a3 + (S 5 a1)) - 1)))) 30 5 ((S 30 5) + 1))) ∧
    (¬ (S 5 a1) ≠ 0 →
      0 ≤ (S 30 5) ∧ (S 30 5) < 60 ∧
      q_rg ((S 30 5) + 1) ∧
      Q (S 30 5) (q_up (q_up (q_up (q_cpy (q_up (q_up S 31 (S 30 5) (S 4 a1)) 32 (S 30 5) a1) 29 a3 35 ((S 30 5) * 4) (S 5 a1)) 33 (S 30 5) (S 33 (S 29 a3))) 34 (S 30 5) a4) 30 5 ((S 30 5) + 1)))) ∧
  (¬ (S 5 a1) ≠ 0 →
    0 ≤ (S 30 5) ∧ (S 30 5) < 60 ∧
    ((S 5 a1) ≠ 0 →
      q_rg (a3 + (S 5 a1)) ∧
      q_rg ((a3 + (S 5 a1)) - 1) ∧
      0 ≤ ((a3 + (S 5 a1)) - 1) ∧ ((a3 + (S 5 a1)) - 1) < 24 ∧
      0 ≤ (S 29 ((a3 + (S 5 a1)) - 1)) ∧ (S 29 ((a3 + (S 5 a1)) - 1)) < 60 ∧
      0 ≤ (S 30 5) ∧ (S 30 5) < 60 ∧
      q_rg ((S 30 5) + 1) ∧
      Q (S 30 5) (q_up (q_up (q_up (q_cpy (q_up (q_up S 31 (S 30 5) (S 4 a1)) 32 (S 30 5) a1) 29 a3 35 ((S 30 5) * 4) (S 5 a1)) 33 (S 30 5) a4) 34 (S 30 5) (S 34 (S 29 ((a3 + (S 5 a1)) - 1)))) 30 5 ((S 30 5) + 1))) ∧
    (¬ (S 5 a1) ≠ 0 →
      0 ≤ (S 30 5) ∧ (S 30 5) < 60 ∧
      q_rg ((S 30 5) + 1) ∧
      Q (S 30 5) (q_up (q_up (q_up (q_cpy (q_up (q_up S 31 (S 30 5) (S 4 a1)) 32 (S 30 5) a1) 29 a3 35 ((S 30 5) * 4) (S 5 a1)) 33 (S 30 5) a4) 34 (S 30 5) a4) 30 5 ((S 30 5) + 1))))) : q_c 159 [vR 30, vI a1, vR 29, vI a3, vI a4] S Q Z := q_blk 117 h
-- LMLaw.bind
theorem b_160_0 {Q : q_Q} {Z : q_Z} {a1 a2 a3 : Int} {S : q_S} (h : q_c 4 [vR 0, vI a1, vI a2, vI a3] S (fun _ S1 =>
    Q 0 S1) (fun e T => bif Nat.beq 0 e then (Q 1 T) else False)) : q_c 160 [vR 0, vI a1, vI a2, vI a3] S Q Z := q_blk 10 h
-- LMLaw.number
theorem b_161_0 {Q : q_Q} {Z : q_Z} {a1 : Int} {S : q_S} (h : q_c 5 [vR 0, vI a1] S (fun r2 S1 =>
    (0 : Int) ≤ 0 ∧ (0 : Int) < 1 ∧
    Q 0 (q_up S1 62 0 r2)) (fun e T => bif Nat.beq 1 e then (Q 1 T) else bif Nat.beq 0 e then (Q 2 T) else False)) : q_c 161 [vR 0, vI a1, vR 62] S Q Z := q_blk 14 h
-- LMLaw.symbol
theorem b_162_0 {Q : q_Q} {Z : q_Z} {a1 a2 : Int} {S : q_S} (h : q_c 6 [vR 0, vI a1, vI a2] S (fun r2 S1 =>
    (0 : Int) ≤ 0 ∧ (0 : Int) < 1 ∧
    Q 0 (q_up S1 62 0 r2)) (fun e T => bif Nat.beq 1 e then (Q 1 T) else bif Nat.beq 2 e then (Q 2 T) else False)) : q_c 162 [vR 0, vI a1, vI a2, vR 62] S Q Z := q_blk 15 h
-- LMLaw.set
theorem b_163_0 {Q : q_Q} {Z : q_Z} {a1 a2 : Int} {S : q_S} (h : q_c 7 [vR 0, vI a1, vI a2] S (fun r2 S1 =>
    (0 : Int) ≤ 0 ∧ (0 : Int) < 1 ∧
    Q 0 (q_up S1 62 0 r2)) (fun e T => bif Nat.beq 1 e then (Q 1 T) else bif Nat.beq 0 e then (Q 2 T) else False)) : q_c 163 [vR 0, vI a1, vI a2, vR 62] S Q Z := q_blk 15 h
-- LMLaw.item
theorem b_164_0 {Q : q_Q} {Z : q_Z} {a1 a2 : Int} {S : q_S} (h : q_c 8 [vR 0, vI a1, vI a2] S (fun r2 S1 =>
    (0 : Int) ≤ 0 ∧ (0 : Int) < 1 ∧
    Q 0 (q_up S1 62 0 r2)) (fun e T => bif Nat.beq 1 e then (Q 1 T) else bif Nat.beq 2 e then (Q 2 T) else False)) : q_c 164 [vR 0, vI a1, vI a2, vR 62] S Q Z := q_blk 15 h
-- LMLaw.go
theorem b_165_0 {Q : q_Q} {Z : q_Z} {a1 a2 : Int} {S : q_S} (h : q_c 9 [vR 0, vI a1, vI a2] S (fun r2 S1 =>
    (0 : Int) ≤ 0 ∧ (0 : Int) < 1 ∧
    Q 0 (q_up S1 62 0 r2)) (fun e T => bif Nat.beq 1 e then (Q 1 T) else bif Nat.beq 2 e then (Q 2 T) else bif Nat.beq 0 e then (Q 3 T) else False)) : q_c 165 [vR 0, vI a1, vI a2, vR 62] S Q Z := q_blk 17 h
-- LMLaw.behind
theorem b_166_0 {Q : q_Q} {Z : q_Z} {a1 a2 a3 : Int} {S : q_S} (h : q_c 10 [vR 0, vI a1, vI a2, vI a3] S (fun r2 S1 =>
    (0 : Int) ≤ 0 ∧ (0 : Int) < 1 ∧
    Q 0 (q_up S1 62 0 r2)) (fun e T => bif Nat.beq 1 e then (Q 1 T) else bif Nat.beq 2 e then (Q 2 T) else bif Nat.beq 0 e then (Q 3 T) else False)) : q_c 166 [vR 0, vI a1, vI a2, vI a3, vR 62] S Q Z := q_blk 18 h
-- LMLaw.action
theorem b_167_0 {Q : q_Q} {Z : q_Z} {a1 a2 : Int} {S : q_S} (h : q_c 11 [vR 0, vI a1, vI a2] S (fun r2 S1 =>
    (0 : Int) ≤ 0 ∧ (0 : Int) < 1 ∧
    Q 0 (q_up S1 62 0 r2)) (fun e T => bif Nat.beq 1 e then (Q 1 T) else bif Nat.beq 2 e then (Q 2 T) else bif Nat.beq 0 e then (Q 3 T) else False)) : q_c 167 [vR 0, vI a1, vI a2, vR 62] S Q Z := q_blk 17 h
-- LMLaw.unsettled
theorem b_168_0 {Q : q_Q} {Z : q_Z} {a1 : Int} {S : q_S} (h : q_c 12 [vR 0, vI a1] S (fun r2 S1 =>
    (0 : Int) ≤ 0 ∧ (0 : Int) < 1 ∧
    Q 0 (q_up S1 62 0 r2)) (fun e T => bif Nat.beq 1 e then (Q 1 T) else False)) : q_c 168 [vR 0, vI a1, vR 62] S Q Z := q_blk 12 h
-- LMLaw.opn
theorem b_169_0 {Q : q_Q} {Z : q_Z} {a1 a2 : Int} {S : q_S} (h : q_c 13 [vR 0, vI a1, vI a2] S (fun _ S1 =>
    Q 0 S1) (fun e T => bif Nat.beq 1 e then (Q 1 T) else bif Nat.beq 0 e then (Q 2 T) else False)) : q_c 169 [vR 0, vI a1, vI a2] S Q Z := q_blk 11 h
-- LMLaw.token
theorem b_170_0 {Q : q_Q} {Z : q_Z} {a1 : Int} {S : q_S} (h : q_c 14 [vR 0, vI a1] S (fun r2 S1 =>
    (0 : Int) ≤ 0 ∧ (0 : Int) < 1 ∧
    Q 0 (q_up S1 62 0 r2)) (fun e T => bif Nat.beq 1 e then (Q 1 T) else bif Nat.beq 0 e then (Q 2 T) else False)) : q_c 170 [vR 0, vI a1, vR 62] S Q Z := q_blk 14 h
-- LMLaw.stack
theorem b_171_0 {Q : q_Q} {Z : q_Z} {a1 : Int} {S : q_S} (h : q_c 16 [vR 0, vI a1] S (fun r2 S1 =>
    (0 : Int) ≤ 0 ∧ (0 : Int) < 1 ∧
    Q 0 (q_up S1 62 0 r2)) (fun e T => bif Nat.beq 2 e then (Q 1 T) else False)) : q_c 171 [vR 0, vI a1, vR 62] S Q Z := q_blk 12 h
-- LMLaw.expected
theorem b_172_0 {Q : q_Q} {Z : q_Z} {S : q_S} (h : q_c 17 [vR 0] S (fun r2 S1 =>
    (0 : Int) ≤ 0 ∧ (0 : Int) < 1 ∧
    Q 0 (q_up S1 62 0 r2)) (fun e T => bif Nat.beq 1 e then (Q 1 T) else False)) : q_c 172 [vR 0, vR 62] S Q Z := q_blk 11 h
-- LMLaw.node
theorem b_173_0 {Q : q_Q} {Z : q_Z} {a1 a2 : Int} {S : q_S} (h : q_c 18 [vR 0, vI a1, vI a2] S (fun r2 S1 =>
    (0 : Int) ≤ 0 ∧ (0 : Int) < 1 ∧
    Q 0 (q_up S1 62 0 r2)) (fun e T => bif Nat.beq 2 e then (Q 1 T) else bif Nat.beq 0 e then (Q 2 T) else False)) : q_c 173 [vR 0, vI a1, vI a2, vR 62] S Q Z := q_blk 15 h
-- LMLaw.child
theorem b_174_0 {Q : q_Q} {Z : q_Z} {a1 a2 : Int} {S : q_S} (h : q_c 19 [vR 0, vI a1, vI a2] S (fun r2 S1 =>
    (0 : Int) ≤ 0 ∧ (0 : Int) < 1 ∧
    Q 0 (q_up S1 62 0 r2)) (fun e T => bif Nat.beq 2 e then (Q 1 T) else False)) : q_c 174 [vR 0, vI a1, vI a2, vR 62] S Q Z := q_blk 13 h
-- LMLaw.law
set_option maxRecDepth 20000 in
theorem b_175_23 {Q : q_Q} {Z : q_Z} {a4 : Int} {j5 j6 : q_J} {S : q_S} (h : q_rg ((S 64 0) - 4) ∧
  (a4 > ((S 64 0) - 4) →
    q_bo 1 ∧ Q 1 S) ∧
  (¬ a4 > ((S 64 0) - 4) →
    0 ≤ a4 ∧ a4 < S 64 0 ∧
    (((q_and (S 63 a4) 31) = 0 →
      q_rg (a4 + 1) ∧
      0 ≤ (a4 + 1) ∧ (a4 + 1) < S 64 0 ∧
      q_rg (a4 + 2) ∧
      0 ≤ (a4 + 2) ∧ (a4 + 2) < S 64 0 ∧
      q_c 0 [vR 0, vL (q_wor (q_wshl (S 63 (a4 + 1)) 32) (q_wand (S 63 (a4 + 2)) 4294967295))] S (fun r2 S1 =>
        q_rg (a4 + 1) ∧
        0 ≤ (a4 + 1) ∧ (a4 + 1) < S1 64 0 ∧
        q_rg (a4 + 2) ∧
        0 ≤ (a4 + 2) ∧ (a4 + 2) < S1 64 0 ∧
        q_c 32 [vR 36, vL (q_wor (q_wshl (S1 63 (a4 + 1)) 32) (q_wand (S1 63 (a4 + 2)) 4294967295))] S1 (fun r4 S3 =>
          (r2 = r4 →
            q_rg (a4 + 4) ∧
            q_r 175 23 [vR 63, vR 0, vR 36, vR 62, vI (a4 + 4), vJ j5, vJ j6] [] S3 Q Z) ∧
          (¬ r2 = r4 →
            q_bo 0 ∧ Q 0 S3)) Z) Z) ∧
    (((q_and (S 63 a4) 31) = 1 →
      q_c 1 [vR 0] S (fun r6 S5 =>
        q_c 33 [vR 36] S5 (fun r8 S7 =>
          (r6 = r8 →
            q_rg (a4 + 4) ∧
            q_r 175 23 [vR 63, vR 0, vR 36, vR 62, vI (a4 + 4), vJ j5, vJ j6] [] S7 Q Z) ∧
          (¬ r6 = r8 →
            q_bo 0 ∧ Q 0 S7)) Z) Z) ∧
    (((q_and (S 63 a4) 31) = 2 →
      q_c 2 [vR 0] S (fun r10 S9 =>
        q_c 40 [vR 36] S9 (fun r12 S11 =>
          (r10 = r12 →
            q_rg (a4 + 4) ∧
            q_r 175 23 [vR 63, vR 0, vR 36, vR 62, vI (a4 + 4), vJ j5, vJ j6] [] S11 Q Z) ∧
          (¬ r10 = r12 →
            q_bo 0 ∧ Q 0 S11)) Z) Z) ∧
    (((q_and (S 63 a4) 31) = 3 →
      q_c 3 [vR 0] S (fun r14 S13 =>
        q_c 41 [vR 36] S13 (fun r16 S15 =>
          (r14 = r16 →
            q_rg (a4 + 4) ∧
            q_r 175 23 [vR 63, vR 0, vR 36, vR 62, vI (a4 + 4), vJ j5, vJ j6] [] S15 Q Z) ∧
          (¬ r14 = r16 →
            q_bo 0 ∧ Q 0 S15)) Z) Z) ∧
    (((q_and (S 63 a4) 31) = 4 →
      q_rg (a4 + 1) ∧
      0 ≤ (a4 + 1) ∧ (a4 + 1) < S 64 0 ∧
      q_rg (a4 + 2) ∧
      0 ≤ (a4 + 2) ∧ (a4 + 2) < S 64 0 ∧
      q_rg (a4 + 3) ∧
      0 ≤ (a4 + 3) ∧ (a4 + 3) < S 64 0 ∧
      q_c 160 [vR 0, vI ((S 63 (a4 + 1)) % 65536), vI (S 63 (a4 + 2)), vI (S 63 (a4 + 3))] S (fun r18 S17 =>
        q_rg (a4 + 1) ∧
        0 ≤ (a4 + 1) ∧ (a4 + 1) < S17 64 0 ∧
        q_rg (a4 + 2) ∧
        0 ≤ (a4 + 2) ∧ (a4 + 2) < S17 64 0 ∧
        q_rg (a4 + 3) ∧
        0 ≤ (a4 + 3) ∧ (a4 + 3) < S17 64 0 ∧
        q_c 61 [vR 36, vI ((S17 63 (a4 + 1)) % 65536), vI (S17 63 (a4 + 2)), vI (S17 63 (a4 + 3))] S17 (fun _ S19 =>
          q_c 28 [vR 36] S19 (fun r22 S21 =>
            (r22 = r18 →
              q_rg (a4 + 4) ∧
              q_r 175 23 [vR 63, vR 0, vR 36, vR 62, vI (a4 + 4), vI r18, vJ j6] [] S21 Q Z) ∧
            (¬ r22 = r18 →
              q_bo 0 ∧ Q 0 S21)) Z) Z) Z) ∧
    (((q_and (S 63 a4) 31) = 5 →
      q_rg (a4 + 1) ∧
      0 ≤ (a4 + 1) ∧ (a4 + 1) < S 64 0 ∧
      q_c 161 [vR 0, vI (S 63 (a4 + 1)), vR 62] S (fun r24 S23 =>
        q_rg (a4 + 1) ∧
        0 ≤ (a4 + 1) ∧ (a4 + 1) < S23 64 0 ∧
        q_c 62 [vR 36, vI (S23 63 (a4 + 1))] S23 (fun r26 S25 =>
          q_c 28 [vR 36] S25 (fun r28 S27 =>
            (r28 = r24 →
              (r24 ≠ 0 →
                q_rg (a4 + 4) ∧
                q_r 175 23 [vR 63, vR 0, vR 36, vR 62, vI (a4 + 4), vI r24, vI r26] [] S27 Q Z) ∧
              (¬ r24 ≠ 0 →
                (0 : Int) ≤ 0 ∧ (0 : Int) < 1 ∧
                ((q_wcmp (S27 62 0) r26) = 0 →
                  q_rg (a4 + 4) ∧
                  q_r 175 23 [vR 63, vR 0, vR 36, vR 62, vI (a4 + 4), vI r24, vI r26] [] S27 Q Z) ∧
                (¬ (q_wcmp (S27 62 0) r26) = 0 →
                  q_bo 0 ∧ Q 0 S27))) ∧
            (¬ r28 = r24 →
              q_bo 0 ∧ Q 0 S27)) Z) Z) Z) ∧
    (((q_and (S 63 a4) 31) = 6 →
      q_rg (a4 + 1) ∧
      0 ≤ (a4 + 1) ∧ (a4 + 1) < S 64 0 ∧
      q_rg (a4 + 2) ∧
      0 ≤ (a4 + 2) ∧ (a4 + 2) < S 64 0 ∧
      q_c 162 [vR 0, vI (S 63 (a4 + 1)), vI (S 63 (a4 + 2)), vR 62] S (fun r30 S29 =>
        q_rg (a4 + 1) ∧
        0 ≤ (a4 + 1) ∧ (a4 + 1) < S29 64 0 ∧
        q_rg (a4 + 2) ∧
        0 ≤ (a4 + 2) ∧ (a4 + 2) < S29 64 0 ∧
        q_c 65 [vR 36, vI (S29 63 (a4 + 1)), vI (S29 63 (a4 + 2))] S29 (fun r32 S31 =>
          q_c 28 [vR 36] S31 (fun r34 S33 =>
            (r34 = r30 →
              (r30 ≠ 0 →
                q_rg (a4 + 4) ∧
                q_r 175 23 [vR 63, vR 0, vR 36, vR 62, vI (a4 + 4), vI r30, vI r32] [] S33 Q Z) ∧
              (¬ r30 ≠ 0 →
                (0 : Int) ≤ 0 ∧ (0 : Int) < 1 ∧
                ((q_wcmp (S33 62 0) r32) = 0 →
                  q_rg (a4 + 4) ∧
                  q_r 175 23 [vR 63, vR 0, vR 36, vR 62, vI (a4 + 4), vI r30, vI r32] [] S33 Q Z) ∧
                (¬ (q_wcmp (S33 62 0) r32) = 0 →
                  q_bo 0 ∧ Q 0 S33))) ∧
            (¬ r34 = r30 →
              q_bo 0 ∧ Q 0 S33)) Z) Z) Z) ∧
    (((q_and (S 63 a4) 31) = 7 →
      q_rg (a4 + 1) ∧
      0 ≤ (a4 + 1) ∧ (a4 + 1) < S 64 0 ∧
      q_rg (a4 + 2) ∧
      0 ≤ (a4 + 2) ∧ (a4 + 2) < S 64 0 ∧
      q_c 163 [vR 0, vI ((S 63 (a4 + 1)) % 65536), vI (S 63 (a4 + 2)), vR 62] S (fun r36 S35 =>
        q_rg (a4 + 1) ∧
        0 ≤ (a4 + 1) ∧ (a4 + 1) < S35 64 0 ∧
        q_rg (a4 + 2) ∧
        0 ≤ (a4 + 2) ∧ (a4 + 2) < S35 64 0 ∧
        q_c 66 [vR 36, vI ((S35 63 (a4 + 1)) % 65536), vI (S35 63 (a4 + 2))] S35 (fun r38 S37 =>
          q_c 28 [vR 36] S37 (fun r40 S39 =>
            (r40 = r36 →
              (r36 ≠ 0 →
                q_rg (a4 + 4) ∧
                q_r 175 23 [vR 63, vR 0, vR 36, vR 62, vI (a4 + 4), vI r36, vI r38] [] S39 Q Z) ∧
              (¬ r36 ≠ 0 →
                (0 : Int) ≤ 0 ∧ (0 : Int) < 1 ∧
                ((q_wcmp (S39 62 0) r38) = 0 →
                  q_rg (a4 + 4) ∧
                  q_r 175 23 [vR 63, vR 0, vR 36, vR 62, vI (a4 + 4), vI r36, vI r38] [] S39 Q Z) ∧
                (¬ (q_wcmp (S39 62 0) r38) = 0 →
                  q_bo 0 ∧ Q 0 S39))) ∧
            (¬ r40 = r36 →
              q_bo 0 ∧ Q 0 S39)) Z) Z) Z) ∧
    (((q_and (S 63 a4) 31) = 8 →
      q_rg (a4 + 1) ∧
      0 ≤ (a4 + 1) ∧ (a4 + 1) < S 64 0 ∧
      q_rg (a4 + 2) ∧
      0 ≤ (a4 + 2) ∧ (a4 + 2) < S 64 0 ∧
      q_c 164 [vR 0, vI (S 63 (a4 + 1)), vI (S 63 (a4 + 2)), vR 62] S (fun r42 S41 =>
        q_rg (a4 + 1) ∧
        0 ≤ (a4 + 1) ∧ (a4 + 1) < S41 64 0 ∧
        q_rg (a4 + 2) ∧
        0 ≤ (a4 + 2) ∧ (a4 + 2) < S41 64 0 ∧
        q_c 67 [vR 36, vI (S41 63 (a4 + 1)), vI (S41 63 (a4 + 2))] S41 (fun r44 S43 =>
          q_c 28 [vR 36] S43 (fun r46 S45 =>
            (r46 = r42 →
              (r42 ≠ 0 →
                q_rg (a4 + 4) ∧
                q_r 175 23 [vR 63, vR 0, vR 36, vR 62, vI (a4 + 4), vI r42, vI r44] [] S45 Q Z) ∧
              (¬ r42 ≠ 0 →
                (0 : Int) ≤ 0 ∧ (0 : Int) < 1 ∧
                ((q_wcmp (S45 62 0) r44) = 0 →
                  q_rg (a4 + 4) ∧
                  q_r 175 23 [vR 63, vR 0, vR 36, vR 62, vI (a4 + 4), vI r42, vI r44] [] S45 Q Z) ∧
                (¬ (q_wcmp (S45 62 0) r44) = 0 →
                  q_bo 0 ∧ Q 0 S45))) ∧
            (¬ r46 = r42 →
              q_bo 0 ∧ Q 0 S45)) Z) Z) Z) ∧
    (((q_and (S 63 a4) 31) = 9 →
      q_rg (a4 + 1) ∧
      0 ≤ (a4 + 1) ∧ (a4 + 1) < S 64 0 ∧
      q_rg (a4 + 2) ∧
      0 ≤ (a4 + 2) ∧ (a4 + 2) < S 64 0 ∧
      q_c 165 [vR 0, vI (S 63 (a4 + 1)), vI ((S 63 (a4 + 2)) % 65536), vR 62] S (fun r48 S47 =>
        q_rg (a4 + 1) ∧
        0 ≤ (a4 + 1) ∧ (a4 + 1) < S47 64 0 ∧
        q_rg (a4 + 2) ∧
        0 ≤ (a4 + 2) ∧ (a4 + 2) < S47 64 0 ∧
        q_c 68 [vR 36, vI (S47 63 (a4 + 1)), vI ((S47 63 (a4 + 2)) % 65536)] S47 (fun r50 S49 =>
          q_c 28 [vR 36] S49 (fun r52 S51 =>
            (r52 = r48 →
              (r48 ≠ 0 →
                q_rg (a4 + 4) ∧
                q_r 175 23 [vR 63, vR 0, vR 36, vR 62, vI (a4 + 4), vI r48, vI r50] [] S51 Q Z) ∧
              (¬ r48 ≠ 0 →
                (0 : Int) ≤ 0 ∧ (0 : Int) < 1 ∧
                ((q_wcmp (S51 62 0) r50) = 0 →
                  q_rg (a4 + 4) ∧
                  q_r 175 23 [vR 63, vR 0, vR 36, vR 62, vI (a4 + 4), vI r48, vI r50] [] S51 Q Z) ∧
                (¬ (q_wcmp (S51 62 0) r50) = 0 →
                  q_bo 0 ∧ Q 0 S51))) ∧
            (¬ r52 = r48 →
              q_bo 0 ∧ Q 0 S51)) Z) Z) Z) ∧
    (((q_and (S 63 a4) 31) = 10 →
      q_rg (a4 + 1) ∧
      0 ≤ (a4 + 1) ∧ (a4 + 1) < S 64 0 ∧
      q_rg (a4 + 2) ∧
      0 ≤ (a4 + 2) ∧ (a4 + 2) < S 64 0 ∧
      q_rg (a4 + 3) ∧
      0 ≤ (a4 + 3) ∧ (a4 + 3) < S 64 0 ∧
      q_c 166 [vR 0, vI (S 63 (a4 + 1)), vI (S 63 (a4 + 2)), vI (S 63 (a4 + 3)), vR 62] S (fun r54 S53 =>
        q_rg (a4 + 1) ∧
        0 ≤ (a4 + 1) ∧ (a4 + 1) < S53 64 0 ∧
        q_rg (a4 + 2) ∧
        0 ≤ (a4 + 2) ∧ (a4 + 2) < S53 64 0 ∧
        q_rg (a4 + 3) ∧
        0 ≤ (a4 + 3) ∧ (a4 + 3) < S53 64 0 ∧
        q_c 69 [vR 36, vI (S53 63 (a4 + 1)), vI (S53 63 (a4 + 2)), vI (S53 63 (a4 + 3))] S53 (fun r56 S55 =>
          q_c 28 [vR 36] S55 (fun r58 S57 =>
            (r58 = r54 →
              (r54 ≠ 0 →
                q_rg (a4 + 4) ∧
                q_r 175 23 [vR 63, vR 0, vR 36, vR 62, vI (a4 + 4), vI r54, vI r56] [] S57 Q Z) ∧
              (¬ r54 ≠ 0 →
                (0 : Int) ≤ 0 ∧ (0 : Int) < 1 ∧
                ((q_wcmp (S57 62 0) r56) = 0 →
                  q_rg (a4 + 4) ∧
                  q_r 175 23 [vR 63, vR 0, vR 36, vR 62, vI (a4 + 4), vI r54, vI r56] [] S57 Q Z) ∧
                (¬ (q_wcmp (S57 62 0) r56) = 0 →
                  q_bo 0 ∧ Q 0 S57))) ∧
            (¬ r58 = r54 →
              q_bo 0 ∧ Q 0 S57)) Z) Z) Z) ∧
    (((q_and (S 63 a4) 31) = 11 →
      q_rg (a4 + 1) ∧
      0 ≤ (a4 + 1) ∧ (a4 + 1) < S 64 0 ∧
      q_rg (a4 + 2) ∧
      0 ≤ (a4 + 2) ∧ (a4 + 2) < S 64 0 ∧
      q_c 167 [vR 0, vI (S 63 (a4 + 1)), vI ((S 63 (a4 + 2)) % 65536), vR 62] S (fun r60 S59 =>
        q_rg (a4 + 1) ∧
        0 ≤ (a4 + 1) ∧ (a4 + 1) < S59 64 0 ∧
        q_rg (a4 + 2) ∧
        0 ≤ (a4 + 2) ∧ (a4 + 2) < S59 64 0 ∧
        q_c 70 [vR 36, vI (S59 63 (a4 + 1)), vI ((S59 63 (a4 + 2)) % 65536)] S59 (fun r62 S61 =>
          q_c 28 [vR 36] S61 (fun r64 S63 =>
            (r64 = r60 →
              (r60 ≠ 0 →
                q_rg (a4 + 4) ∧
                q_r 175 23 [vR 63, vR 0, vR 36, vR 62, vI (a4 + 4), vI r60, vI r62] [] S63 Q Z) ∧
              (¬ r60 ≠ 0 →
                (0 : Int) ≤ 0 ∧ (0 : Int) < 1 ∧
                ((q_wcmp (S63 62 0) r62) = 0 →
                  q_rg (a4 + 4) ∧
                  q_r 175 23 [vR 63, vR 0, vR 36, vR 62, vI (a4 + 4), vI r60, vI r62] [] S63 Q Z) ∧
                (¬ (q_wcmp (S63 62 0) r62) = 0 →
                  q_bo 0 ∧ Q 0 S63))) ∧
            (¬ r64 = r60 →
              q_bo 0 ∧ Q 0 S63)) Z) Z) Z) ∧
    (((q_and (S 63 a4) 31) = 12 →
      q_rg (a4 + 1) ∧
      0 ≤ (a4 + 1) ∧ (a4 + 1) < S 64 0 ∧
      q_c 168 [vR 0, vI (S 63 (a4 + 1)), vR 62] S (fun r66 S65 =>
        q_rg (a4 + 1) ∧
        0 ≤ (a4 + 1) ∧ (a4 + 1) < S65 64 0 ∧
        q_c 71 [vR 36, vI (S65 63 (a4 + 1))] S65 (fun r68 S67 =>
          q_c 28 [vR 36] S67 (fun r70 S69 =>
            (r70 = r66 →
              (r66 ≠ 0 →
                q_rg (a4 + 4) ∧
                q_r 175 23 [vR 63, vR 0, vR 36, vR 62, vI (a4 + 4), vI r66, vI r68] [] S69 Q Z) ∧
              (¬ r66 ≠ 0 →
                (0 : Int) ≤ 0 ∧ (0 : Int) < 1 ∧
                ((q_wcmp (S69 62 0) r68) = 0 →
                  q_rg (a4 + 4) ∧
                  q_r 175 23 [vR 63, vR 0, vR 36, vR 62, vI (a4 + 4), vI r66, vI r68] [] S69 Q Z) ∧
                (¬ (q_wcmp (S69 62 0) r68) = 0 →
                  q_bo 0 ∧ Q 0 S69))) ∧
            (¬ r70 = r66 →
              q_bo 0 ∧ Q 0 S69)) Z) Z) Z) ∧
    (((q_and (S 63 a4) 31) = 13 →
      q_rg (a4 + 1) ∧
      0 ≤ (a4 + 1) ∧ (a4 + 1) < S 64 0 ∧
      q_rg (a4 + 2) ∧
      0 ≤ (a4 + 2) ∧ (a4 + 2) < S 64 0 ∧
      q_c 169 [vR 0, vI (S 63 (a4 + 1)), vI (S 63 (a4 + 2))] S (fun r72 S71 =>
        q_rg (a4 + 1) ∧
        0 ≤ (a4 + 1) ∧ (a4 + 1) < S71 64 0 ∧
        q_rg (a4 + 2) ∧
        0 ≤ (a4 + 2) ∧ (a4 + 2) < S71 64 0 ∧
        q_c 72 [vR 36, vI (S71 63 (a4 + 1)), vI (S71 63 (a4 + 2))] S71 (fun _ S73 =>
          q_c 28 [vR 36] S73 (fun r76 S75 =>
            (r76 = r72 →
              q_rg (a4 + 4) ∧
              q_r 175 23 [vR 63, vR 0, vR 36, vR 62, vI (a4 + 4), vI r72, vJ j6] [] S75 Q Z) ∧
            (¬ r76 = r72 →
              q_bo 0 ∧ Q 0 S75)) Z) Z) Z) ∧
    (((q_and (S 63 a4) 31) = 14 →
      q_rg (a4 + 1) ∧
      0 ≤ (a4 + 1) ∧ (a4 + 1) < S 64 0 ∧
      q_c 170 [vR 0, vI ((S 63 (a4 + 1)) % 65536), vR 62] S (fun r78 S77 =>
        q_rg (a4 + 1) ∧
        0 ≤ (a4 + 1) ∧ (a4 + 1) < S77 64 0 ∧
        q_c 75 [vR 36, vI ((S77 63 (a4 + 1)) % 65536)] S77 (fun r80 S79 =>
          q_c 28 [vR 36] S79 (fun r82 S81 =>
            (r82 = r78 →
              (r78 ≠ 0 →
                q_rg (a4 + 4) ∧
                q_r 175 23 [vR 63, vR 0, vR 36, vR 62, vI (a4 + 4), vI r78, vI r80] [] S81 Q Z) ∧
              (¬ r78 ≠ 0 →
                (0 : Int) ≤ 0 ∧ (0 : Int) < 1 ∧
                ((q_wcmp (S81 62 0) r80) = 0 →
                  q_rg (a4 + 4) ∧
                  q_r 175 23 [vR 63, vR 0, vR 36, vR 62, vI (a4 + 4), vI r78, vI r80] [] S81 Q Z) ∧
                (¬ (q_wcmp (S81 62 0) r80) = 0 →
                  q_bo 0 ∧ Q 0 S81))) ∧
            (¬ r82 = r78 →
              q_bo 0 ∧ Q 0 S81)) Z) Z) Z) ∧
    (((q_and (S 63 a4) 31) = 15 →
      q_rg (a4 + 1) ∧
      0 ≤ (a4 + 1) ∧ (a4 + 1) < S 64 0 ∧
      q_c 15 [vR 0, vI (S 63 (a4 + 1))] S (fun r84 S83 =>
        q_rg (a4 + 1) ∧
        0 ≤ (a4 + 1) ∧ (a4 + 1) < S83 64 0 ∧
        q_c 76 [vR 36, vI (S83 63 (a4 + 1))] S83 (fun r86 S85 =>
          (r84 = r86 →
            q_rg (a4 + 4) ∧
            q_r 175 23 [vR 63, vR 0, vR 36, vR 62, vI (a4 + 4), vJ j5, vJ j6] [] S85 Q Z) ∧
          (¬ r84 = r86 →
            q_bo 0 ∧ Q 0 S85)) Z) Z) ∧
    (((q_and (S 63 a4) 31) = 16 →
      q_rg (a4 + 1) ∧
      0 ≤ (a4 + 1) ∧ (a4 + 1) < S 64 0 ∧
      q_c 171 [vR 0, vI (S 63 (a4 + 1)), vR 62] S (fun r88 S87 =>
        q_rg (a4 + 1) ∧
        0 ≤ (a4 + 1) ∧ (a4 + 1) < S87 64 0 ∧
        q_c 77 [vR 36, vI (S87 63 (a4 + 1))] S87 (fun r90 S89 =>
          q_c 28 [vR 36] S89 (fun r92 S91 =>
            (r92 = r88 →
              (r88 ≠ 0 →
                q_rg (a4 + 4) ∧
                q_r 175 23 [vR 63, vR 0, vR 36, vR 62, vI (a4 + 4), vI r88, vI r90] [] S91 Q Z) ∧
              (¬ r88 ≠ 0 →
                (0 : Int) ≤ 0 ∧ (0 : Int) < 1 ∧
                ((q_wcmp (S91 62 0) r90) = 0 →
                  q_rg (a4 + 4) ∧
                  q_r 175 23 [vR 63, vR 0, vR 36, vR 62, vI (a4 + 4), vI r88, vI r90] [] S91 Q Z) ∧
                (¬ (q_wcmp (S91 62 0) r90) = 0 →
                  q_bo 0 ∧ Q 0 S91))) ∧
            (¬ r92 = r88 →
              q_bo 0 ∧ Q 0 S91)) Z) Z) Z) ∧
    (((q_and (S 63 a4) 31) = 17 →
      q_c 172 [vR 0, vR 62] S (fun r94 S93 =>
        q_c 78 [vR 36] S93 (fun r96 S95 =>
          q_c 28 [vR 36] S95 (fun r98 S97 =>
            (r98 = r94 →
              (r94 ≠ 0 →
                q_rg (a4 + 4) ∧
                q_r 175 23 [vR 63, vR 0, vR 36, vR 62, vI (a4 + 4), vI r94, vI r96] [] S97 Q Z) ∧
              (¬ r94 ≠ 0 →
                (0 : Int) ≤ 0 ∧ (0 : Int) < 1 ∧
                ((q_wcmp (S97 62 0) r96) = 0 →
                  q_rg (a4 + 4) ∧
                  q_r 175 23 [vR 63, vR 0, vR 36, vR 62, vI (a4 + 4), vI r94, vI r96] [] S97 Q Z) ∧
                (¬ (q_wcmp (S97 62 0) r96) = 0 →
                  q_bo 0 ∧ Q 0 S97))) ∧
            (¬ r98 = r94 →
              q_bo 0 ∧ Q 0 S97)) Z) Z) Z) ∧
    (((q_and (S 63 a4) 31) = 18 →
      q_rg (a4 + 1) ∧
      0 ≤ (a4 + 1) ∧ (a4 + 1) < S 64 0 ∧
      q_rg (a4 + 2) ∧
      0 ≤ (a4 + 2) ∧ (a4 + 2) < S 64 0 ∧
      q_c 173 [vR 0, vI (S 63 (a4 + 1)), vI (S 63 (a4 + 2)), vR 62] S (fun r100 S99 =>
        q_rg (a4 + 1) ∧
        0 ≤ (a4 + 1) ∧ (a4 + 1) < S99 64 0 ∧
        q_rg (a4 + 2) ∧
        0 ≤ (a4 + 2) ∧ (a4 + 2) < S99 64 0 ∧
        q_c 79 [vR 36, vI (S99 63 (a4 + 1)), vI (S99 63 (a4 + 2))] S99 (fun r102 S101 =>
          q_c 28 [vR 36] S101 (fun r104 S103 =>
            (r104 = r100 →
              (r100 ≠ 0 →
                q_rg (a4 + 4) ∧
                q_r 175 23 [vR 63, vR 0, vR 36, vR 62, vI (a4 + 4), vI r100, vI r102] [] S103 Q Z) ∧
              (¬ r100 ≠ 0 →
                (0 : Int) ≤ 0 ∧ (0 : Int) < 1 ∧
                ((q_wcmp (S103 62 0) r102) = 0 →
                  q_rg (a4 + 4) ∧
                  q_r 175 23 [vR 63, vR 0, vR 36, vR 62, vI (a4 + 4), vI r100, vI r102] [] S103 Q Z) ∧
                (¬ (q_wcmp (S103 62 0) r102) = 0 →
                  q_bo 0 ∧ Q 0 S103))) ∧
            (¬ r104 = r100 →
              q_bo 0 ∧ Q 0 S103)) Z) Z) Z) ∧
    (((q_and (S 63 a4) 31) = 19 →
      q_rg (a4 + 1) ∧
      0 ≤ (a4 + 1) ∧ (a4 + 1) < S 64 0 ∧
      q_rg (a4 + 2) ∧
      0 ≤ (a4 + 2) ∧ (a4 + 2) < S 64 0 ∧
      q_c 174 [vR 0, vI (S 63 (a4 + 1)), vI (S 63 (a4 + 2)), vR 62] S (fun r106 S105 =>
        q_rg (a4 + 1) ∧
        0 ≤ (a4 + 1) ∧ (a4 + 1) < S105 64 0 ∧
        q_rg (a4 + 2) ∧
        0 ≤ (a4 + 2) ∧ (a4 + 2) < S105 64 0 ∧
        q_c 80 [vR 36, vI (S105 63 (a4 + 1)), vI (S105 63 (a4 + 2))] S105 (fun r108 S107 =>
          q_c 28 [vR 36] S107 (fun r110 S109 =>
            (r110 = r106 →
              (r106 ≠ 0 →
                q_rg (a4 + 4) ∧
                q_r 175 23 [vR 63, vR 0, vR 36, vR 62, vI (a4 + 4), vI r106, vI r108] [] S109 Q Z) ∧
              (¬ r106 ≠ 0 →
                (0 : Int) ≤ 0 ∧ (0 : Int) < 1 ∧
                ((q_wcmp (S109 62 0) r108) = 0 →
                  q_rg (a4 + 4) ∧
                  q_r 175 23 [vR 63, vR 0, vR 36, vR 62, vI (a4 + 4), vI r106, vI r108] [] S109 Q Z) ∧
                (¬ (q_wcmp (S109 62 0) r108) = 0 →
                  q_bo 0 ∧ Q 0 S109))) ∧
            (¬ r110 = r106 →
              q_bo 0 ∧ Q 0 S109)) Z) Z) Z) ∧
    True)))))))))))))))))))) ∧
    (((q_and (S 63 a4) 31) < 0 ∨ 19 < (q_and (S 63 a4) 31)) →
      q_rg (a4 + 4) ∧
      q_r 175 23 [vR 63, vR 0, vR 36, vR 62, vI (a4 + 4), vJ j5, vJ j6] [] S Q Z))) : q_r 175 23 [vR 63, vR 0, vR 36, vR 62, vI a4, vJ j5, vJ j6] [] S Q Z := q_blk 793 h

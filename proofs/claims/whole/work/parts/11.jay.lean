/-! printed by gen.py: what each method asks, method by method, over whole numbers -/
def jC_copyFrom (b : Nat) (c1 : Nat) (M : zM) (Φ : zM → Prop) : Prop :=
  ∀ M1 : zM, M1 = zup M b 0 (M c1 0) → 
    ∀ M2 : zM, M2 = zup M1 b 1 (M1 c1 1) → 
    ∀ M3 : zM, M3 = zcp M2 (c1 + 1) 0 (b + 1) 0 30 → 
    ∀ M4 : zM, M4 = zcp M3 (c1 + 2) 0 (b + 2) 0 30 → 
    ∀ M5 : zM, M5 = zcp M4 (c1 + 3) 0 (b + 3) 0 30 → 
    ∀ M6 : zM, M6 = zcp M5 (c1 + 4) 0 (b + 4) 0 30 → 
    ∀ M7 : zM, M7 = zup M6 b 6 (M6 c1 6) → 
    ∀ M8 : zM, M8 = zup M7 b 7 (M7 c1 7) → 
    ∀ M9 : zM, M9 = zcp M8 (c1 + 5) 0 (b + 5) 0 40 → 
    ∀ M10 : zM, M10 = zcp M9 (c1 + 6) 0 (b + 6) 0 40 → 
    ∀ M11 : zM, M11 = zcp M10 (c1 + 7) 0 (b + 7) 0 40 → 
    ∀ M12 : zM, M12 = zcp M11 (c1 + 8) 0 (b + 8) 0 200 → 
    ∀ M13 : zM, M13 = zcp M12 (c1 + 9) 0 (b + 9) 0 2 → 
    ∀ M14 : zM, M14 = zup M13 b 13 (M13 c1 13) → 
    Φ M14
def jB_isLane (a1 : Int) (M : zM) (Φ : Int → Prop) : Prop :=
  
    (a1 < 0 → Φ 0) ∧
    (¬ (a1 < 0) → 
      (12 ≤ a1 → Φ 0) ∧
      (¬ (12 ≤ a1) → Φ 1))
def jB_isDay (a1 : Int) (M : zM) (Φ : Int → Prop) : Prop :=
  
    (a1 < 0 → Φ 0) ∧
    (¬ (a1 < 0) → 
      (200 ≤ a1 → Φ 0) ∧
      (¬ (200 ≤ a1) → Φ 1))
def jC_endOf (b : Nat) (a1 : Int) (M : zM) (Φ : Int → Prop) : Prop :=
  0 ≤ a1 ∧ a1 < 30 ∧ 0 ≤ a1 ∧ a1 < 30 ∧ i32 ((M (b + 3) a1) + (M (b + 4) a1)) ∧ Φ ((M (b + 3) a1) + (M (b + 4) a1))
def jC_sharesDays (b : Nat) (a1 a2 a3 : Int) (M : zM) (Φ : Int → Prop) : Prop :=
  0 ≤ a1 ∧ a1 < 30 ∧ 
    (a3 ≤ (M (b + 3) a1) → Φ 0) ∧
    (¬ (a3 ≤ (M (b + 3) a1)) → 
      jC_endOf b a1 M (fun r2 => 
        (r2 ≤ a2 → Φ 0) ∧
        (¬ (r2 ≤ a2) → Φ 1)))
def jC_hasRoom_L3 (b : Nat) (a1 a2 a3 a4 : Int) (K3 : Int → Prop) (Φ : Int → Prop) (M : zM) (x5 : Int) : Prop :=
  
    ((M b 0) ≤ x5 → Φ 1) ∧
    (¬ ((M b 0) ≤ x5) → 
      (x5 = a4 → i32 (x5 + 1) ∧ ∀ v5_1 : Int, v5_1 = x5 + 1 → K3 v5_1) ∧
      (¬ (x5 = a4) → 0 ≤ x5 ∧ x5 < 30 ∧ 
        (¬ (M (b + 2) x5) = a1 → i32 (x5 + 1) ∧ ∀ v5_3 : Int, v5_3 = x5 + 1 → K3 v5_3) ∧
        ((M (b + 2) x5) = a1 → i32 (a2 + a3) ∧ 
          jC_sharesDays b x5 a2 (a2 + a3) M (fun r5 => 
            (r5 = 0 → i32 (x5 + 1) ∧ ∀ v5_7 : Int, v5_7 = x5 + 1 → K3 v5_7) ∧
            (¬ (r5 = 0) → Φ 0)))))
def jC_hasRoom (b : Nat) (a1 a2 a3 a4 : Int) (M : zM) (Φ : Int → Prop) : Prop :=
  zwh (fun K s => jC_hasRoom_L3 b a1 a2 a3 a4 K Φ M (s)) 0
def jC_addBar (b : Nat) (a1 a2 a3 : Int) (M : zM) (Φ : Int → zM → Prop) : Prop :=
  
    jB_isLane a1 M (fun r1 => 
      (¬ r1 = 0 → 
        jB_isDay a2 M (fun r3 => 
          (r3 = 0 → Φ (-2) M) ∧
          (¬ (r3 = 0) → 
            (a3 < 1 → Φ (-2) M) ∧
            (¬ (a3 < 1) → 
              (30 < a3 → Φ (-2) M) ∧
              (¬ (30 < a3) → i32 (a2 + a3) ∧ 
                ((a2 + a3) ≤ 200 → 
                  jC_hasRoom b a1 a2 a3 (-1) M (fun r6 => 
                    (¬ r6 = 0 → 
                      (30 ≤ (M b 0) → Φ (-3) M) ∧
                      (¬ (30 ≤ (M b 0)) → 
                        ((M b 1) < 90 → 0 ≤ (M b 0) ∧ (M b 0) < 30 ∧ ∀ M9 : zM, M9 = zup M (b + 1) (M b 0) (M b 1) → 
                          0 ≤ (M9 b 0) ∧ (M9 b 0) < 30 ∧ ∀ M11 : zM, M11 = zup M9 (b + 2) (M9 b 0) a1 → 
                          0 ≤ (M11 b 0) ∧ (M11 b 0) < 30 ∧ ∀ M13 : zM, M13 = zup M11 (b + 3) (M11 b 0) a2 → 
                          0 ≤ (M13 b 0) ∧ (M13 b 0) < 30 ∧ ∀ M15 : zM, M15 = zup M13 (b + 4) (M13 b 0) a3 → 
                          i32 ((M15 b 0) + 1) ∧ ∀ M17 : zM, M17 = zup M15 b 0 ((M15 b 0) + 1) → 
                          i32 ((M17 b 1) + 1) ∧ ∀ M19 : zM, M19 = zup M17 b 1 ((M17 b 1) + 1) → 
                          i32 ((M19 b 1) - 1) ∧ Φ ((M19 b 1) - 1) M19) ∧
                        (¬ ((M b 1) < 90) → Φ (-3) M))) ∧
                    (r6 = 0 → Φ (-4) M))) ∧
                (¬ ((a2 + a3) ≤ 200) → Φ (-2) M)))))) ∧
      (r1 = 0 → Φ (-1) M))
def jH_record_J30 (c1 : Nat) (Φ : zM → Prop) (M : zM) : Prop :=
  i32 ((M 71 1) + (M 71 2)) ∧ 0 ≤ ((M 71 1) + (M 71 2)) ∧ 0 ≤ (((M 71 1) + (M 71 2)) % 4) ∧ (((M 71 1) + (M 71 2)) % 4) < 4 ∧ ∀ c3 : Nat, c3 = 30 + 10 * Int.toNat (((M 71 1) + (M 71 2)) % 4) → 
    
    jC_copyFrom c3 c1 M (fun M5 => i32 ((M5 71 2) + 1) ∧ ∀ M7 : zM, M7 = zup M5 71 2 ((M5 71 2) + 1) → 
      Φ M7)
def jH_record (c1 : Nat) (M : zM) (Φ : zM → Prop) : Prop :=
  
    (¬ (M 71 2) = 4 → jH_record_J30 c1 Φ M) ∧
    ((M 71 2) = 4 → i32 ((M 71 1) + 1) ∧ 0 ≤ ((M 71 1) + 1) ∧ ∀ M10 : zM, M10 = zup M 71 1 (((M 71 1) + 1) % 4) → 
      i32 ((M10 71 2) - 1) ∧ ∀ M12 : zM, M12 = zup M10 71 2 ((M10 71 2) - 1) → 
      jH_record_J30 c1 Φ M12)
def jB_settle (a1 : Int) (M : zM) (Φ : Int → zM → Prop) : Prop :=
  
    (a1 < 0 → Φ a1 M) ∧
    (¬ (a1 < 0) → 
      jH_record 0 M (fun M1 => 
        jC_copyFrom 0 10 M1 (fun M2 => Φ a1 M2)))
def jB_bar (a1 a2 a3 : Int) (M : zM) (Φ : Int → zM → Prop) : Prop :=
  
    jC_copyFrom 10 0 M (fun M1 => 
      jC_addBar 10 a1 a2 a3 M1 (fun r2 M3 => 
        jB_settle r2 M3 (fun r4 M5 => Φ r4 M5)))
def jC_slotOf_L2 (b : Nat) (a1 : Int) (K2 : Int → Prop) (Φ : Int → Prop) (M : zM) (x2 : Int) : Prop :=
  
    ((M b 0) ≤ x2 → Φ (-1)) ∧
    (¬ ((M b 0) ≤ x2) → 0 ≤ x2 ∧ x2 < 30 ∧ 
      (¬ (M (b + 1) x2) = a1 → i32 (x2 + 1) ∧ ∀ v2_2 : Int, v2_2 = x2 + 1 → K2 v2_2) ∧
      ((M (b + 1) x2) = a1 → Φ x2))
def jC_slotOf (b : Nat) (a1 : Int) (M : zM) (Φ : Int → Prop) : Prop :=
  zwh (fun K s => jC_slotOf_L2 b a1 K Φ M (s)) 0
def jC_hasArrow_L2 (b : Nat) (a1 a2 : Int) (K2 : Int → Prop) (Φ : Int → Prop) (M : zM) (x3 : Int) : Prop :=
  
    ((M b 6) ≤ x3 → Φ 0) ∧
    (¬ ((M b 6) ≤ x3) → 0 ≤ x3 ∧ x3 < 40 ∧ 
      (¬ (M (b + 6) x3) = a1 → i32 (x3 + 1) ∧ ∀ v3_2 : Int, v3_2 = x3 + 1 → K2 v3_2) ∧
      ((M (b + 6) x3) = a1 → 0 ≤ x3 ∧ x3 < 40 ∧ 
        (¬ (M (b + 7) x3) = a2 → i32 (x3 + 1) ∧ ∀ v3_4 : Int, v3_4 = x3 + 1 → K2 v3_4) ∧
        ((M (b + 7) x3) = a2 → Φ 1)))
def jC_hasArrow (b : Nat) (a1 a2 : Int) (M : zM) (Φ : Int → Prop) : Prop :=
  zwh (fun K s => jC_hasArrow_L2 b a1 a2 K Φ M (s)) 0
def jC_leadsOn_J79 (b : Nat) (a1 a2 : Int) (Φ : Int → Prop) (x3 : Int) (M : zM) : Prop :=
  
    (¬ (zand (zshr x3 a2) 1) = 1 → Φ 0) ∧
    ((zand (zshr x3 a2) 1) = 1 → Φ 1)
def jC_leadsOn_L22 (b : Nat) (a1 a2 : Int) (K7 : (Int × Int) → Prop) (K22 : (Int × Int) → Prop) (Φ : Int → Prop) (x4 x5 : Int) (M : zM) (x3 x6 : Int) : Prop :=
  
    ((M b 6) ≤ x6 → 
      (¬ x3 = x5 → i32 (x4 + 1) ∧ ∀ v4_3 : Int, v4_3 = x4 + 1 → K7 (x3, v4_3)) ∧
      (x3 = x5 → jC_leadsOn_J79 b a1 a2 Φ x3 M)) ∧
    (¬ ((M b 6) ≤ x6) → 0 ≤ x6 ∧ x6 < 40 ∧ 
      (¬ (zand (zshr x3 (M (b + 6) x6)) 1) = 1 → i32 (x6 + 1) ∧ ∀ v6_6 : Int, v6_6 = x6 + 1 → K22 (x3, v6_6)) ∧
      ((zand (zshr x3 (M (b + 6) x6)) 1) = 1 → 0 ≤ x6 ∧ x6 < 40 ∧ ∀ v3_8 : Int, v3_8 = (zor x3 (zshl 1 (M (b + 7) x6))) → 
        i32 (x6 + 1) ∧ ∀ v6_9 : Int, v6_9 = x6 + 1 → K22 (v3_8, v6_9)))
def jC_leadsOn_L7 (b : Nat) (a1 a2 : Int) (K7 : (Int × Int) → Prop) (Φ : Int → Prop) (M : zM) (x3 x4 : Int) : Prop :=
  
    ((M b 0) ≤ x4 → jC_leadsOn_J79 b a1 a2 Φ x3 M) ∧
    (¬ ((M b 0) ≤ x4) → zwh (fun K s => jC_leadsOn_L22 b a1 a2 K7 K Φ x4 x3 M (s.1) (s.2)) (x3, 0))
def jC_leadsOn (b : Nat) (a1 a2 : Int) (M : zM) (Φ : Int → Prop) : Prop :=
  ∀ v3_1 : Int, v3_1 = (zshl 1 a1) → 
    zwh (fun K s => jC_leadsOn_L7 b a1 a2 K Φ M (s.1) (s.2)) (v3_1, 0)
def jC_addArrow (b : Nat) (a1 a2 : Int) (M : zM) (Φ : Int → zM → Prop) : Prop :=
  
    jC_slotOf b a1 M (fun r1 => 
      jC_slotOf b a2 M (fun r3 => 
        (r1 < 0 → Φ (-1) M) ∧
        (¬ (r1 < 0) → 
          (0 ≤ r3 → 
            (r1 = r3 → Φ (-4) M) ∧
            (¬ (r1 = r3) → 
              jC_hasArrow b r1 r3 M (fun r5 => 
                (¬ r5 = 0 → Φ (-4) M) ∧
                (r5 = 0 → 
                  jC_leadsOn b r3 r1 M (fun r7 => 
                    (r7 = 0 → 
                      (40 ≤ (M b 6) → Φ (-3) M) ∧
                      (¬ (40 ≤ (M b 6)) → 
                        ((M b 7) < 200 → 0 ≤ (M b 6) ∧ (M b 6) < 40 ∧ ∀ M10 : zM, M10 = zup M (b + 5) (M b 6) (M b 7) → 
                          0 ≤ (M10 b 6) ∧ (M10 b 6) < 40 ∧ ∀ M12 : zM, M12 = zup M10 (b + 6) (M10 b 6) r1 → 
                          0 ≤ (M12 b 6) ∧ (M12 b 6) < 40 ∧ ∀ M14 : zM, M14 = zup M12 (b + 7) (M12 b 6) r3 → 
                          i32 ((M14 b 6) + 1) ∧ ∀ M16 : zM, M16 = zup M14 b 6 ((M14 b 6) + 1) → 
                          i32 ((M16 b 7) + 1) ∧ ∀ M18 : zM, M18 = zup M16 b 7 ((M16 b 7) + 1) → 
                          i32 ((M18 b 7) - 1) ∧ Φ ((M18 b 7) - 1) M18) ∧
                        (¬ ((M b 7) < 200) → Φ (-3) M))) ∧
                    (¬ (r7 = 0) → Φ (-4) M)))))) ∧
          (¬ (0 ≤ r3) → Φ (-1) M))))
def jB_arrow (a1 a2 : Int) (M : zM) (Φ : Int → zM → Prop) : Prop :=
  
    jC_copyFrom 10 0 M (fun M1 => 
      jC_addArrow 10 a1 a2 M1 (fun r2 M3 => 
        jB_settle r2 M3 (fun r4 M5 => Φ r4 M5)))
def jT_begin (a1 : Int) (M : zM) (Φ : zM → Prop) : Prop :=
  ∀ M1 : zM, M1 = zup M 73 6 a1 → 
    ∀ M2 : zM, M2 = zup M1 73 7 0 → 
    ∀ M3 : zM, M3 = zup M2 73 8 0 → 
    Φ M3
def jT_greatest (M : zM) (Φ : Int → Prop) : Prop :=
  
    ((M 73 6) = 1 → Φ 199) ∧ (¬ ((M 73 6) = 1) → 
    ((M 73 6) = 2 → Φ 30) ∧ (¬ ((M 73 6) = 2) → Φ 89))
def jT_takeDigit_J44 (a1 : Int) (Φ : Int → zM → Prop) (x2 s0 : Int) (M : zM) : Prop :=
  
    (¬ x2 = 0 → Φ 0 M) ∧
    (x2 = 0 → 
      (¬ s0 = 0 → Φ 0 M) ∧
      (s0 = 0 → i32 ((M 73 7) * 10) ∧ i32 (((M 73 7) * 10) + a1) ∧ 
        jT_greatest M (fun r3 => 
          ((((M 73 7) * 10) + a1) ≤ r3 → i32 ((M 73 7) * 10) ∧ i32 (((M 73 7) * 10) + a1) ∧ ∀ M7 : zM, M7 = zup M 73 7 (((M 73 7) * 10) + a1) → 
            i32 ((M7 73 8) + 1) ∧ ∀ M9 : zM, M9 = zup M7 73 8 ((M7 73 8) + 1) → 
            Φ 1 M9) ∧
          (¬ ((((M 73 7) * 10) + a1) ≤ r3) → Φ 0 M))))
def jT_takeDigit_J43 (a1 : Int) (Φ : Int → zM → Prop) (x2 : Int) (M : zM) : Prop :=
  jT_takeDigit_J44 a1 Φ x2 0 M
def jT_takeDigit_J19 (a1 : Int) (Φ : Int → zM → Prop) (s0 : Int) (M : zM) : Prop :=
  
    (¬ (M 73 6) = 2 → jT_takeDigit_J43 a1 Φ s0 M) ∧
    ((M 73 6) = 2 → 
      (¬ (M 73 8) = 0 → jT_takeDigit_J43 a1 Φ s0 M) ∧
      ((M 73 8) = 0 → 
        (¬ a1 = 0 → jT_takeDigit_J43 a1 Φ s0 M) ∧
        (a1 = 0 → jT_takeDigit_J44 a1 Φ s0 1 M)))
def jT_takeDigit_J18 (a1 : Int) (Φ : Int → zM → Prop) (M : zM) : Prop :=
  jT_takeDigit_J19 a1 Φ 0 M
def jT_takeDigit (a1 : Int) (M : zM) (Φ : Int → zM → Prop) : Prop :=
  
    ((M 73 8) ≤ 0 → jT_takeDigit_J18 a1 Φ M) ∧
    (¬ ((M 73 8) ≤ 0) → 
      (¬ (M 73 7) = 0 → jT_takeDigit_J18 a1 Φ M) ∧
      ((M 73 7) = 0 → jT_takeDigit_J19 a1 Φ 1 M))
def jT_storeNumber (M : zM) (Φ : zM → Prop) : Prop :=
  
    ((M 73 2) < 16 → 
      ((M 73 6) = 0 → 0 ≤ (M 73 2) ∧ (M 73 2) < 16 ∧ ∀ M2 : zM, M2 = zup M 75 (M 73 2) (M 73 7) → 
        Φ M2) ∧ (¬ ((M 73 6) = 0) → 
      ((M 73 6) = 2 → 0 ≤ (M 73 2) ∧ (M 73 2) < 16 ∧ ∀ M4 : zM, M4 = zup M 77 (M 73 2) (M 73 7) → 
        Φ M4) ∧ (¬ ((M 73 6) = 2) → 0 ≤ (M 73 2) ∧ (M 73 2) < 16 ∧ ∀ M6 : zM, M6 = zup M 76 (M 73 2) (M 73 7) → 
        Φ M6))) ∧
    (¬ ((M 73 2) < 16) → Φ M)
def jT_turnTo (a1 : Int) (M : zM) (Φ : Int → zM → Prop) : Prop :=
  
    jT_storeNumber M (fun M1 => 
      jT_begin a1 M1 (fun M2 => Φ 1 M2))
def jT_endPart_J30 (Φ : Int → zM → Prop) (M : zM) : Prop :=
  
    jT_storeNumber M (fun M1 => i32 ((M1 73 2) + 1) ∧ ∀ M3 : zM, M3 = zup M1 73 2 ((M1 73 2) + 1) → 
      
      jT_begin 0 M3 (fun M4 => Φ 1 M4))
def jT_endPart (M : zM) (Φ : Int → zM → Prop) : Prop :=
  
    (¬ (M 73 6) = 3 → jT_endPart_J30 Φ M) ∧
    ((M 73 6) = 3 → 
      (16 ≤ (M 73 2) → jT_endPart_J30 Φ M) ∧
      (¬ (16 ≤ (M 73 2)) → 0 ≤ (M 73 2) ∧ (M 73 2) < 16 ∧ ∀ M6 : zM, M6 = zup M 77 (M 73 2) 0 → 
        jT_endPart_J30 Φ M6))
def jT_takeMark_J133 (a1 : Int) (Φ : Int → zM → Prop) (M : zM) : Prop :=
  
    jT_endPart M (fun r5 M6 => 
      (r5 = 0 → Φ 0 M6) ∧
      (¬ (r5 = 0) → Φ 1 M6))
def jT_takeMark (a1 : Int) (M : zM) (Φ : Int → zM → Prop) : Prop :=
  
    (a1 = 43 → 
      (¬ (M 73 6) = 1 → Φ 0 M) ∧
      ((M 73 6) = 1 → 
        jT_turnTo 2 M (fun r1 M2 => 
          (r1 = 0 → Φ 0 M2) ∧
          (¬ (r1 = 0) → Φ 1 M2)))) ∧ (¬ (a1 = 43) → 
    (a1 = 59 → 
      ((M 73 6) = 2 → jT_takeMark_J133 a1 Φ M) ∧
      (¬ ((M 73 6) = 2) → 
        (¬ (M 73 6) = 3 → Φ 0 M) ∧
        ((M 73 6) = 3 → jT_takeMark_J133 a1 Φ M))) ∧ (¬ (a1 = 59) → 
    (a1 = 62 → 
      (¬ (M 73 6) = 0 → Φ 0 M) ∧
      ((M 73 6) = 0 → 
        jT_turnTo 3 M (fun r10 M11 => 
          (r10 = 0 → Φ 0 M11) ∧
          (¬ (r10 = 0) → Φ 1 M11)))) ∧ (¬ (a1 = 62) → 
    (a1 = 64 → 
      (¬ (M 73 6) = 0 → Φ 0 M) ∧
      ((M 73 6) = 0 → 
        (12 ≤ (M 73 7) → Φ 0 M) ∧
        (¬ (12 ≤ (M 73 7)) → 
          jT_turnTo 1 M (fun r14 M15 => 
            (r14 = 0 → Φ 0 M15) ∧
            (¬ (r14 = 0) → Φ 1 M15))))) ∧ (¬ (a1 = 64) → Φ 0 M))))
def jT_take_J21 (a1 : Int) (Φ : Int → zM → Prop) (M : zM) : Prop :=
  
    ((M 73 8) ≤ 0 → Φ 0 M) ∧
    (¬ ((M 73 8) ≤ 0) → 
      jT_takeMark a1 M (fun r1 M2 => 
        (r1 = 0 → Φ 0 M2) ∧
        (¬ (r1 = 0) → Φ 1 M2)))
def jT_take (a1 : Int) (M : zM) (Φ : Int → zM → Prop) : Prop :=
  
    (a1 < 48 → jT_take_J21 a1 Φ M) ∧
    (¬ (a1 < 48) → 
      (57 < a1 → jT_take_J21 a1 Φ M) ∧
      (¬ (57 < a1) → i32 (a1 - 48) ∧ 
        jT_takeDigit (a1 - 48) M (fun r6 M7 => (r6 = 0 ∨ r6 = 1) ∧ Φ r6 M7)))
def jT_readParts_L12 (K12 : (Int × zM) → Prop) (Φ : Int → zM → Prop) (x1 : Int) (M : zM) : Prop :=
  
    ((M 73 1) ≤ x1 → 
      ((M 73 8) = 0 → Φ (M 73 1) M) ∧
      (¬ ((M 73 8) = 0) → 
        ((M 73 6) = 0 → Φ (M 73 1) M) ∧
        (¬ ((M 73 6) = 0) → 
          (¬ (M 73 6) = 1 → 
            jT_endPart M (fun r3 M4 => Φ (-5) M4)) ∧
          ((M 73 6) = 1 → Φ (M 73 1) M)))) ∧
    (¬ ((M 73 1) ≤ x1) → 0 ≤ x1 ∧ x1 < 60 ∧ 
      jT_take (M 74 x1) M (fun r9 M10 => 
        (¬ r9 = 0 → i32 (x1 + 1) ∧ ∀ v1_11 : Int, v1_11 = x1 + 1 → K12 (v1_11, M10)) ∧
        (r9 = 0 → Φ x1 M10)))
def jT_readParts (M : zM) (Φ : Int → zM → Prop) : Prop :=
  ∀ M1 : zM, M1 = zup M 73 2 0 → 
    
    jT_begin 0 M1 (fun M2 => zwh (fun K s => jT_readParts_L12 K Φ (s.1) (s.2)) (0, M2))
def jT_isArrow (a1 : Int) (M : zM) (Φ : Int → Prop) : Prop :=
  0 ≤ a1 ∧ a1 < 16 ∧ 
    (¬ (M 77 a1) = 0 → Φ 0) ∧
    ((M 77 a1) = 0 → Φ 1)
def jB_addPart (a1 : Int) (M : zM) (Φ : Int → zM → Prop) : Prop :=
  
    jT_isArrow a1 M (fun r1 => 
      (r1 = 0 → 0 ≤ a1 ∧ a1 < 16 ∧ 0 ≤ a1 ∧ a1 < 16 ∧ 0 ≤ a1 ∧ a1 < 16 ∧ 
        jC_addBar 10 (M 75 a1) (M 76 a1) (M 77 a1) M (fun r6 M7 => Φ r6 M7)) ∧
      (¬ (r1 = 0) → 0 ≤ a1 ∧ a1 < 16 ∧ 0 ≤ a1 ∧ a1 < 16 ∧ 
        jC_addArrow 10 (M 75 a1) (M 76 a1) M (fun r10 M11 => Φ r10 M11)))
def jB_addAll_L32 (K32 : (Int × zM) → Prop) (Φ : Int → zM → Prop) (x2 : Int) (M : zM) : Prop :=
  
    ((M 73 2) ≤ x2 → 
      jB_settle (M 73 2) M (fun r4 M5 => Φ r4 M5)) ∧
    (¬ ((M 73 2) ≤ x2) → 
      jB_addPart x2 M (fun r6 M7 => 
        (0 ≤ r6 → i32 (x2 + 1) ∧ ∀ v2_8 : Int, v2_8 = x2 + 1 → K32 (v2_8, M7)) ∧
        (¬ (0 ≤ r6) → Φ r6 M7)))
def jB_addAll (M : zM) (Φ : Int → zM → Prop) : Prop :=
  
    jT_readParts M (fun r1 M2 => 
      (r1 = (-5) → 
        jC_copyFrom 10 0 M2 (fun M3 => zwh (fun K s => jB_addAll_L32 K Φ (s.1) (s.2)) (0, M3))) ∧
      (¬ (r1 = (-5)) → i32 ((-100) - r1) ∧ Φ ((-100) - r1) M2))
def jC_dropArrow_L12 (b : Nat) (a1 : Int) (K12 : (Int × zM) → Prop) (Φ : zM → Prop) (x2 : Int) (M : zM) : Prop :=
  
    ((M b 6) ≤ x2 → Φ M) ∧
    (¬ ((M b 6) ≤ x2) → i32 (x2 + 1) ∧ 0 ≤ (x2 + 1) ∧ (x2 + 1) < 40 ∧ 0 ≤ x2 ∧ x2 < 40 ∧ ∀ M6 : zM, M6 = zup M (b + 5) x2 (M (b + 5) (x2 + 1)) → 
      i32 (x2 + 1) ∧ 0 ≤ (x2 + 1) ∧ (x2 + 1) < 40 ∧ 0 ≤ x2 ∧ x2 < 40 ∧ ∀ M10 : zM, M10 = zup M6 (b + 6) x2 (M6 (b + 6) (x2 + 1)) → 
      i32 (x2 + 1) ∧ 0 ≤ (x2 + 1) ∧ (x2 + 1) < 40 ∧ 0 ≤ x2 ∧ x2 < 40 ∧ ∀ M14 : zM, M14 = zup M10 (b + 7) x2 (M10 (b + 7) (x2 + 1)) → 
      i32 (x2 + 1) ∧ ∀ v2_15 : Int, v2_15 = x2 + 1 → K12 (v2_15, M14))
def jC_dropArrow (b : Nat) (a1 : Int) (M : zM) (Φ : zM → Prop) : Prop :=
  i32 ((M b 6) - 1) ∧ ∀ M2 : zM, M2 = zup M b 6 ((M b 6) - 1) → 
    zwh (fun K s => jC_dropArrow_L12 b a1 K Φ (s.1) (s.2)) (a1, M2)
def jC_dropBar_J185 (b : Nat) (a1 : Int) (K131 : (Int × zM) → Prop) (Φ : Int → zM → Prop) (x2 x3 s1 s2 s3 : Int) (M : zM) : Prop :=
  i32 (s2 - s3) ∧ 0 ≤ s1 ∧ s1 < 40 ∧ ∀ M14 : zM, M14 = zup M (b + 7) s1 (s2 - s3) → 
    i32 (x3 + 1) ∧ ∀ v3_15 : Int, v3_15 = x3 + 1 → K131 (v3_15, M14)
def jC_dropBar_J161 (b : Nat) (a1 : Int) (K131 : (Int × zM) → Prop) (Φ : Int → zM → Prop) (x2 x3 s1 s2 s3 : Int) (M : zM) : Prop :=
  i32 (s2 - s3) ∧ 0 ≤ s1 ∧ s1 < 40 ∧ ∀ M9 : zM, M9 = zup M (b + 6) s1 (s2 - s3) → 
    0 ≤ x3 ∧ x3 < 40 ∧ 0 ≤ x3 ∧ x3 < 40 ∧ 
    ((M9 (b + 7) x3) ≤ a1 → jC_dropBar_J185 b a1 K131 Φ x2 x3 x3 (M9 (b + 7) x3) 0 M9) ∧
    (¬ ((M9 (b + 7) x3) ≤ a1) → jC_dropBar_J185 b a1 K131 Φ x2 x3 x3 (M9 (b + 7) x3) 1 M9)
def jC_dropBar_L131 (b : Nat) (a1 : Int) (K131 : (Int × zM) → Prop) (Φ : Int → zM → Prop) (x2 : Int) (x3 : Int) (M : zM) : Prop :=
  
    ((M b 6) ≤ x3 → Φ x2 M) ∧
    (¬ ((M b 6) ≤ x3) → 0 ≤ x3 ∧ x3 < 40 ∧ 0 ≤ x3 ∧ x3 < 40 ∧ 
      ((M (b + 6) x3) ≤ a1 → jC_dropBar_J161 b a1 K131 Φ x2 x3 x3 (M (b + 6) x3) 0 M) ∧
      (¬ ((M (b + 6) x3) ≤ a1) → jC_dropBar_J161 b a1 K131 Φ x2 x3 x3 (M (b + 6) x3) 1 M))
def jC_dropBar_L59 (b : Nat) (a1 : Int) (K59 : (Int × zM) → Prop) (Φ : Int → zM → Prop) (x2 : Int) (x3 : Int) (M : zM) : Prop :=
  
    ((M b 0) ≤ x3 → zwh (fun K s => jC_dropBar_L131 b a1 K Φ x2 (s.1) (s.2)) (0, M)) ∧
    (¬ ((M b 0) ≤ x3) → i32 (x3 + 1) ∧ 0 ≤ (x3 + 1) ∧ (x3 + 1) < 30 ∧ 0 ≤ x3 ∧ x3 < 30 ∧ ∀ M22 : zM, M22 = zup M (b + 1) x3 (M (b + 1) (x3 + 1)) → 
      i32 (x3 + 1) ∧ 0 ≤ (x3 + 1) ∧ (x3 + 1) < 30 ∧ 0 ≤ x3 ∧ x3 < 30 ∧ ∀ M26 : zM, M26 = zup M22 (b + 2) x3 (M22 (b + 2) (x3 + 1)) → 
      i32 (x3 + 1) ∧ 0 ≤ (x3 + 1) ∧ (x3 + 1) < 30 ∧ 0 ≤ x3 ∧ x3 < 30 ∧ ∀ M30 : zM, M30 = zup M26 (b + 3) x3 (M26 (b + 3) (x3 + 1)) → 
      i32 (x3 + 1) ∧ 0 ≤ (x3 + 1) ∧ (x3 + 1) < 30 ∧ 0 ≤ x3 ∧ x3 < 30 ∧ ∀ M34 : zM, M34 = zup M30 (b + 4) x3 (M30 (b + 4) (x3 + 1)) → 
      i32 (x3 + 1) ∧ ∀ v3_35 : Int, v3_35 = x3 + 1 → K59 (v3_35, M34))
def jC_dropBar_J33 (b : Nat) (a1 : Int) (K9 : (Int × Int × zM) → Prop) (Φ : Int → zM → Prop) (x2 x3 : Int) (M : zM) : Prop :=
  
    jC_dropArrow b x3 M (fun M38 => i32 (x2 + 1) ∧ ∀ v2_39 : Int, v2_39 = x2 + 1 → i32 (x3 + (-1)) ∧ ∀ v3_40 : Int, v3_40 = x3 + (-1) → K9 (v2_39, v3_40, M38))
def jC_dropBar_L9 (b : Nat) (a1 : Int) (K9 : (Int × Int × zM) → Prop) (Φ : Int → zM → Prop) (x2 x3 : Int) (M : zM) : Prop :=
  
    (x3 < 0 → i32 ((M b 0) - 1) ∧ ∀ M4 : zM, M4 = zup M b 0 ((M b 0) - 1) → 
      zwh (fun K s => jC_dropBar_L59 b a1 K Φ x2 (s.1) (s.2)) (a1, M4)) ∧
    (¬ (x3 < 0) → 0 ≤ x3 ∧ x3 < 40 ∧ 
      ((M (b + 6) x3) = a1 → jC_dropBar_J33 b a1 K9 Φ x2 x3 M) ∧
      (¬ ((M (b + 6) x3) = a1) → 0 ≤ x3 ∧ x3 < 40 ∧ 
        (¬ (M (b + 7) x3) = a1 → i32 (x3 + (-1)) ∧ ∀ v3_42 : Int, v3_42 = x3 + (-1) → K9 (x2, v3_42, M)) ∧
        ((M (b + 7) x3) = a1 → jC_dropBar_J33 b a1 K9 Φ x2 x3 M)))
def jC_dropBar (b : Nat) (a1 : Int) (M : zM) (Φ : Int → zM → Prop) : Prop :=
  i32 ((M b 6) - 1) ∧ ∀ v3_2 : Int, v3_2 = ((M b 6) - 1) → 
    zwh (fun K s => jC_dropBar_L9 b a1 K Φ (s.1) (s.2.1) (s.2.2)) (0, v3_2, M)
def jB_takeBar (a1 : Int) (M : zM) (Φ : Int → zM → Prop) : Prop :=
  
    jC_slotOf 0 a1 M (fun r1 => 
      (0 ≤ r1 → 
        jC_copyFrom 10 0 M (fun M3 => 
          jC_dropBar 10 r1 M3 (fun r4 M5 => 
            jB_settle r4 M5 (fun r6 M7 => Φ r6 M7)))) ∧
      (¬ (0 ≤ r1) → Φ (-1) M))
def jC_arrowSlotOf_L2 (b : Nat) (a1 : Int) (K2 : Int → Prop) (Φ : Int → Prop) (M : zM) (x2 : Int) : Prop :=
  
    ((M b 6) ≤ x2 → Φ (-1)) ∧
    (¬ ((M b 6) ≤ x2) → 0 ≤ x2 ∧ x2 < 40 ∧ 
      (¬ (M (b + 5) x2) = a1 → i32 (x2 + 1) ∧ ∀ v2_2 : Int, v2_2 = x2 + 1 → K2 v2_2) ∧
      ((M (b + 5) x2) = a1 → Φ x2))
def jC_arrowSlotOf (b : Nat) (a1 : Int) (M : zM) (Φ : Int → Prop) : Prop :=
  zwh (fun K s => jC_arrowSlotOf_L2 b a1 K Φ M (s)) 0
def jB_takeArrow (a1 : Int) (M : zM) (Φ : Int → zM → Prop) : Prop :=
  
    jC_arrowSlotOf 0 a1 M (fun r1 => 
      (0 ≤ r1 → 
        jC_copyFrom 10 0 M (fun M3 => 0 ≤ r1 ∧ r1 < 40 ∧ 0 ≤ (M3 17 r1) ∧ (M3 17 r1) < 30 ∧ ∀ v3_6 : Int, v3_6 = (M3 11 (M3 17 r1)) → 
          
          jC_dropArrow 10 r1 M3 (fun M7 => 
            jB_settle v3_6 M7 (fun r8 M9 => Φ r8 M9)))) ∧
      (¬ (0 ≤ r1) → Φ (-1) M))
def jD_readBars_L40 (c1 : Nat) (K10 : (Int × zM) → Prop) (K40 : (Int × zM) → Prop) (Φ : zM → Prop) (x2 x3 : Int) (x4 : Int) (M : zM) : Prop :=
  
    (x3 ≤ x4 → i32 (x2 + 1) ∧ ∀ v2_9 : Int, v2_9 = x2 + 1 → K10 (v2_9, M)) ∧
    (¬ (x3 ≤ x4) → 0 ≤ x4 ∧ x4 < 200 ∧ 0 ≤ x2 ∧ x2 < 30 ∧ 0 ≤ x4 ∧ x4 < 200 ∧ ∀ M13 : zM, M13 = zup M 84 x4 (zor (M 84 x4) (zshl 1 (M (c1 + 2) x2))) → 
      i32 (x4 + 1) ∧ ∀ v4_14 : Int, v4_14 = x4 + 1 → K40 (v4_14, M13))
def jD_readBars_L10 (c1 : Nat) (K10 : (Int × zM) → Prop) (Φ : zM → Prop) (x2 : Int) (M : zM) : Prop :=
  
    ((M c1 0) ≤ x2 → Φ M) ∧
    (¬ ((M c1 0) ≤ x2) → 
      jC_endOf c1 x2 M (fun r2 => ∀ v3_5 : Int, v3_5 = (min 200 r2) → 
        0 ≤ x2 ∧ x2 < 30 ∧ i32 ((M (c1 + 3) x2) + 1) ∧ ∀ v4_8 : Int, v4_8 = ((M (c1 + 3) x2) + 1) → 
        zwh (fun K s => jD_readBars_L40 c1 K10 K Φ x2 v3_5 (s.1) (s.2)) (v4_8, M)))
def jD_readBars (c1 : Nat) (M : zM) (Φ : zM → Prop) : Prop :=
  ∀ M1 : zM, M1 = zfl M 84 200 0 → 
    zwh (fun K s => jD_readBars_L10 c1 K Φ (s.1) (s.2)) (0, M1)
def jD_lanesBetween (c1 : Nat) (a2 : Int) (M : zM) (Φ : Int → Prop) : Prop :=
  0 ≤ a2 ∧ a2 < 40 ∧ 0 ≤ (M (c1 + 6) a2) ∧ (M (c1 + 6) a2) < 30 ∧ ∀ v3_3 : Int, v3_3 = (M (c1 + 2) (M (c1 + 6) a2)) → 
    0 ≤ a2 ∧ a2 < 40 ∧ 0 ≤ (M (c1 + 7) a2) ∧ (M (c1 + 7) a2) < 30 ∧ ∀ v4_6 : Int, v4_6 = (M (c1 + 2) (M (c1 + 7) a2)) → 
    i32 ((zshl 2 (min v3_3 v4_6)) - 1) ∧ ∀ v5_9 : Int, v5_9 = ((zshl 2 (min v3_3 v4_6)) - 1) → 
    i32 ((zshl 1 (max v3_3 v4_6)) - 1) ∧ ∀ v6_12 : Int, v6_12 = ((zshl 1 (max v3_3 v4_6)) - 1) → 
    Φ (zand v6_12 (zxor v5_9 (-1)))
def jD_highest_L23 (c1 : Nat) (a2 : Int) (K23 : (Int × Int) → Prop) (Φ : Int → Prop) (x3 : Int) (M : zM) (x4 x5 : Int) : Prop :=
  
    ((M c1 0) ≤ x5 → Φ x4) ∧
    (¬ ((M c1 0) ≤ x5) → 0 ≤ x5 ∧ x5 < 30 ∧ 0 ≤ x3 ∧ x3 < 30 ∧ 
      (¬ (M (c1 + 2) x5) = (M (c1 + 2) x3) → i32 (x5 + 1) ∧ ∀ v5_8 : Int, v5_8 = x5 + 1 → K23 (x4, v5_8)) ∧
      ((M (c1 + 2) x5) = (M (c1 + 2) x3) → 0 ≤ x5 ∧ x5 < 30 ∧ 0 ≤ x3 ∧ x3 < 30 ∧ 
        ((M (c1 + 3) x5) ≤ (M (c1 + 3) x3) → i32 (x5 + 1) ∧ ∀ v5_11 : Int, v5_11 = x5 + 1 → K23 (x4, v5_11)) ∧
        (¬ ((M (c1 + 3) x5) ≤ (M (c1 + 3) x3)) → 0 ≤ x5 ∧ x5 < 30 ∧ ∀ v4_14 : Int, v4_14 = (min x4 (M (c1 + 3) x5)) → 
          i32 (x5 + 1) ∧ ∀ v5_15 : Int, v5_15 = x5 + 1 → K23 (v4_14, v5_15))))
def jD_highest (c1 : Nat) (a2 : Int) (M : zM) (Φ : Int → Prop) : Prop :=
  0 ≤ a2 ∧ a2 < 40 ∧ ∀ v3_2 : Int, v3_2 = (M (c1 + 6) a2) → 
    0 ≤ a2 ∧ a2 < 40 ∧ 0 ≤ (M (c1 + 7) a2) ∧ (M (c1 + 7) a2) < 30 ∧ ∀ v4_5 : Int, v4_5 = (M (c1 + 3) (M (c1 + 7) a2)) → 
    zwh (fun K s => jD_highest_L23 c1 a2 K Φ v3_2 M (s.1) (s.2)) (v4_5, 0)
def jD_lowest_L22 (c1 : Nat) (a2 : Int) (K22 : (Int × Int) → Prop) (Φ : Int → Prop) (x3 : Int) (M : zM) (x4 x5 : Int) : Prop :=
  
    ((M c1 0) ≤ x5 → Φ x4) ∧
    (¬ ((M c1 0) ≤ x5) → 0 ≤ x5 ∧ x5 < 30 ∧ 0 ≤ x3 ∧ x3 < 30 ∧ 
      (¬ (M (c1 + 2) x5) = (M (c1 + 2) x3) → i32 (x5 + 1) ∧ ∀ v5_8 : Int, v5_8 = x5 + 1 → K22 (x4, v5_8)) ∧
      ((M (c1 + 2) x5) = (M (c1 + 2) x3) → 0 ≤ x5 ∧ x5 < 30 ∧ 0 ≤ x3 ∧ x3 < 30 ∧ 
        ((M (c1 + 3) x3) ≤ (M (c1 + 3) x5) → i32 (x5 + 1) ∧ ∀ v5_11 : Int, v5_11 = x5 + 1 → K22 (x4, v5_11)) ∧
        (¬ ((M (c1 + 3) x3) ≤ (M (c1 + 3) x5)) → 
          jC_endOf c1 x5 M (fun r12 => ∀ v4_15 : Int, v4_15 = (max x4 r12) → 
            i32 (x5 + 1) ∧ ∀ v5_16 : Int, v5_16 = x5 + 1 → K22 (v4_15, v5_16)))))
def jD_lowest (c1 : Nat) (a2 : Int) (M : zM) (Φ : Int → Prop) : Prop :=
  0 ≤ a2 ∧ a2 < 40 ∧ ∀ v3_2 : Int, v3_2 = (M (c1 + 7) a2) → 
    0 ≤ a2 ∧ a2 < 40 ∧ 
    jC_endOf c1 (M (c1 + 6) a2) M (fun r4 => zwh (fun K s => jD_lowest_L22 c1 a2 K Φ v3_2 M (s.1) (s.2)) (r4, 0))
def jD_choose_L59 (c1 : Nat) (a2 : Int) (K59 : (Int × Int) → Prop) (Φ : Int → Prop) (x3 x4 x5 x6 : Int) (M : zM) (x7 x8 : Int) : Prop :=
  
    (x6 < x8 → Φ x7) ∧
    (¬ (x6 < x8) → 0 ≤ x8 ∧ x8 < 200 ∧ 
      ((zand (M 84 x8) x5) = 0 → 
        (¬ x3 = 0 → 
          (x7 = (-5) → i32 (x8 + 1) ∧ ∀ v8_16 : Int, v8_16 = x8 + 1 → K59 (x8, v8_16)) ∧
          (¬ (x7 = (-5)) → 
            (x3 = 1 → i32 (x8 + 1) ∧ ∀ v8_17 : Int, v8_17 = x8 + 1 → K59 (x8, v8_17)) ∧
            (¬ (x3 = 1) → i32 (2 * x8) ∧ i32 ((2 * x8) - x4) ∧ i32 (zabs ((2 * x8) - x4)) ∧ i32 (2 * x7) ∧ i32 ((2 * x7) - x4) ∧ i32 (zabs ((2 * x7) - x4)) ∧ 
              ((zabs ((2 * x7) - x4)) ≤ (zabs ((2 * x8) - x4)) → i32 (x8 + 1) ∧ ∀ v8_24 : Int, v8_24 = x8 + 1 → K59 (x7, v8_24)) ∧
              (¬ ((zabs ((2 * x7) - x4)) ≤ (zabs ((2 * x8) - x4))) → i32 (x8 + 1) ∧ ∀ v8_25 : Int, v8_25 = x8 + 1 → K59 (x8, v8_25))))) ∧
        (x3 = 0 → Φ x8)) ∧
      (¬ ((zand (M 84 x8) x5) = 0) → i32 (x8 + 1) ∧ ∀ v8_30 : Int, v8_30 = x8 + 1 → K59 (x7, v8_30)))
def jD_choose (c1 : Nat) (a2 : Int) (M : zM) (Φ : Int → Prop) : Prop :=
  ∀ v3_1 : Int, v3_1 = (M (c1 + 9) 0) → 
    0 ≤ a2 ∧ a2 < 40 ∧ 
    jC_endOf c1 (M (c1 + 6) a2) M (fun r3 => 0 ≤ a2 ∧ a2 < 40 ∧ 0 ≤ (M (c1 + 7) a2) ∧ (M (c1 + 7) a2) < 30 ∧ i32 (r3 + (M (c1 + 3) (M (c1 + 7) a2))) ∧ ∀ v4_8 : Int, v4_8 = (r3 + (M (c1 + 3) (M (c1 + 7) a2))) → 
      
      jD_lanesBetween c1 a2 M (fun r9 => 
        jD_highest c1 a2 M (fun r11 => 
          jD_lowest c1 a2 M (fun r13 => zwh (fun K s => jD_choose_L59 c1 a2 K Φ v3_1 v4_8 r9 r11 M (s.1) (s.2)) ((-5), r13)))))
def jD_draw_J53 (c1 : Nat) (K12 : (Int × zM) → Prop) (Φ : zM → Prop) (x2 s1 s2 : Int) (M : zM) : Prop :=
  i32 (s1 + s2) ∧ ∀ M9 : zM, M9 = zup M 82 1 (s1 + s2) → 
    i32 (x2 + 1) ∧ ∀ v2_10 : Int, v2_10 = x2 + 1 → K12 (v2_10, M9)
def jD_draw_L12 (c1 : Nat) (K12 : (Int × zM) → Prop) (Φ : zM → Prop) (x2 : Int) (M : zM) : Prop :=
  
    ((M c1 6) ≤ x2 → Φ M) ∧
    (¬ ((M c1 6) ≤ x2) → 
      jD_choose c1 x2 M (fun r3 => 0 ≤ x2 ∧ x2 < 40 ∧ ∀ M6 : zM, M6 = zup M 83 x2 r3 → 
        0 ≤ x2 ∧ x2 < 40 ∧ 
        (¬ (M6 83 x2) = (-5) → jD_draw_J53 c1 K12 Φ x2 (M6 82 1) 0 M6) ∧
        ((M6 83 x2) = (-5) → jD_draw_J53 c1 K12 Φ x2 (M6 82 1) 1 M6)))
def jD_draw (c1 : Nat) (M : zM) (Φ : zM → Prop) : Prop :=
  
    jD_readBars c1 M (fun M1 => ∀ M2 : zM, M2 = zup M1 82 1 0 → 
      zwh (fun K s => jD_draw_L12 c1 K Φ (s.1) (s.2)) (0, M2))
def jB_move_J83 (a1 a2 a3 : Int) (Φ : Int → zM → Prop) (x4 : Int) (M : zM) : Prop :=
  0 ≤ x4 ∧ x4 < 30 ∧ 
    jC_hasRoom 0 a2 a3 (M 4 x4) x4 M (fun r11 => 
      (¬ r11 = 0 → 
        jC_copyFrom 10 0 M (fun M13 => 0 ≤ x4 ∧ x4 < 30 ∧ ∀ M15 : zM, M15 = zup M13 12 x4 a2 → 
          0 ≤ x4 ∧ x4 < 30 ∧ ∀ M17 : zM, M17 = zup M15 13 x4 a3 → 
          
          jD_draw 10 M17 (fun M18 => 
            jB_settle (M18 82 1) M18 (fun r19 M20 => Φ r19 M20)))) ∧
      (r11 = 0 → Φ (-4) M))
def jB_move (a1 a2 a3 : Int) (M : zM) (Φ : Int → zM → Prop) : Prop :=
  
    jC_slotOf 0 a1 M (fun r1 => 
      (r1 < 0 → Φ (-1) M) ∧
      (¬ (r1 < 0) → 
        jB_isLane a2 M (fun r3 => 
          (¬ r3 = 0 → 
            jB_isDay a3 M (fun r5 => 
              (r5 = 0 → Φ (-2) M) ∧
              (¬ (r5 = 0) → 0 ≤ r1 ∧ r1 < 30 ∧ i32 (a3 + (M 4 r1)) ∧ 
                ((a3 + (M 4 r1)) ≤ 200 → 0 ≤ r1 ∧ r1 < 30 ∧ 
                  (¬ (M 2 r1) = a2 → jB_move_J83 a1 a2 a3 Φ r1 M) ∧
                  ((M 2 r1) = a2 → 0 ≤ r1 ∧ r1 < 30 ∧ 
                    (¬ (M 3 r1) = a3 → jB_move_J83 a1 a2 a3 Φ r1 M) ∧
                    ((M 3 r1) = a3 → Φ (-5) M))) ∧
                (¬ ((a3 + (M 4 r1)) ≤ 200) → Φ (-2) M)))) ∧
          (r3 = 0 → Φ (-1) M))))
def jC_hasBars_L2 (b : Nat) (a1 : Int) (K2 : Int → Prop) (Φ : Int → Prop) (M : zM) (x2 : Int) : Prop :=
  
    ((M b 0) ≤ x2 → Φ 0) ∧
    (¬ ((M b 0) ≤ x2) → 0 ≤ x2 ∧ x2 < 30 ∧ 
      (¬ (M (b + 2) x2) = a1 → i32 (x2 + 1) ∧ ∀ v2_2 : Int, v2_2 = x2 + 1 → K2 v2_2) ∧
      ((M (b + 2) x2) = a1 → Φ 1))
def jC_hasBars (b : Nat) (a1 : Int) (M : zM) (Φ : Int → Prop) : Prop :=
  zwh (fun K s => jC_hasBars_L2 b a1 K Φ M (s)) 0
def jC_exchangeLanes_L2 (b : Nat) (a1 a2 : Int) (K2 : (Int × zM) → Prop) (Φ : zM → Prop) (x3 : Int) (M : zM) : Prop :=
  
    ((M b 0) ≤ x3 → Φ M) ∧
    (¬ ((M b 0) ≤ x3) → 0 ≤ x3 ∧ x3 < 30 ∧ 
      (¬ (M (b + 2) x3) = a1 → 0 ≤ x3 ∧ x3 < 30 ∧ 
        (¬ (M (b + 2) x3) = a2 → i32 (x3 + 1) ∧ ∀ v3_3 : Int, v3_3 = x3 + 1 → K2 (v3_3, M)) ∧
        ((M (b + 2) x3) = a2 → 0 ≤ x3 ∧ x3 < 30 ∧ ∀ M5 : zM, M5 = zup M (b + 2) x3 a1 → 
          i32 (x3 + 1) ∧ ∀ v3_6 : Int, v3_6 = x3 + 1 → K2 (v3_6, M5))) ∧
      ((M (b + 2) x3) = a1 → 0 ≤ x3 ∧ x3 < 30 ∧ ∀ M9 : zM, M9 = zup M (b + 2) x3 a2 → 
        i32 (x3 + 1) ∧ ∀ v3_10 : Int, v3_10 = x3 + 1 → K2 (v3_10, M9)))
def jC_exchangeLanes (b : Nat) (a1 a2 : Int) (M : zM) (Φ : zM → Prop) : Prop :=
  zwh (fun K s => jC_exchangeLanes_L2 b a1 a2 K Φ (s.1) (s.2)) (0, M)
def jB_swap_J46 (a1 a2 : Int) (Φ : Int → zM → Prop) (M : zM) : Prop :=
  
    jC_copyFrom 10 0 M (fun M7 => 
      jC_exchangeLanes 10 a1 a2 M7 (fun M8 => 
        jD_draw 10 M8 (fun M9 => 
          jB_settle (M9 82 1) M9 (fun r10 M11 => Φ r10 M11))))
def jB_swap (a1 a2 : Int) (M : zM) (Φ : Int → zM → Prop) : Prop :=
  
    jB_isLane a1 M (fun r1 => 
      (r1 = 0 → Φ (-1) M) ∧
      (¬ (r1 = 0) → 
        jB_isLane a2 M (fun r3 => 
          (¬ r3 = 0 → 
            (a1 = a2 → Φ (-5) M) ∧
            (¬ (a1 = a2) → 
              jC_hasBars 0 a1 M (fun r5 => 
                (¬ r5 = 0 → jB_swap_J46 a1 a2 Φ M) ∧
                (r5 = 0 → 
                  jC_hasBars 0 a2 M (fun r12 => 
                    (¬ r12 = 0 → jB_swap_J46 a1 a2 Φ M) ∧
                    (r12 = 0 → Φ (-5) M)))))) ∧
          (r3 = 0 → Φ (-1) M))))
def jP_sortByFirstDays_J58 (c1 : Nat) (K2 : (Int × zM) → Prop) (Φ : zM → Prop) (x2 x3 : Int) (M : zM) : Prop :=
  0 ≤ x3 ∧ x3 < 30 ∧ ∀ M2 : zM, M2 = zup M 79 x3 x2 → 
    i32 (x2 + 1) ∧ ∀ v2_3 : Int, v2_3 = x2 + 1 → K2 (v2_3, M2)
def jP_sortByFirstDays_L12 (c1 : Nat) (K2 : (Int × zM) → Prop) (K12 : (Int × zM) → Prop) (Φ : zM → Prop) (x2 : Int) (x3 : Int) (M : zM) : Prop :=
  
    (x3 ≤ 0 → jP_sortByFirstDays_J58 c1 K2 Φ x2 x3 M) ∧
    (¬ (x3 ≤ 0) → i32 (x3 - 1) ∧ 0 ≤ (x3 - 1) ∧ (x3 - 1) < 30 ∧ 0 ≤ (M 79 (x3 - 1)) ∧ (M 79 (x3 - 1)) < 30 ∧ 0 ≤ x2 ∧ x2 < 30 ∧ 
      ((M (c1 + 3) (M 79 (x3 - 1))) ≤ (M (c1 + 3) x2) → jP_sortByFirstDays_J58 c1 K2 Φ x2 x3 M) ∧
      (¬ ((M (c1 + 3) (M 79 (x3 - 1))) ≤ (M (c1 + 3) x2)) → i32 (x3 - 1) ∧ 0 ≤ (x3 - 1) ∧ (x3 - 1) < 30 ∧ 0 ≤ x3 ∧ x3 < 30 ∧ ∀ M11 : zM, M11 = zup M 79 x3 (M 79 (x3 - 1)) → 
        i32 (x3 + (-1)) ∧ ∀ v3_12 : Int, v3_12 = x3 + (-1) → K12 (v3_12, M11)))
def jP_sortByFirstDays_L2 (c1 : Nat) (K2 : (Int × zM) → Prop) (Φ : zM → Prop) (x2 : Int) (M : zM) : Prop :=
  
    ((M c1 0) ≤ x2 → Φ M) ∧
    (¬ ((M c1 0) ≤ x2) → zwh (fun K s => jP_sortByFirstDays_L12 c1 K2 K Φ x2 (s.1) (s.2)) (x2, M))
def jP_sortByFirstDays (c1 : Nat) (M : zM) (Φ : zM → Prop) : Prop :=
  zwh (fun K s => jP_sortByFirstDays_L2 c1 K Φ (s.1) (s.2)) (0, M)
def jC_isTaken_L8 (b : Nat) (a2 a3 : Int) (K8 : Int → Prop) (Φ : Int → Prop) (x4 : Int) (M : zM) (x5 : Int) : Prop :=
  
    (a2 ≤ x5 → Φ 0) ∧
    (¬ (a2 ≤ x5) → 0 ≤ x5 ∧ x5 < 30 ∧ ∀ v6_4 : Int, v6_4 = (M 79 x5) → 
      0 ≤ v6_4 ∧ v6_4 < 30 ∧ 
      (¬ (M (b + 2) v6_4) = a3 → i32 (x5 + 1) ∧ ∀ v5_6 : Int, v5_6 = x5 + 1 → K8 v5_6) ∧
      ((M (b + 2) v6_4) = a3 → 0 ≤ x4 ∧ x4 < 30 ∧ 
        jC_endOf b x4 M (fun r8 => 
          jC_sharesDays b v6_4 (M (b + 3) x4) r8 M (fun r10 => 
            (r10 = 0 → i32 (x5 + 1) ∧ ∀ v5_12 : Int, v5_12 = x5 + 1 → K8 v5_12) ∧
            (¬ (r10 = 0) → Φ 1)))))
def jC_isTaken (b : Nat) (a2 a3 : Int) (M : zM) (Φ : Int → Prop) : Prop :=
  0 ≤ a2 ∧ a2 < 30 ∧ ∀ v4_2 : Int, v4_2 = (M 79 a2) → 
    zwh (fun K s => jC_isTaken_L8 b a2 a3 K Φ v4_2 M (s)) 0
def jC_lowestLane_L2 (b : Nat) (a2 : Int) (K2 : Int → Prop) (Φ : Int → Prop) (M : zM) (x3 : Int) : Prop :=
  
    (12 ≤ x3 → Φ x3) ∧
    (¬ (12 ≤ x3) → 
      jC_isTaken b a2 x3 M (fun r1 => 
        (r1 = 0 → Φ x3) ∧
        (¬ (r1 = 0) → i32 (x3 + 1) ∧ ∀ v3_3 : Int, v3_3 = x3 + 1 → K2 v3_3)))
def jC_lowestLane (b : Nat) (a2 : Int) (M : zM) (Φ : Int → Prop) : Prop :=
  zwh (fun K s => jC_lowestLane_L2 b a2 K Φ M (s)) 0
def jC_lanesWithBars_L4 (b : Nat) (K4 : (Int × Int) → Prop) (Φ : Int → Prop) (M : zM) (x1 x2 : Int) : Prop :=
  
    (12 ≤ x2 → Φ x1) ∧
    (¬ (12 ≤ x2) → 
      jC_hasBars b x2 M (fun r1 => 
        (r1 = 0 → i32 (x1 + 0) ∧ ∀ v1_4 : Int, v1_4 = (x1 + 0) → 
          i32 (x2 + 1) ∧ ∀ v2_5 : Int, v2_5 = x2 + 1 → K4 (v1_4, v2_5)) ∧
        (¬ (r1 = 0) → i32 (x1 + 1) ∧ ∀ v1_7 : Int, v1_7 = (x1 + 1) → 
          i32 (x2 + 1) ∧ ∀ v2_8 : Int, v2_8 = x2 + 1 → K4 (v1_7, v2_8))))
def jC_lanesWithBars (b : Nat) (M : zM) (Φ : Int → Prop) : Prop :=
  zwh (fun K s => jC_lanesWithBars_L4 b K Φ M (s.1) (s.2)) (0, 0)
def jC_packLanes_L4 (b : Nat) (K4 : (Int × Int × zM) → Prop) (Φ : Int → zM → Prop) (x2 x3 : Int) (M : zM) : Prop :=
  
    ((M b 0) ≤ x3 → 
      (x2 = 0 → Φ (-5) M) ∧
      (¬ (x2 = 0) → 
        jC_lanesWithBars b M (fun r1 => Φ r1 M))) ∧
    (¬ ((M b 0) ≤ x3) → 0 ≤ x3 ∧ x3 < 30 ∧ ∀ v4_5 : Int, v4_5 = (M 79 x3) → 
      
      jC_lowestLane b x3 M (fun r6 => 
        (r6 < 12 → 0 ≤ v4_5 ∧ v4_5 < 30 ∧ 
          ((M (b + 2) v4_5) = r6 → i32 (x3 + 1) ∧ ∀ v3_9 : Int, v3_9 = x3 + 1 → K4 (x2, v3_9, M)) ∧
          (¬ ((M (b + 2) v4_5) = r6) → 0 ≤ v4_5 ∧ v4_5 < 30 ∧ ∀ M11 : zM, M11 = zup M (b + 2) v4_5 r6 → 
            i32 (x3 + 1) ∧ ∀ v3_12 : Int, v3_12 = x3 + 1 → K4 (1, v3_12, M11))) ∧
        (¬ (r6 < 12) → Φ (-4) M)))
def jC_packLanes (b : Nat) (M : zM) (Φ : Int → zM → Prop) : Prop :=
  zwh (fun K s => jC_packLanes_L4 b K Φ (s.1) (s.2.1) (s.2.2)) (0, 0, M)
def jB_pack (M : zM) (Φ : Int → zM → Prop) : Prop :=
  
    jC_copyFrom 10 0 M (fun M1 => 
      jP_sortByFirstDays 10 M1 (fun M2 => 
        jC_packLanes 10 M2 (fun r3 M4 => 
          jB_settle r3 M4 (fun r5 M6 => Φ r5 M6))))
def jP_behindInLane_L5 (c1 : Nat) (a2 : Int) (K5 : (Int × Int) → Prop) (Φ : Int → Prop) (M : zM) (x3 x4 : Int) : Prop :=
  
    ((M c1 0) ≤ x4 → Φ x3) ∧
    (¬ ((M c1 0) ≤ x4) → 0 ≤ x4 ∧ x4 < 30 ∧ 0 ≤ a2 ∧ a2 < 30 ∧ 
      (¬ (M (c1 + 2) x4) = (M (c1 + 2) a2) → i32 (x4 + 1) ∧ ∀ v4_3 : Int, v4_3 = x4 + 1 → K5 (x3, v4_3)) ∧
      ((M (c1 + 2) x4) = (M (c1 + 2) a2) → 0 ≤ x4 ∧ x4 < 30 ∧ 0 ≤ a2 ∧ a2 < 30 ∧ 
        ((M (c1 + 3) x4) ≤ (M (c1 + 3) a2) → i32 (x4 + 1) ∧ ∀ v4_6 : Int, v4_6 = x4 + 1 → K5 (x3, v4_6)) ∧
        (¬ ((M (c1 + 3) x4) ≤ (M (c1 + 3) a2)) → ∀ v3_7 : Int, v3_7 = (zor x3 (zshl 1 x4)) → 
          i32 (x4 + 1) ∧ ∀ v4_8 : Int, v4_8 = x4 + 1 → K5 (v3_7, v4_8))))
def jP_behindInLane (c1 : Nat) (a2 : Int) (M : zM) (Φ : Int → Prop) : Prop :=
  zwh (fun K s => jP_behindInLane_L5 c1 a2 K Φ M (s.1) (s.2)) (0, 0)
def jC_lateBy (b : Nat) (a1 : Int) (M : zM) (Φ : Int → Prop) : Prop :=
  0 ≤ a1 ∧ a1 < 40 ∧ 
    jC_endOf b (M (b + 6) a1) M (fun r2 => 0 ≤ a1 ∧ a1 < 40 ∧ 0 ≤ (M (b + 7) a1) ∧ (M (b + 7) a1) < 30 ∧ i32 (r2 - (M (b + 3) (M (b + 7) a1))) ∧ Φ (max 0 (r2 - (M (b + 3) (M (b + 7) a1)))))
def jP_read_L35 (c1 : Nat) (K35 : (Int × zM) → Prop) (Φ : zM → Prop) (x2 : Int) (M : zM) : Prop :=
  
    ((M c1 6) ≤ x2 → Φ M) ∧
    (¬ ((M c1 6) ≤ x2) → 
      jC_lateBy c1 x2 M (fun r2 => 
        (¬ r2 = 0 → i32 (x2 + 1) ∧ ∀ v2_4 : Int, v2_4 = x2 + 1 → K35 (v2_4, M)) ∧
        (r2 = 0 → 0 ≤ x2 ∧ x2 < 40 ∧ 0 ≤ (M (c1 + 6) x2) ∧ (M (c1 + 6) x2) < 30 ∧ 0 ≤ x2 ∧ x2 < 40 ∧ 0 ≤ (M (c1 + 6) x2) ∧ (M (c1 + 6) x2) < 30 ∧ ∀ M9 : zM, M9 = zup M 80 (M (c1 + 6) x2) (zor (M 80 (M (c1 + 6) x2)) (zshl 1 (M (c1 + 7) x2))) → 
          i32 (x2 + 1) ∧ ∀ v2_10 : Int, v2_10 = x2 + 1 → K35 (v2_10, M9))))
def jP_read_L7 (c1 : Nat) (K7 : (Int × zM) → Prop) (Φ : zM → Prop) (x2 : Int) (M : zM) : Prop :=
  
    ((M c1 0) ≤ x2 → zwh (fun K s => jP_read_L35 c1 K Φ (s.1) (s.2)) (0, M)) ∧
    (¬ ((M c1 0) ≤ x2) → 
      jP_behindInLane c1 x2 M (fun r13 => 0 ≤ x2 ∧ x2 < 30 ∧ ∀ M16 : zM, M16 = zup M 80 x2 r13 → 
        i32 (x2 + 1) ∧ ∀ v2_17 : Int, v2_17 = x2 + 1 → K7 (v2_17, M16)))
def jP_read (c1 : Nat) (M : zM) (Φ : zM → Prop) : Prop :=
  
    jP_sortByFirstDays c1 M (fun M1 => zwh (fun K s => jP_read_L7 c1 K Φ (s.1) (s.2)) (0, M1))
def jP_isPushed (a1 a2 : Int) (M : zM) (Φ : Int → Prop) : Prop :=
  0 ≤ a2 ∧ a2 < 30 ∧ 
    (¬ (zand (zshr (M 80 a2) a1) 1) = 1 → Φ 0) ∧
    ((zand (zshr (M 80 a2) a1) 1) = 1 → Φ 1)
def jP_slipFrom_L53 (c1 : Nat) (a2 a3 : Int) (K6 : (Int × Int × zM) → Prop) (K53 : (Int × zM) → Prop) (Φ : Int → zM → Prop) (x4 x5 x6 : Int) (x7 : Int) (M : zM) : Prop :=
  
    (x5 ≤ x7 → 0 ≤ x6 ∧ x6 < 30 ∧ 0 ≤ x6 ∧ x6 < 30 ∧ i32 ((M 81 x6) + (M (c1 + 4) x6)) ∧ ∀ v4_11 : Int, v4_11 = (max x4 ((M 81 x6) + (M (c1 + 4) x6))) → 
      i32 (x5 + 1) ∧ ∀ v5_12 : Int, v5_12 = x5 + 1 → K6 (v4_11, v5_12, M)) ∧
    (¬ (x5 ≤ x7) → 0 ≤ x7 ∧ x7 < 30 ∧ ∀ v8_14 : Int, v8_14 = (M 79 x7) → 
      
      jP_isPushed x6 v8_14 M (fun r15 => 
        (r15 = 0 → i32 (x7 + 1) ∧ ∀ v7_17 : Int, v7_17 = x7 + 1 → K53 (v7_17, M)) ∧
        (¬ (r15 = 0) → 0 ≤ x6 ∧ x6 < 30 ∧ 0 ≤ v8_14 ∧ v8_14 < 30 ∧ 0 ≤ v8_14 ∧ v8_14 < 30 ∧ i32 ((M 81 v8_14) + (M (c1 + 4) v8_14)) ∧ 0 ≤ x6 ∧ x6 < 30 ∧ ∀ M24 : zM, M24 = zup M 81 x6 (max (M 81 x6) ((M 81 v8_14) + (M (c1 + 4) v8_14))) → 
          i32 (x7 + 1) ∧ ∀ v7_25 : Int, v7_25 = x7 + 1 → K53 (v7_25, M24))))
def jP_slipFrom_J48 (c1 : Nat) (a2 a3 : Int) (K6 : (Int × Int × zM) → Prop) (Φ : Int → zM → Prop) (x4 x5 x6 s1 s2 s3 : Int) (M : zM) : Prop :=
  i32 (s2 + s3) ∧ 0 ≤ s1 ∧ s1 < 30 ∧ ∀ M6 : zM, M6 = zup M 81 s1 (s2 + s3) → 
    zwh (fun K s => jP_slipFrom_L53 c1 a2 a3 K6 K Φ x4 x5 x6 (s.1) (s.2)) (0, M6)
def jP_slipFrom_L6 (c1 : Nat) (a2 a3 : Int) (K6 : (Int × Int × zM) → Prop) (Φ : Int → zM → Prop) (x4 x5 : Int) (M : zM) : Prop :=
  
    ((M c1 0) ≤ x5 → Φ x4 M) ∧
    (¬ ((M c1 0) ≤ x5) → 0 ≤ x5 ∧ x5 < 30 ∧ ∀ v6_2 : Int, v6_2 = (M 79 x5) → 
      0 ≤ v6_2 ∧ v6_2 < 30 ∧ 
      (¬ v6_2 = a2 → jP_slipFrom_J48 c1 a2 a3 K6 Φ x4 x5 v6_2 v6_2 (M (c1 + 3) v6_2) 0 M) ∧
      (v6_2 = a2 → jP_slipFrom_J48 c1 a2 a3 K6 Φ x4 x5 v6_2 v6_2 (M (c1 + 3) v6_2) a3 M))
def jP_slipFrom (c1 : Nat) (a2 a3 : Int) (M : zM) (Φ : Int → zM → Prop) : Prop :=
  zwh (fun K s => jP_slipFrom_L6 c1 a2 a3 K Φ (s.1) (s.2.1) (s.2.2)) (0, 0, M)
def jC_slipTo_L4 (b : Nat) (K4 : (Int × Int × zM) → Prop) (Φ : Int → zM → Prop) (x2 x3 : Int) (M : zM) : Prop :=
  
    ((M b 0) ≤ x3 → Φ x2 M) ∧
    (¬ ((M b 0) ≤ x3) → 0 ≤ x3 ∧ x3 < 30 ∧ 0 ≤ x3 ∧ x3 < 30 ∧ 
      ((M 81 x3) = (M (b + 3) x3) → i32 (x3 + 1) ∧ ∀ v3_3 : Int, v3_3 = x3 + 1 → K4 (x2, v3_3, M)) ∧
      (¬ ((M 81 x3) = (M (b + 3) x3)) → 0 ≤ x3 ∧ x3 < 30 ∧ 0 ≤ x3 ∧ x3 < 30 ∧ i32 ((M 81 x3) - (M (b + 3) x3)) ∧ i32 ((M b 13) + ((M 81 x3) - (M (b + 3) x3))) ∧ ∀ M8 : zM, M8 = zup M b 13 ((M b 13) + ((M 81 x3) - (M (b + 3) x3))) → 
        0 ≤ x3 ∧ x3 < 30 ∧ 0 ≤ x3 ∧ x3 < 30 ∧ ∀ M11 : zM, M11 = zup M8 (b + 3) x3 (M8 81 x3) → 
        i32 (x2 + 1) ∧ ∀ v2_12 : Int, v2_12 = x2 + 1 → i32 (x3 + 1) ∧ ∀ v3_13 : Int, v3_13 = x3 + 1 → K4 (v2_12, v3_13, M11)))
def jC_slipTo (b : Nat) (M : zM) (Φ : Int → zM → Prop) : Prop :=
  zwh (fun K s => jC_slipTo_L4 b K Φ (s.1) (s.2.1) (s.2.2)) (0, 0, M)
def jB_slip (a1 a2 : Int) (M : zM) (Φ : Int → zM → Prop) : Prop :=
  
    jC_slotOf 0 a1 M (fun r1 => 
      (0 ≤ r1 → 
        (a2 < 1 → Φ (-2) M) ∧
        (¬ (a2 < 1) → 
          (a2 ≤ 30 → 
            jP_read 0 M (fun M3 => 
              jP_slipFrom 0 r1 a2 M3 (fun r4 M5 => 
                (r4 ≤ 200 → 
                  jC_copyFrom 10 0 M5 (fun M6 => 
                    jC_slipTo 10 M6 (fun r7 M8 => 
                      jB_settle r7 M8 (fun r9 M10 => Φ r9 M10)))) ∧
                (¬ (r4 ≤ 200) → Φ (-4) M5)))) ∧
          (¬ (a2 ≤ 30) → Φ (-2) M))) ∧
      (¬ (0 ≤ r1) → Φ (-1) M))
def jP_earliest_L5 (c1 : Nat) (a2 : Int) (K5 : (Int × Int) → Prop) (Φ : Int → Prop) (M : zM) (x3 x4 : Int) : Prop :=
  
    ((M c1 0) ≤ x4 → Φ x3) ∧
    (¬ ((M c1 0) ≤ x4) → 
      jP_isPushed a2 x4 M (fun r1 => 
        (r1 = 0 → i32 (x4 + 1) ∧ ∀ v4_3 : Int, v4_3 = x4 + 1 → K5 (x3, v4_3)) ∧
        (¬ (r1 = 0) → 
          jC_endOf c1 x4 M (fun r4 => ∀ v3_7 : Int, v3_7 = (max x3 r4) → 
            i32 (x4 + 1) ∧ ∀ v4_8 : Int, v4_8 = x4 + 1 → K5 (v3_7, v4_8)))))
def jP_earliest (c1 : Nat) (a2 : Int) (M : zM) (Φ : Int → Prop) : Prop :=
  zwh (fun K s => jP_earliest_L5 c1 a2 K Φ M (s.1) (s.2)) (0, 0)
def jB_pull (a1 : Int) (M : zM) (Φ : Int → zM → Prop) : Prop :=
  
    jC_slotOf 0 a1 M (fun r1 => 
      (0 ≤ r1 → 
        jP_read 0 M (fun M3 => 
          jP_earliest 0 r1 M3 (fun r4 => 0 ≤ r1 ∧ r1 < 30 ∧ i32 ((M3 3 r1) - r4) ∧ ∀ v4_8 : Int, v4_8 = ((M3 3 r1) - r4) → 
            
            (¬ v4_8 = 0 → 
              jC_copyFrom 10 0 M3 (fun M9 => 0 ≤ r1 ∧ r1 < 30 ∧ ∀ M11 : zM, M11 = zup M9 13 r1 r4 → 
                
                jB_settle v4_8 M11 (fun r12 M13 => Φ r12 M13))) ∧
            (v4_8 = 0 → Φ (-5) M3)))) ∧
      (¬ (0 ≤ r1) → Φ (-1) M))
def jC_setWidths_L6 (b : Nat) (a1 a2 a3 : Int) (K6 : (Int × Int × zM) → Prop) (Φ : Int → zM → Prop) (x4 x5 : Int) (M : zM) : Prop :=
  
    (a2 < x5 → Φ x4 M) ∧
    (¬ (a2 < x5) → 0 ≤ x5 ∧ x5 < 200 ∧ 
      ((M (b + 8) x5) = a3 → i32 (x5 + 1) ∧ ∀ v5_2 : Int, v5_2 = x5 + 1 → K6 (x4, v5_2, M)) ∧
      (¬ ((M (b + 8) x5) = a3) → 0 ≤ x5 ∧ x5 < 200 ∧ ∀ M4 : zM, M4 = zup M (b + 8) x5 a3 → 
        i32 (x4 + 1) ∧ ∀ v4_5 : Int, v4_5 = x4 + 1 → i32 (x5 + 1) ∧ ∀ v5_6 : Int, v5_6 = x5 + 1 → K6 (v4_5, v5_6, M4)))
def jC_setWidths (b : Nat) (a1 a2 a3 : Int) (M : zM) (Φ : Int → zM → Prop) : Prop :=
  zwh (fun K s => jC_setWidths_L6 b a1 a2 a3 K Φ (s.1) (s.2.1) (s.2.2)) (0, a1, M)
def jB_width_J69 (a1 a2 a3 : Int) (Φ : Int → zM → Prop) (s1 : Int) (M : zM) : Prop :=
  
    jB_settle s1 M (fun r8 M9 => Φ r8 M9)
def jB_width (a1 a2 a3 : Int) (M : zM) (Φ : Int → zM → Prop) : Prop :=
  
    jB_isDay a1 M (fun r1 => 
      (r1 = 0 → Φ (-2) M) ∧
      (¬ (r1 = 0) → 
        jB_isDay a2 M (fun r3 => 
          (r3 = 0 → Φ (-2) M) ∧
          (¬ (r3 = 0) → 
            (a2 < a1 → Φ (-2) M) ∧
            (¬ (a2 < a1) → 
              (a3 < 1 → Φ (-2) M) ∧
              (¬ (a3 < 1) → 
                (a3 ≤ 9 → 
                  jC_copyFrom 10 0 M (fun M5 => 
                    jC_setWidths 10 a1 a2 a3 M5 (fun r6 M7 => 
                      (¬ r6 = 0 → jB_width_J69 a1 a2 a3 Φ r6 M7) ∧
                      (r6 = 0 → jB_width_J69 a1 a2 a3 Φ (-5) M7)))) ∧
                (¬ (a3 ≤ 9) → Φ (-2) M)))))))
def jB_isSetting (a1 a2 : Int) (M : zM) (Φ : Int → Prop) : Prop :=
  
    (a1 = 0 → 
      (a2 < 0 → Φ 0) ∧
      (¬ (a2 < 0) → 
        (2 < a2 → Φ 0) ∧
        (¬ (2 < a2) → Φ 1))) ∧ (¬ (a1 = 0) → 
    (a1 = 1 → 
      (a2 < 10 → Φ 0) ∧
      (¬ (a2 < 10) → 
        (999 < a2 → Φ 0) ∧
        (¬ (999 < a2) → Φ 1))) ∧ (¬ (a1 = 1) → Φ 0))
def jB_set (a1 a2 : Int) (M : zM) (Φ : Int → zM → Prop) : Prop :=
  
    jB_isSetting a1 a2 M (fun r1 => 
      (¬ r1 = 0 → 0 ≤ a1 ∧ a1 < 2 ∧ ∀ v3_4 : Int, v3_4 = (M 9 a1) → 
        
        (¬ v3_4 = a2 → 
          jC_copyFrom 10 0 M (fun M5 => 0 ≤ a1 ∧ a1 < 2 ∧ ∀ M7 : zM, M7 = zup M5 19 a1 a2 → 
            
            jB_settle v3_4 M7 (fun r8 M9 => Φ r8 M9))) ∧
        (v3_4 = a2 → Φ (-5) M)) ∧
      (r1 = 0 → Φ (-2) M))
def jT_append (a1 : Int) (M : zM) (Φ : Int → zM → Prop) : Prop :=
  
    ((M 73 1) < 60 → 0 ≤ (M 73 1) ∧ (M 73 1) < 60 ∧ 0 ≤ a1 ∧ a1 < 65536 ∧ ∀ M3 : zM, M3 = zup M 74 (M 73 1) a1 → 
      i32 ((M3 73 1) + 1) ∧ ∀ M5 : zM, M5 = zup M3 73 1 ((M3 73 1) + 1) → 
      Φ (M5 73 1) M5) ∧
    (¬ ((M 73 1) < 60) → Φ (-3) M)
def jB_type (a1 : Int) (M : zM) (Φ : Int → zM → Prop) : Prop :=
  
    jT_append a1 M (fun r1 M2 => Φ r1 M2)
def jB_clearText (M : zM) (Φ : Int → zM → Prop) : Prop :=
  ∀ v1_1 : Int, v1_1 = (M 73 1) → 
    ∀ M2 : zM, M2 = zup M 73 1 0 → 
    Φ v1_1 M2
def jB_fault (M : zM) (Φ : Int → zM → Prop) : Prop :=
  
    jT_readParts M (fun r1 M2 => Φ r1 M2)
def jH_takeLatest (c1 : Nat) (M : zM) (Φ : Int → zM → Prop) : Prop :=
  
    (¬ (M 71 2) = 0 → i32 ((M 71 2) - 1) ∧ ∀ M2 : zM, M2 = zup M 71 2 ((M 71 2) - 1) → 
      i32 ((M2 71 1) + (M2 71 2)) ∧ 0 ≤ ((M2 71 1) + (M2 71 2)) ∧ 0 ≤ (((M2 71 1) + (M2 71 2)) % 4) ∧ (((M2 71 1) + (M2 71 2)) % 4) < 4 ∧ ∀ c5 : Nat, c5 = 30 + 10 * Int.toNat (((M2 71 1) + (M2 71 2)) % 4) → 
      
      jC_copyFrom c1 c5 M2 (fun M7 => Φ (M7 71 2) M7)) ∧
    ((M 71 2) = 0 → Φ (-5) M)
def jB_undo (M : zM) (Φ : Int → zM → Prop) : Prop :=
  
    jH_takeLatest 0 M (fun r1 M2 => Φ r1 M2)
def jB_keep (M : zM) (Φ : Int → zM → Prop) : Prop :=
  
    jC_copyFrom 20 0 M (fun M1 => ∀ M2 : zM, M2 = zup M1 70 3 1 → 
      Φ (M2 0 0) M2)
def jB_restore (M : zM) (Φ : Int → zM → Prop) : Prop :=
  
    (¬ (M 70 3) = 0 → 
      jC_copyFrom 10 20 M (fun M1 => 
        jB_settle (M1 10 0) M1 (fun r2 M3 => Φ r2 M3))) ∧
    ((M 70 3) = 0 → Φ (-5) M)
def jC_widthBetween_L5 (b : Nat) (a1 a2 : Int) (K5 : (Int × Int) → Prop) (Φ : Int → Prop) (M : zM) (x3 x4 : Int) : Prop :=
  
    (a2 ≤ x4 → Φ x3) ∧
    (¬ (a2 ≤ x4) → 
      (200 ≤ x4 → Φ x3) ∧
      (¬ (200 ≤ x4) → 0 ≤ x4 ∧ x4 < 200 ∧ i32 (x3 + (M (b + 8) x4)) ∧ ∀ v3_3 : Int, v3_3 = (x3 + (M (b + 8) x4)) → 
        i32 (x4 + 1) ∧ ∀ v4_4 : Int, v4_4 = x4 + 1 → K5 (v3_3, v4_4)))
def jC_widthBetween (b : Nat) (a1 a2 : Int) (M : zM) (Φ : Int → Prop) : Prop :=
  zwh (fun K s => jC_widthBetween_L5 b a1 a2 K Φ M (s.1) (s.2)) (0, a1)
def jC_place (b : Nat) (a1 : Int) (M : zM) (Φ : Int → Prop) : Prop :=
  
    jC_widthBetween b 0 a1 M (fun r1 => Φ r1)
def jC_greatestEnd_L4 (b : Nat) (K4 : (Int × Int) → Prop) (Φ : Int → Prop) (M : zM) (x1 x2 : Int) : Prop :=
  
    ((M b 0) ≤ x2 → Φ x1) ∧
    (¬ ((M b 0) ≤ x2) → 
      jC_endOf b x2 M (fun r1 => ∀ v1_4 : Int, v1_4 = (max x1 r1) → 
        i32 (x2 + 1) ∧ ∀ v2_5 : Int, v2_5 = x2 + 1 → K4 (v1_4, v2_5)))
def jC_greatestEnd (b : Nat) (M : zM) (Φ : Int → Prop) : Prop :=
  zwh (fun K s => jC_greatestEnd_L4 b K Φ M (s.1) (s.2)) (0, 0)
def jP_findLatest_L32 (c1 : Nat) (K12 : (Int × zM) → Prop) (K32 : (Int × Int) → Prop) (Φ : zM → Prop) (x2 x3 x4 : Int) (M : zM) (x5 x6 : Int) : Prop :=
  
    ((M c1 0) ≤ x6 → 0 ≤ x4 ∧ x4 < 30 ∧ i32 (x5 - (M (c1 + 4) x4)) ∧ 0 ≤ x4 ∧ x4 < 30 ∧ ∀ M12 : zM, M12 = zup M 81 x4 (x5 - (M (c1 + 4) x4)) → 
      i32 (x3 + (-1)) ∧ ∀ v3_13 : Int, v3_13 = x3 + (-1) → K12 (v3_13, M12)) ∧
    (¬ ((M c1 0) ≤ x6) → 0 ≤ x6 ∧ x6 < 30 ∧ ∀ v7_15 : Int, v7_15 = (M 79 x6) → 
      
      jP_isPushed v7_15 x4 M (fun r16 => 
        (r16 = 0 → i32 (x6 + 1) ∧ ∀ v6_18 : Int, v6_18 = x6 + 1 → K32 (x5, v6_18)) ∧
        (¬ (r16 = 0) → 0 ≤ v7_15 ∧ v7_15 < 30 ∧ ∀ v5_21 : Int, v5_21 = (min x5 (M 81 v7_15)) → 
          i32 (x6 + 1) ∧ ∀ v6_22 : Int, v6_22 = x6 + 1 → K32 (v5_21, v6_22))))
def jP_findLatest_L12 (c1 : Nat) (K12 : (Int × zM) → Prop) (Φ : zM → Prop) (x2 : Int) (x3 : Int) (M : zM) : Prop :=
  
    (x3 < 0 → Φ M) ∧
    (¬ (x3 < 0) → 0 ≤ x3 ∧ x3 < 30 ∧ ∀ v4_6 : Int, v4_6 = (M 79 x3) → 
      i32 (x3 + 1) ∧ ∀ v6_8 : Int, v6_8 = (x3 + 1) → 
      zwh (fun K s => jP_findLatest_L32 c1 K12 K Φ x2 x3 v4_6 M (s.1) (s.2)) (x2, v6_8))
def jP_findLatest (c1 : Nat) (M : zM) (Φ : zM → Prop) : Prop :=
  
    jC_greatestEnd c1 M (fun r1 => i32 ((M c1 0) - 1) ∧ ∀ v3_4 : Int, v3_4 = ((M c1 0) - 1) → 
      zwh (fun K s => jP_findLatest_L12 c1 K Φ r1 (s.1) (s.2)) (v3_4, M))
def jB_latestOf (a1 : Int) (M : zM) (Φ : Int → zM → Prop) : Prop :=
  
    jP_read 0 M (fun M1 => 
      jP_findLatest 0 M1 (fun M2 => 0 ≤ a1 ∧ a1 < 30 ∧ Φ (M2 81 a1) M2))
def jC_arrowsFrom_L4 (b : Nat) (a1 : Int) (K4 : (Int × Int) → Prop) (Φ : Int → Prop) (M : zM) (x2 x3 : Int) : Prop :=
  
    ((M b 6) ≤ x3 → Φ x2) ∧
    (¬ ((M b 6) ≤ x3) → 0 ≤ x3 ∧ x3 < 40 ∧ 
      (¬ (M (b + 6) x3) = a1 → i32 (x2 + 0) ∧ ∀ v2_3 : Int, v2_3 = (x2 + 0) → 
        i32 (x3 + 1) ∧ ∀ v3_4 : Int, v3_4 = x3 + 1 → K4 (v2_3, v3_4)) ∧
      ((M (b + 6) x3) = a1 → i32 (x2 + 1) ∧ ∀ v2_6 : Int, v2_6 = (x2 + 1) → 
        i32 (x3 + 1) ∧ ∀ v3_7 : Int, v3_7 = x3 + 1 → K4 (v2_6, v3_7)))
def jC_arrowsFrom (b : Nat) (a1 : Int) (M : zM) (Φ : Int → Prop) : Prop :=
  zwh (fun K s => jC_arrowsFrom_L4 b a1 K Φ M (s.1) (s.2)) (0, 0)
def jC_arrowsTo_L4 (b : Nat) (a1 : Int) (K4 : (Int × Int) → Prop) (Φ : Int → Prop) (M : zM) (x2 x3 : Int) : Prop :=
  
    ((M b 6) ≤ x3 → Φ x2) ∧
    (¬ ((M b 6) ≤ x3) → 0 ≤ x3 ∧ x3 < 40 ∧ 
      (¬ (M (b + 7) x3) = a1 → i32 (x2 + 0) ∧ ∀ v2_3 : Int, v2_3 = (x2 + 0) → 
        i32 (x3 + 1) ∧ ∀ v3_4 : Int, v3_4 = x3 + 1 → K4 (v2_3, v3_4)) ∧
      ((M (b + 7) x3) = a1 → i32 (x2 + 1) ∧ ∀ v2_6 : Int, v2_6 = (x2 + 1) → 
        i32 (x3 + 1) ∧ ∀ v3_7 : Int, v3_7 = x3 + 1 → K4 (v2_6, v3_7)))
def jC_arrowsTo (b : Nat) (a1 : Int) (M : zM) (Φ : Int → Prop) : Prop :=
  zwh (fun K s => jC_arrowsTo_L4 b a1 K Φ M (s.1) (s.2)) (0, 0)
def jK_cut_J71 (c1 : Nat) (K21 : (Int × Int × zM) → Prop) (Φ : zM → Prop) (x2 x3 x4 : Int) (M : zM) : Prop :=
  0 ≤ x4 ∧ x4 < 200 ∧ i32 (x3 - (M (c1 + 8) x4)) ∧ ∀ v3_15 : Int, v3_15 = (x3 - (M (c1 + 8) x4)) → 
    i32 (x4 + 1) ∧ ∀ v4_16 : Int, v4_16 = x4 + 1 → K21 (v3_15, v4_16, M)
def jK_cut_J43 (c1 : Nat) (K21 : (Int × Int × zM) → Prop) (Φ : zM → Prop) (x2 x4 : Int) (M : zM) : Prop :=
  0 ≤ (M 85 0) ∧ (M 85 0) < 201 ∧ ∀ M9 : zM, M9 = zup M 86 (M 85 0) x4 → 
    i32 ((M9 85 0) + 1) ∧ ∀ M11 : zM, M11 = zup M9 85 0 ((M9 85 0) + 1) → 
    ∀ v3_12 : Int, v3_12 = (M11 (c1 + 9) 1) → 
    jK_cut_J71 c1 K21 Φ x2 v3_12 x4 M11
def jK_cut_L21 (c1 : Nat) (K21 : (Int × Int × zM) → Prop) (Φ : zM → Prop) (x2 : Int) (x3 x4 : Int) (M : zM) : Prop :=
  
    (x2 ≤ x4 → 0 ≤ (M 85 0) ∧ (M 85 0) < 201 ∧ ∀ M7 : zM, M7 = zup M 86 (M 85 0) x2 → 
      Φ M7) ∧
    (¬ (x2 ≤ x4) → 
      (x4 = 0 → jK_cut_J43 c1 K21 Φ x2 x4 M) ∧
      (¬ (x4 = 0) → 0 ≤ x4 ∧ x4 < 200 ∧ 
        ((M (c1 + 8) x4) ≤ x3 → jK_cut_J71 c1 K21 Φ x2 x3 x4 M) ∧
        (¬ ((M (c1 + 8) x4) ≤ x3) → jK_cut_J43 c1 K21 Φ x2 x4 M)))
def jK_cut (c1 : Nat) (M : zM) (Φ : zM → Prop) : Prop :=
  
    jC_greatestEnd c1 M (fun r1 => ∀ v2_4 : Int, v2_4 = (min 200 r1) → 
      ∀ M5 : zM, M5 = zup M 85 0 0 → 
      zwh (fun K s => jK_cut_L21 c1 K Φ v2_4 (s.1) (s.2.1) (s.2.2)) (0, 0, M5))
def jK_stripOf_L2 (a1 : Int) (K2 : Int → Prop) (Φ : Int → Prop) (M : zM) (x2 : Int) : Prop :=
  i32 ((M 85 0) - 1) ∧ 
    (((M 85 0) - 1) ≤ x2 → Φ x2) ∧
    (¬ (((M 85 0) - 1) ≤ x2) → i32 (x2 + 1) ∧ 0 ≤ (x2 + 1) ∧ (x2 + 1) < 201 ∧ 
      (a1 < (M 86 (x2 + 1)) → Φ x2) ∧
      (¬ (a1 < (M 86 (x2 + 1))) → i32 (x2 + 1) ∧ ∀ v2_4 : Int, v2_4 = x2 + 1 → K2 v2_4))
def jK_stripOf (a1 : Int) (M : zM) (Φ : Int → Prop) : Prop :=
  zwh (fun K s => jK_stripOf_L2 a1 K Φ M (s)) 0
def jB_stripOf (a1 : Int) (M : zM) (Φ : Int → zM → Prop) : Prop :=
  
    jK_cut 0 M (fun M1 => 
      jK_stripOf a1 M1 (fun r2 => Φ r2 M1))
def jC_nextInLane_J47 (b : Nat) (a1 : Int) (K4 : (Int × Int) → Prop) (Φ : Int → Prop) (x2 x3 s0 : Int) (M : zM) : Prop :=
  
    (s0 = 0 → i32 (x3 + 1) ∧ ∀ v3_5 : Int, v3_5 = x3 + 1 → K4 (x2, v3_5)) ∧
    (¬ (s0 = 0) → 
      (x2 < 0 → i32 (x3 + 1) ∧ ∀ v3_6 : Int, v3_6 = x3 + 1 → K4 (x3, v3_6)) ∧
      (¬ (x2 < 0) → 0 ≤ x3 ∧ x3 < 30 ∧ 0 ≤ x2 ∧ x2 < 30 ∧ 
        ((M (b + 3) x2) ≤ (M (b + 3) x3) → i32 (x3 + 1) ∧ ∀ v3_9 : Int, v3_9 = x3 + 1 → K4 (x2, v3_9)) ∧
        (¬ ((M (b + 3) x2) ≤ (M (b + 3) x3)) → i32 (x3 + 1) ∧ ∀ v3_10 : Int, v3_10 = x3 + 1 → K4 (x3, v3_10))))
def jC_nextInLane_J46 (b : Nat) (a1 : Int) (K4 : (Int × Int) → Prop) (Φ : Int → Prop) (x2 x3 : Int) (M : zM) : Prop :=
  jC_nextInLane_J47 b a1 K4 Φ x2 x3 0 M
def jC_nextInLane_L4 (b : Nat) (a1 : Int) (K4 : (Int × Int) → Prop) (Φ : Int → Prop) (M : zM) (x2 x3 : Int) : Prop :=
  
    ((M b 0) ≤ x3 → 
      (0 ≤ x2 → 0 ≤ x2 ∧ x2 < 30 ∧ Φ (M (b + 1) x2)) ∧
      (¬ (0 ≤ x2) → Φ (-5))) ∧
    (¬ ((M b 0) ≤ x3) → 0 ≤ x3 ∧ x3 < 30 ∧ 0 ≤ a1 ∧ a1 < 30 ∧ 
      (¬ (M (b + 2) x3) = (M (b + 2) a1) → jC_nextInLane_J46 b a1 K4 Φ x2 x3 M) ∧
      ((M (b + 2) x3) = (M (b + 2) a1) → 0 ≤ x3 ∧ x3 < 30 ∧ 0 ≤ a1 ∧ a1 < 30 ∧ 
        ((M (b + 3) x3) ≤ (M (b + 3) a1) → jC_nextInLane_J46 b a1 K4 Φ x2 x3 M) ∧
        (¬ ((M (b + 3) x3) ≤ (M (b + 3) a1)) → jC_nextInLane_J47 b a1 K4 Φ x2 x3 1 M)))
def jC_nextInLane (b : Nat) (a1 : Int) (M : zM) (Φ : Int → Prop) : Prop :=
  zwh (fun K s => jC_nextInLane_L4 b a1 K Φ M (s.1) (s.2)) ((-1), 0)
def jB_barOf (a1 a2 : Int) (M : zM) (Φ : Int → zM → Prop) : Prop :=
  
    jC_slotOf 0 a1 M (fun r1 => 
      (0 ≤ r1 → 
        (a2 = 0 → 0 ≤ r1 ∧ r1 < 30 ∧ Φ (M 2 r1) M) ∧ (¬ (a2 = 0) → 
        (a2 = 1 → 0 ≤ r1 ∧ r1 < 30 ∧ Φ (M 3 r1) M) ∧ (¬ (a2 = 1) → 
        (a2 = 2 → 0 ≤ r1 ∧ r1 < 30 ∧ Φ (M 4 r1) M) ∧ (¬ (a2 = 2) → 
        (a2 = 3 → 
          jC_endOf 0 r1 M (fun r6 => Φ r6 M)) ∧ (¬ (a2 = 3) → 
        (a2 = 4 → 0 ≤ r1 ∧ r1 < 30 ∧ 
          jC_place 0 (M 3 r1) M (fun r9 => Φ r9 M)) ∧ (¬ (a2 = 4) → 
        (a2 = 5 → 0 ≤ r1 ∧ r1 < 30 ∧ 
          jC_endOf 0 r1 M (fun r12 => 
            jC_widthBetween 0 (M 3 r1) r12 M (fun r14 => Φ r14 M))) ∧ (¬ (a2 = 5) → 
        (a2 = 6 → 
          jB_latestOf r1 M (fun r16 M17 => 0 ≤ r1 ∧ r1 < 30 ∧ i32 (r16 - (M17 3 r1)) ∧ Φ (r16 - (M17 3 r1)) M17)) ∧ (¬ (a2 = 6) → 
        (a2 = 7 → 
          jC_arrowsFrom 0 r1 M (fun r20 => Φ r20 M)) ∧ (¬ (a2 = 7) → 
        (a2 = 8 → 
          jC_arrowsTo 0 r1 M (fun r22 => Φ r22 M)) ∧ (¬ (a2 = 8) → 
        (a2 = 9 → 0 ≤ r1 ∧ r1 < 30 ∧ 
          jB_stripOf (M 3 r1) M (fun r25 M26 => Φ r25 M26)) ∧ (¬ (a2 = 9) → 
        (a2 = 10 → 
          jC_endOf 0 r1 M (fun r27 => i32 (r27 - 1) ∧ 
            jB_stripOf (r27 - 1) M (fun r30 M31 => 0 ≤ r1 ∧ r1 < 30 ∧ 
              jB_stripOf (M31 3 r1) M31 (fun r33 M34 => i32 (r30 - r33) ∧ i32 ((r30 - r33) + 1) ∧ Φ ((r30 - r33) + 1) M34)))) ∧ (¬ (a2 = 10) → 
        (a2 = 11 → 
          jC_nextInLane 0 r1 M (fun r37 => Φ r37 M)) ∧ (¬ (a2 = 11) → Φ (-2) M))))))))))))) ∧
      (¬ (0 ≤ r1) → Φ (-1) M))
def jD_freeBends_L26 (c1 : Nat) (a2 : Int) (K26 : (Int × Int) → Prop) (Φ : Int → Prop) (x4 x5 : Int) (M : zM) (x3 x6 : Int) : Prop :=
  
    (x5 < x6 → Φ x3) ∧
    (¬ (x5 < x6) → 0 ≤ x6 ∧ x6 < 200 ∧ 
      (¬ (zand (M 84 x6) x4) = 0 → i32 (x3 + 0) ∧ ∀ v3_9 : Int, v3_9 = (x3 + 0) → 
        i32 (x6 + 1) ∧ ∀ v6_10 : Int, v6_10 = x6 + 1 → K26 (v3_9, v6_10)) ∧
      ((zand (M 84 x6) x4) = 0 → i32 (x3 + 1) ∧ ∀ v3_12 : Int, v3_12 = (x3 + 1) → 
        i32 (x6 + 1) ∧ ∀ v6_13 : Int, v6_13 = x6 + 1 → K26 (v3_12, v6_13)))
def jD_freeBends (c1 : Nat) (a2 : Int) (M : zM) (Φ : Int → Prop) : Prop :=
  
    jD_lanesBetween c1 a2 M (fun r1 => 
      jD_highest c1 a2 M (fun r3 => 
        jD_lowest c1 a2 M (fun r5 => zwh (fun K s => jD_freeBends_L26 c1 a2 K Φ r1 r3 M (s.1) (s.2)) (0, r5))))
def jD_goesAlong (c1 : Nat) (a2 a3 a4 : Int) (M : zM) (Φ : Int → Prop) : Prop :=
  0 ≤ a2 ∧ a2 < 40 ∧ ∀ v5_2 : Int, v5_2 = (M (c1 + 6) a2) → 
    0 ≤ a2 ∧ a2 < 40 ∧ ∀ v6_4 : Int, v6_4 = (M (c1 + 7) a2) → 
    0 ≤ a2 ∧ a2 < 40 ∧ 
    ((M 83 a2) ≤ a4 → 0 ≤ v6_4 ∧ v6_4 < 30 ∧ 
      (¬ a3 = (M (c1 + 2) v6_4) → Φ 0) ∧
      (a3 = (M (c1 + 2) v6_4) → 0 ≤ v6_4 ∧ v6_4 < 30 ∧ 
        ((M (c1 + 3) v6_4) ≤ a4 → Φ 0) ∧
        (¬ ((M (c1 + 3) v6_4) ≤ a4) → Φ 1))) ∧
    (¬ ((M 83 a2) ≤ a4) → 0 ≤ v5_2 ∧ v5_2 < 30 ∧ 
      (¬ a3 = (M (c1 + 2) v5_2) → Φ 0) ∧
      (a3 = (M (c1 + 2) v5_2) → 
        jC_endOf c1 v5_2 M (fun r11 => 
          (a4 < r11 → Φ 0) ∧
          (¬ (a4 < r11) → Φ 1))))
def jD_passesThrough (c1 : Nat) (a2 a3 a4 : Int) (M : zM) (Φ : Int → Prop) : Prop :=
  
    jD_lanesBetween c1 a2 M (fun r1 => 
      (¬ (zand (zshr r1 a4) 1) = 1 → Φ 0) ∧
      ((zand (zshr r1 a4) 1) = 1 → 0 ≤ a2 ∧ a2 < 40 ∧ i32 ((M 83 a2) - 1) ∧ 
        jD_goesAlong c1 a3 a4 ((M 83 a2) - 1) M (fun r5 => 
          (r5 = 0 → Φ 0) ∧
          (¬ (r5 = 0) → 0 ≤ a2 ∧ a2 < 40 ∧ 
            jD_goesAlong c1 a3 a4 (M 83 a2) M (fun r8 => 
              (r8 = 0 → Φ 0) ∧
              (¬ (r8 = 0) → Φ 1))))))
def jD_crosses_J66 (c1 : Nat) (a2 a3 : Int) (Φ : Int → Prop) (M : zM) : Prop :=
  Φ 1
def jD_crosses (c1 : Nat) (a2 a3 : Int) (M : zM) (Φ : Int → Prop) : Prop :=
  0 ≤ a2 ∧ a2 < 40 ∧ 
    ((M 83 a2) = (-5) → Φ 0) ∧
    (¬ ((M 83 a2) = (-5)) → 0 ≤ a3 ∧ a3 < 40 ∧ 
      (¬ (M 83 a3) = (-5) → 0 ≤ a3 ∧ a3 < 40 ∧ 0 ≤ (M (c1 + 6) a3) ∧ (M (c1 + 6) a3) < 30 ∧ 
        jD_passesThrough c1 a2 a3 (M (c1 + 2) (M (c1 + 6) a3)) M (fun r5 => 
          (¬ r5 = 0 → jD_crosses_J66 c1 a2 a3 Φ M) ∧
          (r5 = 0 → 0 ≤ a3 ∧ a3 < 40 ∧ 0 ≤ (M (c1 + 7) a3) ∧ (M (c1 + 7) a3) < 30 ∧ 
            jD_passesThrough c1 a2 a3 (M (c1 + 2) (M (c1 + 7) a3)) M (fun r9 => 
              (r9 = 0 → Φ 0) ∧
              (¬ (r9 = 0) → jD_crosses_J66 c1 a2 a3 Φ M))))) ∧
      ((M 83 a3) = (-5) → Φ 0))
def jD_pointsOf_J31 (c1 : Nat) (a2 : Int) (K5 : (Int × Int) → Prop) (Φ : Int → Prop) (x4 s0 s1 : Int) (M : zM) : Prop :=
  i32 (s0 + s1) ∧ ∀ v3_4 : Int, v3_4 = (s0 + s1) → 
    
    jD_crosses c1 x4 a2 M (fun r5 => 
      (r5 = 0 → i32 (v3_4 + 0) ∧ ∀ v3_8 : Int, v3_8 = (v3_4 + 0) → 
        i32 (x4 + 1) ∧ ∀ v4_9 : Int, v4_9 = x4 + 1 → K5 (v3_8, v4_9)) ∧
      (¬ (r5 = 0) → i32 (v3_4 + 1) ∧ ∀ v3_11 : Int, v3_11 = (v3_4 + 1) → 
        i32 (x4 + 1) ∧ ∀ v4_12 : Int, v4_12 = x4 + 1 → K5 (v3_11, v4_12)))
def jD_pointsOf_L5 (c1 : Nat) (a2 : Int) (K5 : (Int × Int) → Prop) (Φ : Int → Prop) (M : zM) (x3 x4 : Int) : Prop :=
  
    ((M c1 6) ≤ x4 → Φ x3) ∧
    (¬ ((M c1 6) ≤ x4) → 
      jD_crosses c1 a2 x4 M (fun r1 => 
        (r1 = 0 → jD_pointsOf_J31 c1 a2 K5 Φ x4 x3 0 M) ∧
        (¬ (r1 = 0) → jD_pointsOf_J31 c1 a2 K5 Φ x4 x3 1 M)))
def jD_pointsOf (c1 : Nat) (a2 : Int) (M : zM) (Φ : Int → Prop) : Prop :=
  zwh (fun K s => jD_pointsOf_L5 c1 a2 K Φ M (s.1) (s.2)) (0, 0)
def jB_arrowOf_J45 (a1 a2 : Int) (Φ : Int → zM → Prop) (x3 s0 : Int) (M : zM) : Prop :=
  0 ≤ x3 ∧ x3 < 40 ∧ 
    jC_endOf 0 (M 6 x3) M (fun r6 => 0 ≤ x3 ∧ x3 < 40 ∧ 0 ≤ (M 7 x3) ∧ (M 7 x3) < 30 ∧ ∀ v6_10 : Int, v6_10 = (M 3 (M 7 x3)) → 
      
      (a2 = 0 → 0 ≤ x3 ∧ x3 < 40 ∧ 0 ≤ (M 6 x3) ∧ (M 6 x3) < 30 ∧ Φ (M 1 (M 6 x3)) M) ∧ (¬ (a2 = 0) → 
      (a2 = 1 → 0 ≤ x3 ∧ x3 < 40 ∧ 0 ≤ (M 7 x3) ∧ (M 7 x3) < 30 ∧ Φ (M 1 (M 7 x3)) M) ∧ (¬ (a2 = 1) → 
      (a2 = 2 → 0 ≤ x3 ∧ x3 < 40 ∧ Φ (M 83 x3) M) ∧ (¬ (a2 = 2) → 
      (a2 = 3 → 
        jC_lateBy 0 x3 M (fun r16 => Φ r16 M)) ∧ (¬ (a2 = 3) → 
      (a2 = 4 → 
        jD_freeBends 0 x3 M (fun r18 => Φ r18 M)) ∧ (¬ (a2 = 4) → 
      (a2 = 5 → 
        (s0 = 0 → Φ (-5) M) ∧
        (¬ (s0 = 0) → 
          jC_widthBetween 0 r6 v6_10 M (fun r20 => Φ r20 M))) ∧ (¬ (a2 = 5) → 
      (a2 = 6 → 
        jD_pointsOf 0 x3 M (fun r23 => Φ r23 M)) ∧ (¬ (a2 = 6) → 
      (a2 = 7 → 
        (s0 = 0 → Φ (-5) M) ∧
        (¬ (s0 = 0) → 
          jB_stripOf v6_10 M (fun r25 M26 => i32 (r6 - 1) ∧ 
            jB_stripOf (r6 - 1) M26 (fun r28 M29 => i32 (r25 - r28) ∧ Φ (r25 - r28) M29)))) ∧ (¬ (a2 = 7) → Φ (-2) M)))))))))
def jB_arrowOf (a1 a2 : Int) (M : zM) (Φ : Int → zM → Prop) : Prop :=
  
    jC_arrowSlotOf 0 a1 M (fun r1 => 
      (0 ≤ r1 → 
        jD_draw 0 M (fun M3 => 0 ≤ r1 ∧ r1 < 40 ∧ 
          ((M3 83 r1) = (-5) → jB_arrowOf_J45 a1 a2 Φ r1 0 M3) ∧
          (¬ ((M3 83 r1) = (-5)) → jB_arrowOf_J45 a1 a2 Φ r1 1 M3))) ∧
      (¬ (0 ≤ r1) → Φ (-1) M))
def jD_whyShut (c1 : Nat) (a2 a3 : Int) (M : zM) (Φ : Int → zM → Prop) : Prop :=
  0 ≤ a2 ∧ a2 < 40 ∧ 
    jC_endOf c1 (M (c1 + 6) a2) M (fun r2 => 
      (a3 < r2 → Φ 1 M) ∧
      (¬ (a3 < r2) → 0 ≤ a2 ∧ a2 < 40 ∧ 0 ≤ (M (c1 + 7) a2) ∧ (M (c1 + 7) a2) < 30 ∧ 
        (a3 ≤ (M (c1 + 3) (M (c1 + 7) a2)) → 
          jD_highest c1 a2 M (fun r6 => 
            (a3 ≤ r6 → 
              jD_lowest c1 a2 M (fun r8 => 
                (r8 ≤ a3 → 
                  jD_readBars c1 M (fun M10 => 0 ≤ a3 ∧ a3 < 200 ∧ 
                    jD_lanesBetween c1 a2 M10 (fun r12 => 
                      (¬ (zand (M10 84 a3) r12) = 0 → Φ 4 M10) ∧
                      ((zand (M10 84 a3) r12) = 0 → Φ 0 M10)))) ∧
                (¬ (r8 ≤ a3) → Φ 3 M))) ∧
            (¬ (a3 ≤ r6) → Φ 2 M))) ∧
        (¬ (a3 ≤ (M (c1 + 3) (M (c1 + 7) a2))) → Φ 1 M)))
def jB_reason (a1 a2 : Int) (M : zM) (Φ : Int → zM → Prop) : Prop :=
  
    jC_arrowSlotOf 0 a1 M (fun r1 => 
      (0 ≤ r1 → 
        jD_whyShut 0 r1 a2 M (fun r3 M4 => Φ r3 M4)) ∧
      (¬ (0 ≤ r1) → Φ (-1) M))
def jC_barAt_L2 (b : Nat) (a1 a2 : Int) (K2 : Int → Prop) (Φ : Int → Prop) (M : zM) (x3 : Int) : Prop :=
  
    ((M b 0) ≤ x3 → Φ (-5)) ∧
    (¬ ((M b 0) ≤ x3) → 0 ≤ x3 ∧ x3 < 30 ∧ 
      (¬ (M (b + 2) x3) = a1 → i32 (x3 + 1) ∧ ∀ v3_2 : Int, v3_2 = x3 + 1 → K2 v3_2) ∧
      ((M (b + 2) x3) = a1 → i32 (a2 + 1) ∧ 
        jC_sharesDays b x3 a2 (a2 + 1) M (fun r4 => 
          (r4 = 0 → i32 (x3 + 1) ∧ ∀ v3_6 : Int, v3_6 = x3 + 1 → K2 v3_6) ∧
          (¬ (r4 = 0) → 0 ≤ x3 ∧ x3 < 30 ∧ Φ (M (b + 1) x3)))))
def jC_barAt (b : Nat) (a1 a2 : Int) (M : zM) (Φ : Int → Prop) : Prop :=
  zwh (fun K s => jC_barAt_L2 b a1 a2 K Φ M (s)) 0
def jB_cell (a1 a2 : Int) (M : zM) (Φ : Int → Prop) : Prop :=
  
    jB_isLane a1 M (fun r1 => 
      (r1 = 0 → Φ (-1)) ∧
      (¬ (r1 = 0) → 
        jB_isDay a2 M (fun r3 => 
          (r3 = 0 → Φ (-1)) ∧
          (¬ (r3 = 0) → 
            jC_barAt 0 a1 a2 M (fun r5 => Φ r5)))))
def jC_barsShown_L5 (b : Nat) (a1 a2 : Int) (K5 : (Int × Int) → Prop) (Φ : Int → Prop) (M : zM) (x3 x4 : Int) : Prop :=
  
    ((M b 0) ≤ x4 → Φ x3) ∧
    (¬ ((M b 0) ≤ x4) → 
      jC_sharesDays b x4 a1 a2 M (fun r1 => 
        (r1 = 0 → i32 (x3 + 0) ∧ ∀ v3_4 : Int, v3_4 = (x3 + 0) → 
          i32 (x4 + 1) ∧ ∀ v4_5 : Int, v4_5 = x4 + 1 → K5 (v3_4, v4_5)) ∧
        (¬ (r1 = 0) → i32 (x3 + 1) ∧ ∀ v3_7 : Int, v3_7 = (x3 + 1) → 
          i32 (x4 + 1) ∧ ∀ v4_8 : Int, v4_8 = x4 + 1 → K5 (v3_7, v4_8))))
def jC_barsShown (b : Nat) (a1 a2 : Int) (M : zM) (Φ : Int → Prop) : Prop :=
  zwh (fun K s => jC_barsShown_L5 b a1 a2 K Φ M (s.1) (s.2)) (0, 0)
def jC_barsBegun_J41 (b : Nat) (a1 a2 : Int) (K5 : (Int × Int) → Prop) (Φ : Int → Prop) (x4 s0 : Int) (M : zM) : Prop :=
  i32 (s0 + 0) ∧ ∀ v3_3 : Int, v3_3 = (s0 + 0) → 
    i32 (x4 + 1) ∧ ∀ v4_4 : Int, v4_4 = x4 + 1 → K5 (v3_3, v4_4)
def jC_barsBegun_L5 (b : Nat) (a1 a2 : Int) (K5 : (Int × Int) → Prop) (Φ : Int → Prop) (M : zM) (x3 x4 : Int) : Prop :=
  
    ((M b 0) ≤ x4 → Φ x3) ∧
    (¬ ((M b 0) ≤ x4) → 0 ≤ x4 ∧ x4 < 30 ∧ 
      ((M (b + 3) x4) < a1 → jC_barsBegun_J41 b a1 a2 K5 Φ x4 x3 M) ∧
      (¬ ((M (b + 3) x4) < a1) → 0 ≤ x4 ∧ x4 < 30 ∧ 
        (a2 ≤ (M (b + 3) x4) → jC_barsBegun_J41 b a1 a2 K5 Φ x4 x3 M) ∧
        (¬ (a2 ≤ (M (b + 3) x4)) → i32 (x3 + 1) ∧ ∀ v3_7 : Int, v3_7 = (x3 + 1) → 
          i32 (x4 + 1) ∧ ∀ v4_8 : Int, v4_8 = x4 + 1 → K5 (v3_7, v4_8))))
def jC_barsBegun (b : Nat) (a1 a2 : Int) (M : zM) (Φ : Int → Prop) : Prop :=
  zwh (fun K s => jC_barsBegun_L5 b a1 a2 K Φ M (s.1) (s.2)) (0, 0)
def jB_strip (a1 a2 : Int) (M : zM) (Φ : Int → zM → Prop) : Prop :=
  
    (a1 < 0 → Φ (-2) M) ∧
    (¬ (a1 < 0) → 
      (a2 < 0 → Φ (-2) M) ∧
      (¬ (a2 < 0) → 
        (a2 ≤ 4 → 
          jK_cut 0 M (fun M1 => 
            (a1 < (M1 85 0) → 0 ≤ a1 ∧ a1 < 201 ∧ ∀ v3_3 : Int, v3_3 = (M1 86 a1) → 
              i32 (a1 + 1) ∧ 0 ≤ (a1 + 1) ∧ (a1 + 1) < 201 ∧ ∀ v4_6 : Int, v4_6 = (M1 86 (a1 + 1)) → 
              
              (a2 = 0 → Φ v3_3 M1) ∧ (¬ (a2 = 0) → 
              (a2 = 1 → i32 (v4_6 - v3_3) ∧ Φ (v4_6 - v3_3) M1) ∧ (¬ (a2 = 1) → 
              (a2 = 2 → 
                jC_widthBetween 0 v3_3 v4_6 M1 (fun r8 => Φ r8 M1)) ∧ (¬ (a2 = 2) → 
              (a2 = 3 → 
                jC_barsShown 0 v3_3 v4_6 M1 (fun r10 => Φ r10 M1)) ∧ (¬ (a2 = 3) → 
                jC_barsBegun 0 v3_3 v4_6 M1 (fun r12 => Φ r12 M1)))))) ∧
            (¬ (a1 < (M1 85 0)) → Φ (-5) M1))) ∧
        (¬ (a2 ≤ 4) → Φ (-2) M)))
def jB_undrawnArrows (M : zM) (Φ : Int → zM → Prop) : Prop :=
  
    jD_draw 0 M (fun M1 => Φ (M1 82 1) M1)
def jC_lateArrows_L4 (b : Nat) (K4 : (Int × Int) → Prop) (Φ : Int → Prop) (M : zM) (x1 x2 : Int) : Prop :=
  
    ((M b 6) ≤ x2 → Φ x1) ∧
    (¬ ((M b 6) ≤ x2) → 
      jC_lateBy b x2 M (fun r1 => 
        (r1 ≤ 0 → i32 (x1 + 0) ∧ ∀ v1_4 : Int, v1_4 = (x1 + 0) → 
          i32 (x2 + 1) ∧ ∀ v2_5 : Int, v2_5 = x2 + 1 → K4 (v1_4, v2_5)) ∧
        (¬ (r1 ≤ 0) → i32 (x1 + 1) ∧ ∀ v1_7 : Int, v1_7 = (x1 + 1) → 
          i32 (x2 + 1) ∧ ∀ v2_8 : Int, v2_8 = x2 + 1 → K4 (v1_7, v2_8))))
def jC_lateArrows (b : Nat) (M : zM) (Φ : Int → Prop) : Prop :=
  zwh (fun K s => jC_lateArrows_L4 b K Φ M (s.1) (s.2)) (0, 0)
def jD_pointsInAll_L15 (c1 : Nat) (K4 : (Int × Int) → Prop) (K15 : (Int × Int) → Prop) (Φ : Int → Prop) (x3 : Int) (M : zM) (x2 x4 : Int) : Prop :=
  
    ((M c1 6) ≤ x4 → i32 (x3 + 1) ∧ ∀ v3_1 : Int, v3_1 = x3 + 1 → K4 (x2, v3_1)) ∧
    (¬ ((M c1 6) ≤ x4) → 
      jD_crosses c1 x3 x4 M (fun r2 => 
        (r2 = 0 → i32 (x2 + 0) ∧ ∀ v2_5 : Int, v2_5 = (x2 + 0) → 
          i32 (x4 + 1) ∧ ∀ v4_6 : Int, v4_6 = x4 + 1 → K15 (v2_5, v4_6)) ∧
        (¬ (r2 = 0) → i32 (x2 + 1) ∧ ∀ v2_8 : Int, v2_8 = (x2 + 1) → 
          i32 (x4 + 1) ∧ ∀ v4_9 : Int, v4_9 = x4 + 1 → K15 (v2_8, v4_9))))
def jD_pointsInAll_L4 (c1 : Nat) (K4 : (Int × Int) → Prop) (Φ : Int → Prop) (M : zM) (x2 x3 : Int) : Prop :=
  
    ((M c1 6) ≤ x3 → Φ x2) ∧
    (¬ ((M c1 6) ≤ x3) → zwh (fun K s => jD_pointsInAll_L15 c1 K4 K Φ x3 M (s.1) (s.2)) (x2, 0))
def jD_pointsInAll (c1 : Nat) (M : zM) (Φ : Int → Prop) : Prop :=
  zwh (fun K s => jD_pointsInAll_L4 c1 K Φ M (s.1) (s.2)) (0, 0)
def jB_crossingPoints (M : zM) (Φ : Int → zM → Prop) : Prop :=
  
    jD_draw 0 M (fun M1 => 
      jD_pointsInAll 0 M1 (fun r2 => Φ r2 M1))
def jB_stripsInAll (M : zM) (Φ : Int → zM → Prop) : Prop :=
  
    jK_cut 0 M (fun M1 => Φ (M1 85 0) M1)
def jB_criticalBars_L26 (K26 : (Int × Int) → Prop) (Φ : Int → zM → Prop) (M : zM) (x1 x2 : Int) : Prop :=
  
    ((M 0 0) ≤ x2 → Φ x1 M) ∧
    (¬ ((M 0 0) ≤ x2) → 0 ≤ x2 ∧ x2 < 30 ∧ 0 ≤ x2 ∧ x2 < 30 ∧ 
      (¬ (M 81 x2) = (M 3 x2) → i32 (x2 + 1) ∧ ∀ v2_5 : Int, v2_5 = x2 + 1 → K26 (x1, v2_5)) ∧
      ((M 81 x2) = (M 3 x2) → i32 (x1 + 1) ∧ ∀ v1_6 : Int, v1_6 = x1 + 1 → i32 (x2 + 1) ∧ ∀ v2_7 : Int, v2_7 = x2 + 1 → K26 (v1_6, v2_7)))
def jB_criticalBars (M : zM) (Φ : Int → zM → Prop) : Prop :=
  
    jP_read 0 M (fun M1 => 
      jP_findLatest 0 M1 (fun M2 => zwh (fun K s => jB_criticalBars_L26 K Φ M2 (s.1) (s.2)) (0, 0)))
def jB_count (a1 : Int) (M : zM) (Φ : Int → zM → Prop) : Prop :=
  
    (a1 = 0 → Φ (M 0 0) M) ∧ (¬ (a1 = 0) → 
    (a1 = 1 → Φ (M 0 6) M) ∧ (¬ (a1 = 1) → 
    (a1 = 2 → 
      jC_lanesWithBars 0 M (fun r1 => Φ r1 M)) ∧ (¬ (a1 = 2) → 
    (a1 = 3 → 
      jB_undrawnArrows M (fun r3 M4 => Φ r3 M4)) ∧ (¬ (a1 = 3) → 
    (a1 = 4 → 
      jC_lateArrows 0 M (fun r5 => Φ r5 M)) ∧ (¬ (a1 = 4) → 
    (a1 = 5 → 
      jB_crossingPoints M (fun r7 M8 => Φ r7 M8)) ∧ (¬ (a1 = 5) → 
    (a1 = 6 → 
      jC_greatestEnd 0 M (fun r9 => Φ r9 M)) ∧ (¬ (a1 = 6) → 
    (a1 = 7 → 
      jB_stripsInAll M (fun r11 M12 => Φ r11 M12)) ∧ (¬ (a1 = 7) → 
    (a1 = 8 → 
      jC_greatestEnd 0 M (fun r13 => 
        jC_place 0 r13 M (fun r15 => Φ r15 M))) ∧ (¬ (a1 = 8) → 
    (a1 = 9 → 
      jB_criticalBars M (fun r17 M18 => Φ r17 M18)) ∧ (¬ (a1 = 9) → 
    (a1 = 10 → Φ (M 0 1) M) ∧ (¬ (a1 = 10) → 
    (a1 = 11 → Φ (M 0 7) M) ∧ (¬ (a1 = 11) → 
    (a1 = 12 → Φ (M 0 13) M) ∧ (¬ (a1 = 12) → 
    (a1 = 13 → Φ (M 71 2) M) ∧ (¬ (a1 = 13) → 
    (a1 = 14 → Φ (M 73 1) M) ∧ (¬ (a1 = 14) → 
    (a1 = 15 → Φ (M 9 0) M) ∧ (¬ (a1 = 15) → 
    (a1 = 16 → Φ (M 9 1) M) ∧ (¬ (a1 = 16) → Φ (-2) M)))))))))))))))))
def jB_latest (a1 : Int) (M : zM) (Φ : Int → zM → Prop) : Prop :=
  
    jC_slotOf 0 a1 M (fun r1 => 
      (0 ≤ r1 → 
        jB_latestOf r1 M (fun r3 M4 => Φ r3 M4)) ∧
      (¬ (0 ≤ r1) → Φ (-1) M))
def jP_longestRow_L26 (c1 : Nat) (K4 : (Int × Int × zM) → Prop) (K26 : (Int × Int) → Prop) (Φ : Int → zM → Prop) (x2 x3 x4 : Int) (M : zM) (x5 x6 : Int) : Prop :=
  
    (x3 ≤ x6 → 0 ≤ x4 ∧ x4 < 30 ∧ i32 (x5 + (M (c1 + 4) x4)) ∧ 0 ≤ x4 ∧ x4 < 30 ∧ ∀ M6 : zM, M6 = zup M 81 x4 (x5 + (M (c1 + 4) x4)) → 
      0 ≤ x4 ∧ x4 < 30 ∧ ∀ v2_9 : Int, v2_9 = (max x2 (M6 81 x4)) → 
      i32 (x3 + 1) ∧ ∀ v3_10 : Int, v3_10 = x3 + 1 → K4 (v2_9, v3_10, M6)) ∧
    (¬ (x3 ≤ x6) → 0 ≤ x6 ∧ x6 < 30 ∧ ∀ v7_12 : Int, v7_12 = (M 79 x6) → 
      
      jP_isPushed x4 v7_12 M (fun r13 => 
        (r13 = 0 → i32 (x6 + 1) ∧ ∀ v6_15 : Int, v6_15 = x6 + 1 → K26 (x5, v6_15)) ∧
        (¬ (r13 = 0) → 0 ≤ v7_12 ∧ v7_12 < 30 ∧ ∀ v5_18 : Int, v5_18 = (max x5 (M 81 v7_12)) → 
          i32 (x6 + 1) ∧ ∀ v6_19 : Int, v6_19 = x6 + 1 → K26 (v5_18, v6_19))))
def jP_longestRow_L4 (c1 : Nat) (K4 : (Int × Int × zM) → Prop) (Φ : Int → zM → Prop) (x2 x3 : Int) (M : zM) : Prop :=
  
    ((M c1 0) ≤ x3 → Φ x2 M) ∧
    (¬ ((M c1 0) ≤ x3) → 0 ≤ x3 ∧ x3 < 30 ∧ ∀ v4_2 : Int, v4_2 = (M 79 x3) → 
      zwh (fun K s => jP_longestRow_L26 c1 K4 K Φ x2 x3 v4_2 M (s.1) (s.2)) (0, 0))
def jP_longestRow (c1 : Nat) (M : zM) (Φ : Int → zM → Prop) : Prop :=
  zwh (fun K s => jP_longestRow_L4 c1 K Φ (s.1) (s.2.1) (s.2.2)) (0, 0, M)
def jB_longest (M : zM) (Φ : Int → zM → Prop) : Prop :=
  
    jP_read 0 M (fun M1 => 
      jP_longestRow 0 M1 (fun r2 M3 => Φ r2 M3))
def jC_widthOfBars_L4 (b : Nat) (K4 : (Int × Int) → Prop) (Φ : Int → Prop) (M : zM) (x1 x2 : Int) : Prop :=
  
    ((M b 0) ≤ x2 → Φ x1) ∧
    (¬ ((M b 0) ≤ x2) → 0 ≤ x2 ∧ x2 < 30 ∧ 
      jC_endOf b x2 M (fun r2 => 
        jC_widthBetween b (M (b + 3) x2) r2 M (fun r4 => i32 (x1 + r4) ∧ ∀ v1_7 : Int, v1_7 = (x1 + r4) → 
          i32 (x2 + 1) ∧ ∀ v2_8 : Int, v2_8 = x2 + 1 → K4 (v1_7, v2_8))))
def jC_widthOfBars (b : Nat) (M : zM) (Φ : Int → Prop) : Prop :=
  zwh (fun K s => jC_widthOfBars_L4 b K Φ M (s.1) (s.2)) (0, 0)
def jB_share (M : zM) (Φ : UInt64 → Prop) : Prop :=
  
    jC_greatestEnd 0 M (fun r1 => 
      jC_place 0 r1 M (fun r3 => 
        jC_lanesWithBars 0 M (fun r5 => i32 (r3 * r5) ∧ ∀ v1_8 : Int, v1_8 = (r3 * r5) → 
          
          (¬ v1_8 = 0 → 
            jC_widthOfBars 0 M (fun r9 => vf_n64 (FP.ddiv (FP.i2d (Int32.ofInt r9)) (FP.i2d (Int32.ofInt v1_8))) ∧ Φ (FP.ddiv (FP.i2d (Int32.ofInt r9)) (FP.i2d (Int32.ofInt v1_8))))) ∧
          (v1_8 = 0 → Φ 0))))
def jB_ifSlipped (a1 a2 : Int) (M : zM) (Φ : Int → zM → Prop) : Prop :=
  
    jC_slotOf 0 a1 M (fun r1 => 
      (0 ≤ r1 → 
        (a2 < 1 → Φ (-2) M) ∧
        (¬ (a2 < 1) → 
          (a2 ≤ 30 → 
            jP_read 0 M (fun M3 => 
              jP_slipFrom 0 r1 a2 M3 (fun r4 M5 => Φ r4 M5))) ∧
          (¬ (a2 ≤ 30) → Φ (-2) M))) ∧
      (¬ (0 ≤ r1) → Φ (-1) M))
def jS_isBetter_J45 (c1 : Nat) (Φ : Int → zM → Prop) (x3 : Int) (M : zM) : Prop :=
  ∀ M4 : zM, M4 = zup M 87 2 (M 82 1) → 
    ∀ M5 : zM, M5 = zup M4 87 3 x3 → 
    Φ 1 M5
def jS_isBetter (c1 : Nat) (M : zM) (Φ : Int → zM → Prop) : Prop :=
  
    jD_draw c1 M (fun M1 => 
      ((M1 82 1) ≤ (M1 87 2) → 
        jD_pointsInAll c1 M1 (fun r2 => 
          (¬ (M1 82 1) = (M1 87 2) → jS_isBetter_J45 c1 Φ r2 M1) ∧
          ((M1 82 1) = (M1 87 2) → 
            (r2 < (M1 87 3) → jS_isBetter_J45 c1 Φ r2 M1) ∧
            (¬ (r2 < (M1 87 3)) → Φ 0 M1)))) ∧
      (¬ ((M1 82 1) ≤ (M1 87 2)) → Φ 0 M1))
def jS_find_J99 (c1 : Nat) (K27 : (Int × Int × zM) → Prop) (K40 : (Int × Int × zM) → Prop) (Φ : Int → zM → Prop) (x3 x4 x5 : Int) (M : zM) : Prop :=
  
    jC_exchangeLanes c1 x4 x5 M (fun M15 => i32 (x5 + 1) ∧ ∀ v5_16 : Int, v5_16 = x5 + 1 → K40 (x3, v5_16, M15))
def jS_find_J68 (c1 : Nat) (K27 : (Int × Int × zM) → Prop) (K40 : (Int × Int × zM) → Prop) (Φ : Int → zM → Prop) (x3 x4 x5 : Int) (M : zM) : Prop :=
  
    jC_exchangeLanes c1 x4 x5 M (fun M12 => 
      jS_isBetter c1 M12 (fun r13 M14 => 
        (r13 = 0 → jS_find_J99 c1 K27 K40 Φ x3 x4 x5 M14) ∧
        (¬ (r13 = 0) → ∀ M17 : zM, M17 = zup M14 87 0 x4 → 
          ∀ M18 : zM, M18 = zup M17 87 1 x5 → 
          jS_find_J99 c1 K27 K40 Φ 1 x4 x5 M18)))
def jS_find_L40 (c1 : Nat) (K27 : (Int × Int × zM) → Prop) (K40 : (Int × Int × zM) → Prop) (Φ : Int → zM → Prop) (x4 : Int) (x3 x5 : Int) (M : zM) : Prop :=
  
    (12 ≤ x5 → i32 (x4 + 1) ∧ ∀ v4_9 : Int, v4_9 = x4 + 1 → K27 (x3, v4_9, M)) ∧
    (¬ (12 ≤ x5) → 
      jC_hasBars c1 x4 M (fun r10 => 
        (¬ r10 = 0 → jS_find_J68 c1 K27 K40 Φ x3 x4 x5 M) ∧
        (r10 = 0 → 
          jC_hasBars c1 x5 M (fun r20 => 
            (¬ r20 = 0 → jS_find_J68 c1 K27 K40 Φ x3 x4 x5 M) ∧
            (r20 = 0 → i32 (x5 + 1) ∧ ∀ v5_22 : Int, v5_22 = x5 + 1 → K40 (x3, v5_22, M))))))
def jS_find_L27 (c1 : Nat) (K27 : (Int × Int × zM) → Prop) (Φ : Int → zM → Prop) (x3 x4 : Int) (M : zM) : Prop :=
  
    (12 ≤ x4 → (x3 = 0 ∨ x3 = 1) ∧ Φ x3 M) ∧
    (¬ (12 ≤ x4) → i32 (x4 + 1) ∧ ∀ v5_8 : Int, v5_8 = (x4 + 1) → 
      zwh (fun K s => jS_find_L40 c1 K27 K Φ x4 (s.1) (s.2.1) (s.2.2)) (x3, v5_8, M))
def jS_find (c1 : Nat) (M : zM) (Φ : Int → zM → Prop) : Prop :=
  
    jD_draw c1 M (fun M1 => ∀ M2 : zM, M2 = zup M1 87 2 (M1 82 1) → 
      
      jD_pointsInAll c1 M2 (fun r3 => ∀ M5 : zM, M5 = zup M2 87 3 r3 → 
        zwh (fun K s => jS_find_L27 c1 K Φ (s.1) (s.2.1) (s.2.2)) (0, 0, M5)))
def jB_bestSwap (a1 : Int) (M : zM) (Φ : Int → zM → Prop) : Prop :=
  
    (a1 < 0 → Φ (-2) M) ∧
    (¬ (a1 < 0) → 
      (a1 ≤ 3 → 
        jC_copyFrom 10 0 M (fun M1 => 
          jS_find 10 M1 (fun r2 M3 => 
            (¬ r2 = 0 → 
              (a1 = 0 → Φ (M3 87 0) M3) ∧ (¬ (a1 = 0) → 
              (a1 = 1 → Φ (M3 87 1) M3) ∧ (¬ (a1 = 1) → 
              (a1 = 2 → Φ (M3 87 2) M3) ∧ (¬ (a1 = 2) → Φ (M3 87 3) M3)))) ∧
            (r2 = 0 → Φ (-5) M3)))) ∧
      (¬ (a1 ≤ 3) → Φ (-2) M))
def jB_bestLane_L43 (a1 : Int) (K43 : (Int × Int × Int × zM) → Prop) (Φ : Int → zM → Prop) (x2 : Int) (x3 x4 x5 : Int) (M : zM) : Prop :=
  
    (12 ≤ x5 → Φ x3 M) ∧
    (¬ (12 ≤ x5) → 0 ≤ x2 ∧ x2 < 30 ∧ 0 ≤ x2 ∧ x2 < 30 ∧ 
      jC_hasRoom 0 x5 (M 3 x2) (M 4 x2) x2 M (fun r8 => 
        (r8 = 0 → i32 (x5 + 1) ∧ ∀ v5_10 : Int, v5_10 = x5 + 1 → K43 (x3, x4, v5_10, M)) ∧
        (¬ (r8 = 0) → 0 ≤ x2 ∧ x2 < 30 ∧ ∀ M12 : zM, M12 = zup M 12 x2 x5 → 
          
          jD_draw 10 M12 (fun M13 => 
            (x4 ≤ (M13 82 1) → i32 (x5 + 1) ∧ ∀ v5_14 : Int, v5_14 = x5 + 1 → K43 (x3, x4, v5_14, M13)) ∧
            (¬ (x4 ≤ (M13 82 1)) → ∀ v4_15 : Int, v4_15 = (M13 82 1) → 
              i32 (x5 + 1) ∧ ∀ v5_16 : Int, v5_16 = x5 + 1 → K43 (x5, v4_15, v5_16, M13))))))
def jB_bestLane (a1 : Int) (M : zM) (Φ : Int → zM → Prop) : Prop :=
  
    jC_slotOf 0 a1 M (fun r1 => 
      (0 ≤ r1 → 
        jC_copyFrom 10 0 M (fun M3 => 0 ≤ r1 ∧ r1 < 30 ∧ ∀ v3_5 : Int, v3_5 = (M3 2 r1) → 
          zwh (fun K s => jB_bestLane_L43 a1 K Φ r1 (s.1) (s.2.1) (s.2.2.1) (s.2.2.2)) (v3_5, 41, 0, M3))) ∧
      (¬ (0 ≤ r1) → Φ (-1) M))
def jM_in (a1 a2 a3 : Int) (M : zM) (Φ : Int → Prop) : Prop :=
  
    (a1 < a2 → Φ 0) ∧
    (¬ (a1 < a2) → 
      (a3 < a1 → Φ 0) ∧
      (¬ (a3 < a1) → Φ 1))
def jM_least (a1 a2 : Int) (M : zM) (Φ : Int → Prop) : Prop :=
  
    (a2 ≤ a1 → Φ a2) ∧
    (¬ (a2 ≤ a1) → Φ a1)
def jM_most (a1 a2 : Int) (M : zM) (Φ : Int → Prop) : Prop :=
  
    (a1 ≤ a2 → Φ a2) ∧
    (¬ (a1 ≤ a2) → Φ a1)
def jM_putAside_L2 (K2 : (Int × zM) → Prop) (Φ : zM → Prop) (x1 : Int) (M : zM) : Prop :=
  
    (447 ≤ x1 → Φ M) ∧
    (¬ (447 ≤ x1) → 0 ≤ x1 ∧ x1 < 447 ∧ 0 ≤ x1 ∧ x1 < 447 ∧ ∀ M3 : zM, M3 = zup M 2 x1 (M 1 x1) → 
      i32 (x1 + 1) ∧ ∀ v1_4 : Int, v1_4 = x1 + 1 → K2 (v1_4, M3))
def jM_putAside (M : zM) (Φ : zM → Prop) : Prop :=
  zwh (fun K s => jM_putAside_L2 K Φ (s.1) (s.2)) (0, M)
def jM_putBack_L2 (K2 : (Int × zM) → Prop) (Φ : zM → Prop) (x1 : Int) (M : zM) : Prop :=
  
    (447 ≤ x1 → Φ M) ∧
    (¬ (447 ≤ x1) → 0 ≤ x1 ∧ x1 < 447 ∧ 0 ≤ x1 ∧ x1 < 447 ∧ ∀ M3 : zM, M3 = zup M 1 x1 (M 2 x1) → 
      i32 (x1 + 1) ∧ ∀ v1_4 : Int, v1_4 = x1 + 1 → K2 (v1_4, M3))
def jM_putBack (M : zM) (Φ : zM → Prop) : Prop :=
  zwh (fun K s => jM_putBack_L2 K Φ (s.1) (s.2)) (0, M)
def jM_act_L61 (a1 : Int) (K61 : (Int × zM) → Prop) (Φ : Int → zM → Prop) (x2 : Int) (M : zM) : Prop :=
  
    (447 ≤ x2 → i32 ((M 0 3) + 1) ∧ ∀ M2 : zM, M2 = zup M 0 3 ((M 0 3) + 1) → 
      Φ a1 M2) ∧
    (¬ (447 ≤ x2) → i32 (447 * (M 0 3)) ∧ i32 ((447 * (M 0 3)) + x2) ∧ 0 ≤ x2 ∧ x2 < 447 ∧ 0 ≤ ((447 * (M 0 3)) + x2) ∧ ((447 * (M 0 3)) + x2) < 1788 ∧ ∀ M7 : zM, M7 = zup M 3 ((447 * (M 0 3)) + x2) (M 2 x2) → 
      i32 (x2 + 1) ∧ ∀ v2_8 : Int, v2_8 = x2 + 1 → K61 (v2_8, M7))
def jM_act_J59 (a1 : Int) (Φ : Int → zM → Prop) (M : zM) : Prop :=
  zwh (fun K s => jM_act_L61 a1 K Φ (s.1) (s.2)) (0, M)
def jM_act_L20 (a1 : Int) (K20 : (Int × zM) → Prop) (Φ : Int → zM → Prop) (x2 : Int) (M : zM) : Prop :=
  
    (1341 ≤ x2 → i32 ((M 0 3) - 1) ∧ ∀ M11 : zM, M11 = zup M 0 3 ((M 0 3) - 1) → 
      jM_act_J59 a1 Φ M11) ∧
    (¬ (1341 ≤ x2) → i32 (447 + x2) ∧ 0 ≤ (447 + x2) ∧ (447 + x2) < 1788 ∧ 0 ≤ x2 ∧ x2 < 1788 ∧ ∀ M15 : zM, M15 = zup M 3 x2 (M 3 (447 + x2)) → 
      i32 (x2 + 1) ∧ ∀ v2_16 : Int, v2_16 = x2 + 1 → K20 (v2_16, M15))
def jM_act (a1 : Int) (M : zM) (Φ : Int → zM → Prop) : Prop :=
  
    (0 ≤ a1 → 
      (¬ (M 0 3) = 4 → jM_act_J59 a1 Φ M) ∧
      ((M 0 3) = 4 → zwh (fun K s => jM_act_L20 a1 K Φ (s.1) (s.2)) (0, M))) ∧
    (¬ (0 ≤ a1) → 
      jM_putBack M (fun M19 => Φ a1 M19))
def jM_of (a1 a2 : Int) (M : zM) (Φ : Int → Prop) : Prop :=
  i32 (4 * a1) ∧ i32 (1 + (4 * a1)) ∧ i32 ((1 + (4 * a1)) + a2) ∧ 0 ≤ ((1 + (4 * a1)) + a2) ∧ ((1 + (4 * a1)) + a2) < 447 ∧ Φ (M 1 ((1 + (4 * a1)) + a2))
def jM_end (a1 : Int) (M : zM) (Φ : Int → Prop) : Prop :=
  
    jM_of a1 2 M (fun r1 => 
      jM_of a1 3 M (fun r3 => i32 (r1 + r3) ∧ Φ (r1 + r3)))
def jM_find_L2 (a1 : Int) (K2 : Int → Prop) (Φ : Int → Prop) (M : zM) (x2 : Int) : Prop :=
  
    ((M 1 0) ≤ x2 → Φ (-5)) ∧
    (¬ ((M 1 0) ≤ x2) → 
      jM_of x2 0 M (fun r1 => 
        (¬ r1 = a1 → i32 (x2 + 1) ∧ ∀ v2_3 : Int, v2_3 = x2 + 1 → K2 v2_3) ∧
        (r1 = a1 → Φ x2)))
def jM_find (a1 : Int) (M : zM) (Φ : Int → Prop) : Prop :=
  zwh (fun K s => jM_find_L2 a1 K Φ M (s)) 0
def jM_findArrow_L2 (a1 : Int) (K2 : Int → Prop) (Φ : Int → Prop) (M : zM) (x2 : Int) : Prop :=
  
    ((M 1 121) ≤ x2 → Φ (-5)) ∧
    (¬ ((M 1 121) ≤ x2) → i32 (3 * x2) ∧ i32 (122 + (3 * x2)) ∧ 0 ≤ (122 + (3 * x2)) ∧ (122 + (3 * x2)) < 447 ∧ 
      (¬ (M 1 (122 + (3 * x2))) = a1 → i32 (x2 + 1) ∧ ∀ v2_4 : Int, v2_4 = x2 + 1 → K2 v2_4) ∧
      ((M 1 (122 + (3 * x2))) = a1 → Φ x2))
def jM_findArrow (a1 : Int) (M : zM) (Φ : Int → Prop) : Prop :=
  zwh (fun K s => jM_findArrow_L2 a1 K Φ M (s)) 0
def jM_from (a1 : Int) (M : zM) (Φ : Int → Prop) : Prop :=
  i32 (3 * a1) ∧ i32 (122 + (3 * a1)) ∧ i32 ((122 + (3 * a1)) + 1) ∧ 0 ≤ ((122 + (3 * a1)) + 1) ∧ ((122 + (3 * a1)) + 1) < 447 ∧ 
    jM_find (M 1 ((122 + (3 * a1)) + 1)) M (fun r5 => Φ r5)
def jM_to (a1 : Int) (M : zM) (Φ : Int → Prop) : Prop :=
  i32 (3 * a1) ∧ i32 (122 + (3 * a1)) ∧ i32 ((122 + (3 * a1)) + 2) ∧ 0 ≤ ((122 + (3 * a1)) + 2) ∧ ((122 + (3 * a1)) + 2) < 447 ∧ 
    jM_find (M 1 ((122 + (3 * a1)) + 2)) M (fun r5 => Φ r5)
def jM_within_L3 (a1 a2 a3 a4 : Int) (K3 : Int → Prop) (Φ : Int → Prop) (M : zM) (x5 : Int) : Prop :=
  
    ((M 1 0) ≤ x5 → Φ (-5)) ∧
    (¬ ((M 1 0) ≤ x5) → 
      (x5 = a4 → i32 (x5 + 1) ∧ ∀ v5_1 : Int, v5_1 = x5 + 1 → K3 v5_1) ∧
      (¬ (x5 = a4) → 
        (a3 < a2 → i32 (x5 + 1) ∧ ∀ v5_2 : Int, v5_2 = x5 + 1 → K3 v5_2) ∧
        (¬ (a3 < a2) → 
          jM_of x5 1 M (fun r3 => 
            (¬ r3 = a1 → i32 (x5 + 1) ∧ ∀ v5_5 : Int, v5_5 = x5 + 1 → K3 v5_5) ∧
            (r3 = a1 → 
              jM_of x5 2 M (fun r6 => 
                (a3 < r6 → i32 (x5 + 1) ∧ ∀ v5_8 : Int, v5_8 = x5 + 1 → K3 v5_8) ∧
                (¬ (a3 < r6) → 
                  jM_end x5 M (fun r9 => 
                    (r9 ≤ a2 → i32 (x5 + 1) ∧ ∀ v5_11 : Int, v5_11 = x5 + 1 → K3 v5_11) ∧
                    (¬ (r9 ≤ a2) → Φ x5)))))))))
def jM_within (a1 a2 a3 a4 : Int) (M : zM) (Φ : Int → Prop) : Prop :=
  zwh (fun K s => jM_within_L3 a1 a2 a3 a4 K Φ M (s)) 0
def jM_greatestEnd_L4 (K4 : (Int × Int) → Prop) (Φ : Int → Prop) (M : zM) (x1 x2 : Int) : Prop :=
  
    ((M 1 0) ≤ x2 → Φ x1) ∧
    (¬ ((M 1 0) ≤ x2) → 
      jM_end x2 M (fun r1 => 
        jM_most x1 r1 M (fun r3 => i32 (x2 + 1) ∧ ∀ v2_5 : Int, v2_5 = x2 + 1 → K4 (r3, v2_5))))
def jM_greatestEnd (M : zM) (Φ : Int → Prop) : Prop :=
  zwh (fun K s => jM_greatestEnd_L4 K Φ M (s.1) (s.2)) (0, 0)
def jM_hasBars (a1 : Int) (M : zM) (Φ : Int → Prop) : Prop :=
  
    jM_within a1 0 200 (-5) M (fun r1 => 
      (r1 = (-5) → Φ 0) ∧
      (¬ (r1 = (-5)) → Φ 1))
def jM_lanes_L4 (K4 : (Int × Int) → Prop) (Φ : Int → Prop) (M : zM) (x1 x2 : Int) : Prop :=
  
    (12 ≤ x2 → Φ x1) ∧
    (¬ (12 ≤ x2) → 
      jM_hasBars x2 M (fun r1 => 
        (r1 = 0 → i32 (x1 + 0) ∧ ∀ v1_4 : Int, v1_4 = (x1 + 0) → 
          i32 (x2 + 1) ∧ ∀ v2_5 : Int, v2_5 = x2 + 1 → K4 (v1_4, v2_5)) ∧
        (¬ (r1 = 0) → i32 (x1 + 1) ∧ ∀ v1_7 : Int, v1_7 = (x1 + 1) → 
          i32 (x2 + 1) ∧ ∀ v2_8 : Int, v2_8 = x2 + 1 → K4 (v1_7, v2_8))))
def jM_lanes (M : zM) (Φ : Int → Prop) : Prop :=
  zwh (fun K s => jM_lanes_L4 K Φ M (s.1) (s.2)) (0, 0)
def jM_lateBy (a1 : Int) (M : zM) (Φ : Int → Prop) : Prop :=
  
    jM_from a1 M (fun r1 => 
      jM_end r1 M (fun r3 => 
        jM_to a1 M (fun r5 => 
          jM_of r5 2 M (fun r7 => i32 (r3 - r7) ∧ 
            jM_most (r3 - r7) 0 M (fun r10 => Φ r10)))))
def jM_isBetween (a1 a2 a3 : Int) (M : zM) (Φ : Int → Prop) : Prop :=
  
    jM_least a2 a3 M (fun r1 => 
      (a1 ≤ r1 → Φ 0) ∧
      (¬ (a1 ≤ r1) → 
        jM_most a2 a3 M (fun r3 => 
          (r3 ≤ a1 → Φ 0) ∧
          (¬ (r3 ≤ a1) → Φ 1))))
def jM_reasonFor_L94 (a1 a2 : Int) (K94 : Int → Prop) (Φ : Int → Prop) (x3 x4 : Int) (M : zM) (x5 : Int) : Prop :=
  
    ((M 1 0) ≤ x5 → Φ 0) ∧
    (¬ ((M 1 0) ≤ x5) → 
      jM_of x5 1 M (fun r25 => 
        jM_of x3 1 M (fun r27 => 
          jM_of x4 1 M (fun r29 => 
            jM_isBetween r25 r27 r29 M (fun r31 => 
              (r31 = 0 → i32 (x5 + 1) ∧ ∀ v5_33 : Int, v5_33 = x5 + 1 → K94 v5_33) ∧
              (¬ (r31 = 0) → 
                jM_of x5 2 M (fun r34 => i32 (a2 - 1) ∧ 
                  ((a2 - 1) < r34 → i32 (x5 + 1) ∧ ∀ v5_37 : Int, v5_37 = x5 + 1 → K94 v5_37) ∧
                  (¬ ((a2 - 1) < r34) → 
                    jM_end x5 M (fun r38 => 
                      (r38 ≤ a2 → i32 (x5 + 1) ∧ ∀ v5_40 : Int, v5_40 = x5 + 1 → K94 v5_40) ∧
                      (¬ (r38 ≤ a2) → Φ 4))))))))))
def jM_reasonFor (a1 a2 : Int) (M : zM) (Φ : Int → Prop) : Prop :=
  
    jM_from a1 M (fun r1 => 
      jM_to a1 M (fun r3 => 
        jM_end r1 M (fun r5 => 
          jM_of r3 2 M (fun r7 => 
            jM_in a2 r5 r7 M (fun r9 => 
              (¬ r9 = 0 → 
                jM_of r1 1 M (fun r11 => 
                  jM_end r1 M (fun r13 => i32 (a2 - 1) ∧ 
                    jM_within r11 r13 (a2 - 1) (-5) M (fun r16 => 
                      (r16 = (-5) → 
                        jM_of r3 1 M (fun r18 => 
                          jM_of r3 2 M (fun r20 => i32 (r20 - 1) ∧ 
                            jM_within r18 a2 (r20 - 1) (-5) M (fun r23 => 
                              (r23 = (-5) → zwh (fun K s => jM_reasonFor_L94 a1 a2 K Φ r1 r3 M (s)) 0) ∧
                              (¬ (r23 = (-5)) → Φ 3))))) ∧
                      (¬ (r16 = (-5)) → Φ 2))))) ∧
              (r9 = 0 → Φ 1))))))
def jM_freeBends_L12 (a1 : Int) (K12 : (Int × Int) → Prop) (Φ : Int → Prop) (M : zM) (x2 x3 : Int) : Prop :=
  
    jM_to a1 M (fun r5 => 
      jM_of r5 2 M (fun r7 => 
        (r7 < x3 → Φ x2) ∧
        (¬ (r7 < x3) → 
          jM_reasonFor a1 x3 M (fun r9 => 
            (¬ r9 = 0 → i32 (x2 + 0) ∧ ∀ v2_12 : Int, v2_12 = (x2 + 0) → 
              i32 (x3 + 1) ∧ ∀ v3_13 : Int, v3_13 = x3 + 1 → K12 (v2_12, v3_13)) ∧
            (r9 = 0 → i32 (x2 + 1) ∧ ∀ v2_15 : Int, v2_15 = (x2 + 1) → 
              i32 (x3 + 1) ∧ ∀ v3_16 : Int, v3_16 = x3 + 1 → K12 (v2_15, v3_16))))))
def jM_freeBends (a1 : Int) (M : zM) (Φ : Int → Prop) : Prop :=
  
    jM_from a1 M (fun r1 => 
      jM_end r1 M (fun r3 => zwh (fun K s => jM_freeBends_L12 a1 K Φ M (s.1) (s.2)) (0, r3)))
def jM_worth (a1 a2 : Int) (M : zM) (Φ : Int → Prop) : Prop :=
  
    jM_from a1 M (fun r1 => 
      jM_end r1 M (fun r3 => i32 (a2 - r3) ∧ ∀ v3_6 : Int, v3_6 = (a2 - r3) → 
        
        jM_to a1 M (fun r7 => 
          jM_of r7 2 M (fun r9 => i32 (r9 - a2) ∧ ∀ v4_12 : Int, v4_12 = (r9 - a2) → 
            
            (¬ (M 1 442) = 0 → 
              (¬ (M 1 442) = 1 → 
                (v4_12 ≤ v3_6 → i32 (v3_6 - v4_12) ∧ Φ (v3_6 - v4_12)) ∧
                (¬ (v4_12 ≤ v3_6) → i32 (v4_12 - v3_6) ∧ Φ (v4_12 - v3_6))) ∧
              ((M 1 442) = 1 → Φ v4_12)) ∧
            ((M 1 442) = 0 → Φ v3_6)))))
def jM_bend_J68 (a1 : Int) (K25 : (Int × Int) → Prop) (Φ : Int → Prop) (x2 x3 x4 s0 : Int) (M : zM) : Prop :=
  
    (s0 = 0 → i32 (x4 + 1) ∧ ∀ v4_11 : Int, v4_11 = x4 + 1 → K25 (x2, v4_11)) ∧
    (¬ (s0 = 0) → i32 (x4 + 1) ∧ ∀ v4_12 : Int, v4_12 = x4 + 1 → K25 (x4, v4_12))
def jM_bend_J67 (a1 : Int) (K25 : (Int × Int) → Prop) (Φ : Int → Prop) (x2 x3 x4 : Int) (M : zM) : Prop :=
  jM_bend_J68 a1 K25 Φ x2 x3 x4 0 M
def jM_bend_J63 (a1 : Int) (K25 : (Int × Int) → Prop) (Φ : Int → Prop) (x2 x3 x4 : Int) (M : zM) : Prop :=
  jM_bend_J68 a1 K25 Φ x2 x3 x4 1 M
def jM_bend_L25 (a1 : Int) (K25 : (Int × Int) → Prop) (Φ : Int → Prop) (x3 : Int) (M : zM) (x2 x4 : Int) : Prop :=
  
    (x3 < x4 → Φ x2) ∧
    (¬ (x3 < x4) → 
      jM_reasonFor a1 x4 M (fun r9 => 
        (¬ r9 = 0 → jM_bend_J67 a1 K25 Φ x2 x3 x4 M) ∧
        (r9 = 0 → 
          (x2 = (-5) → jM_bend_J63 a1 K25 Φ x2 x3 x4 M) ∧
          (¬ (x2 = (-5)) → 
            jM_worth a1 x4 M (fun r14 => 
              jM_worth a1 x2 M (fun r16 => 
                (r16 ≤ r14 → jM_bend_J67 a1 K25 Φ x2 x3 x4 M) ∧
                (¬ (r16 ≤ r14) → jM_bend_J63 a1 K25 Φ x2 x3 x4 M)))))))
def jM_bend (a1 : Int) (M : zM) (Φ : Int → Prop) : Prop :=
  
    jM_to a1 M (fun r1 => 
      jM_of r1 2 M (fun r3 => 
        jM_from a1 M (fun r5 => 
          jM_end r5 M (fun r7 => zwh (fun K s => jM_bend_L25 a1 K Φ r3 M (s.1) (s.2)) ((-5), r7)))))
def jM_layBends_L2 (K2 : (Int × zM) → Prop) (Φ : zM → Prop) (x1 : Int) (M : zM) : Prop :=
  
    ((M 1 121) ≤ x1 → Φ M) ∧
    (¬ ((M 1 121) ≤ x1) → 
      jM_bend x1 M (fun r1 => 0 ≤ x1 ∧ x1 < 40 ∧ ∀ M4 : zM, M4 = zup M 6 x1 r1 → 
        i32 (x1 + 1) ∧ ∀ v1_5 : Int, v1_5 = x1 + 1 → K2 (v1_5, M4)))
def jM_layBends (M : zM) (Φ : zM → Prop) : Prop :=
  zwh (fun K s => jM_layBends_L2 K Φ (s.1) (s.2)) (0, M)
def jM_goesAlong_J115 (a1 a2 a3 : Int) (Φ : Int → Prop) (x9 x10 : Int) (M : zM) : Prop :=
  
    (a3 < x9 → Φ 0) ∧
    (¬ (a3 < x9) → i32 (a3 + 1) ∧ 
      (x10 < (a3 + 1) → Φ 0) ∧
      (¬ (x10 < (a3 + 1)) → Φ 1))
def jM_goesAlong_J103 (a1 a2 a3 : Int) (Φ : Int → Prop) (x7 x8 x9 s0 : Int) (M : zM) : Prop :=
  
    (¬ x7 = 0 → jM_goesAlong_J115 a1 a2 a3 Φ x9 s0 M) ∧
    (x7 = 0 → 
      (x8 = 0 → Φ 0) ∧
      (¬ (x8 = 0) → jM_goesAlong_J115 a1 a2 a3 Φ x9 s0 M))
def jM_goesAlong_J87 (a1 a2 a3 : Int) (Φ : Int → Prop) (x5 x6 x7 x8 s0 : Int) (M : zM) : Prop :=
  
    (x8 = 0 → i32 (x6 - 1) ∧ jM_goesAlong_J103 a1 a2 a3 Φ x7 x8 s0 (x6 - 1) M) ∧
    (¬ (x8 = 0) → jM_goesAlong_J103 a1 a2 a3 Φ x7 x8 s0 x5 M)
def jM_goesAlong_J73 (a1 a2 a3 : Int) (Φ : Int → Prop) (x4 x5 x6 x7 s0 : Int) (M : zM) : Prop :=
  
    (x7 = 0 → jM_goesAlong_J87 a1 a2 a3 Φ x5 x6 x7 s0 x6 M) ∧
    (¬ (x7 = 0) → jM_goesAlong_J87 a1 a2 a3 Φ x5 x6 x7 s0 x4 M)
def jM_goesAlong_J52 (a1 a2 a3 : Int) (Φ : Int → Prop) (x4 x5 x6 s0 : Int) (M : zM) : Prop :=
  
    jM_to a1 M (fun r17 => 
      jM_of r17 1 M (fun r19 => 
        (¬ r19 = a2 → jM_goesAlong_J73 a1 a2 a3 Φ x4 x5 x6 s0 0 M) ∧
        (r19 = a2 → jM_goesAlong_J73 a1 a2 a3 Φ x4 x5 x6 s0 1 M)))
def jM_goesAlong (a1 a2 a3 : Int) (M : zM) (Φ : Int → Prop) : Prop :=
  
    jM_from a1 M (fun r1 => 
      jM_end r1 M (fun r3 => 
        jM_to a1 M (fun r5 => 
          jM_of r5 2 M (fun r7 => i32 (r7 - 1) ∧ ∀ v5_10 : Int, v5_10 = (r7 - 1) → 
            0 ≤ a1 ∧ a1 < 40 ∧ ∀ v6_12 : Int, v6_12 = (M 6 a1) → 
            
            jM_from a1 M (fun r13 => 
              jM_of r13 1 M (fun r15 => 
                (¬ r15 = a2 → jM_goesAlong_J52 a1 a2 a3 Φ r3 v5_10 v6_12 0 M) ∧
                (r15 = a2 → jM_goesAlong_J52 a1 a2 a3 Φ r3 v5_10 v6_12 1 M)))))))
def jM_points_J91 (a1 a2 : Int) (K5 : (Int × Int) → Prop) (Φ : Int → Prop) (x3 x4 s0 : Int) (M : zM) : Prop :=
  
    (s0 = 0 → i32 (x3 + 0) ∧ ∀ v3_14 : Int, v3_14 = (x3 + 0) → 
      i32 (x4 + 1) ∧ ∀ v4_15 : Int, v4_15 = x4 + 1 → K5 (v3_14, v4_15)) ∧
    (¬ (s0 = 0) → i32 (x3 + 1) ∧ ∀ v3_17 : Int, v3_17 = (x3 + 1) → 
      i32 (x4 + 1) ∧ ∀ v4_18 : Int, v4_18 = x4 + 1 → K5 (v3_17, v4_18))
def jM_points_J90 (a1 a2 : Int) (K5 : (Int × Int) → Prop) (Φ : Int → Prop) (x3 x4 : Int) (M : zM) : Prop :=
  jM_points_J91 a1 a2 K5 Φ x3 x4 0 M
def jM_points_L5 (a1 a2 : Int) (K5 : (Int × Int) → Prop) (Φ : Int → Prop) (M : zM) (x3 x4 : Int) : Prop :=
  
    (12 ≤ x4 → Φ x3) ∧
    (¬ (12 ≤ x4) → 
      (a1 = a2 → Φ x3) ∧
      (¬ (a1 = a2) → 0 ≤ a1 ∧ a1 < 40 ∧ 
        ((M 6 a1) = (-5) → Φ x3) ∧
        (¬ ((M 6 a1) = (-5)) → 0 ≤ a2 ∧ a2 < 40 ∧ 
          ((M 6 a2) = (-5) → Φ x3) ∧
          (¬ ((M 6 a2) = (-5)) → 
            jM_from a1 M (fun r3 => 
              jM_of r3 1 M (fun r5 => 
                jM_to a1 M (fun r7 => 
                  jM_of r7 1 M (fun r9 => 
                    jM_isBetween x4 r5 r9 M (fun r11 => 
                      (r11 = 0 → jM_points_J90 a1 a2 K5 Φ x3 x4 M) ∧
                      (¬ (r11 = 0) → 0 ≤ a1 ∧ a1 < 40 ∧ i32 ((M 6 a1) - 1) ∧ 
                        jM_goesAlong a2 x4 ((M 6 a1) - 1) M (fun r22 => 
                          (r22 = 0 → jM_points_J90 a1 a2 K5 Φ x3 x4 M) ∧
                          (¬ (r22 = 0) → jM_points_J91 a1 a2 K5 Φ x3 x4 1 M))))))))))))
def jM_points (a1 a2 : Int) (M : zM) (Φ : Int → Prop) : Prop :=
  zwh (fun K s => jM_points_L5 a1 a2 K Φ M (s.1) (s.2)) (0, 0)
def jM_allPoints_L8 (K8 : (Int × Int) → Prop) (Φ : Int → zM → Prop) (M : zM) (x1 x2 : Int) : Prop :=
  i32 ((M 1 121) * (M 1 121)) ∧ 
    (((M 1 121) * (M 1 121)) ≤ x2 → Φ x1 M) ∧
    (¬ (((M 1 121) * (M 1 121)) ≤ x2) → 0 ≤ x2 ∧ 0 < (M 1 121) ∧ 0 ≤ x2 ∧ 0 < (M 1 121) ∧ 
      jM_points (x2 / (M 1 121)) (x2 % (M 1 121)) M (fun r5 => i32 (x1 + r5) ∧ ∀ v1_8 : Int, v1_8 = (x1 + r5) → 
        i32 (x2 + 1) ∧ ∀ v2_9 : Int, v2_9 = x2 + 1 → K8 (v1_8, v2_9)))
def jM_allPoints (M : zM) (Φ : Int → zM → Prop) : Prop :=
  
    jM_layBends M (fun M1 => zwh (fun K s => jM_allPoints_L8 K Φ M1 (s.1) (s.2)) (0, 0))
def jM_pointsOf_L8 (a1 : Int) (K8 : (Int × Int) → Prop) (Φ : Int → zM → Prop) (M : zM) (x2 x3 : Int) : Prop :=
  
    ((M 1 121) ≤ x3 → Φ x2 M) ∧
    (¬ ((M 1 121) ≤ x3) → 
      jM_points a1 x3 M (fun r2 => 
        jM_points x3 a1 M (fun r4 => i32 (r2 + r4) ∧ i32 (x2 + (r2 + r4)) ∧ ∀ v2_8 : Int, v2_8 = (x2 + (r2 + r4)) → 
          i32 (x3 + 1) ∧ ∀ v3_9 : Int, v3_9 = x3 + 1 → K8 (v2_8, v3_9))))
def jM_pointsOf (a1 : Int) (M : zM) (Φ : Int → zM → Prop) : Prop :=
  
    jM_layBends M (fun M1 => zwh (fun K s => jM_pointsOf_L8 a1 K Φ M1 (s.1) (s.2)) (0, 0))
def jM_arrowsThat_J45 (a1 : Int) (K4 : (Int × Int) → Prop) (Φ : Int → Prop) (x3 s0 : Int) (M : zM) : Prop :=
  i32 (s0 + 0) ∧ ∀ v2_4 : Int, v2_4 = (s0 + 0) → 
    i32 (x3 + 1) ∧ ∀ v3_5 : Int, v3_5 = x3 + 1 → K4 (v2_4, v3_5)
def jM_arrowsThat_J41 (a1 : Int) (K4 : (Int × Int) → Prop) (Φ : Int → Prop) (x3 s0 : Int) (M : zM) : Prop :=
  i32 (s0 + 1) ∧ ∀ v2_7 : Int, v2_7 = (s0 + 1) → 
    i32 (x3 + 1) ∧ ∀ v3_8 : Int, v3_8 = x3 + 1 → K4 (v2_7, v3_8)
def jM_arrowsThat_L4 (a1 : Int) (K4 : (Int × Int) → Prop) (Φ : Int → Prop) (M : zM) (x2 x3 : Int) : Prop :=
  
    ((M 1 121) ≤ x3 → Φ x2) ∧
    (¬ ((M 1 121) ≤ x3) → 
      (a1 = 0 → 
        jM_bend x3 M (fun r1 => 
          (¬ r1 = (-5) → jM_arrowsThat_J45 a1 K4 Φ x3 x2 M) ∧
          (r1 = (-5) → jM_arrowsThat_J41 a1 K4 Φ x3 x2 M))) ∧
      (¬ (a1 = 0) → 
        jM_lateBy x3 M (fun r10 => 
          (r10 ≤ 0 → jM_arrowsThat_J45 a1 K4 Φ x3 x2 M) ∧
          (¬ (r10 ≤ 0) → jM_arrowsThat_J41 a1 K4 Φ x3 x2 M))))
def jM_arrowsThat (a1 : Int) (M : zM) (Φ : Int → Prop) : Prop :=
  zwh (fun K s => jM_arrowsThat_L4 a1 K Φ M (s.1) (s.2)) (0, 0)
def jM_notDrawn (M : zM) (Φ : Int → Prop) : Prop :=
  
    jM_arrowsThat 0 M (fun r1 => Φ r1)
def jM_widthOf_L5 (a1 a2 : Int) (K5 : (Int × Int) → Prop) (Φ : Int → Prop) (M : zM) (x3 x4 : Int) : Prop :=
  
    (a2 ≤ x4 → Φ x3) ∧
    (¬ (a2 ≤ x4) → i32 (242 + x4) ∧ 0 ≤ (242 + x4) ∧ (242 + x4) < 447 ∧ i32 (x3 + (M 1 (242 + x4))) ∧ ∀ v3_4 : Int, v3_4 = (x3 + (M 1 (242 + x4))) → 
      i32 (x4 + 1) ∧ ∀ v4_5 : Int, v4_5 = x4 + 1 → K5 (v3_4, v4_5))
def jM_widthOf (a1 a2 : Int) (M : zM) (Φ : Int → Prop) : Prop :=
  zwh (fun K s => jM_widthOf_L5 a1 a2 K Φ M (s.1) (s.2)) (0, a1)
def jM_stripEnd_L9 (a1 : Int) (K9 : Int → Prop) (Φ : Int → Prop) (x2 : Int) (M : zM) (x3 : Int) : Prop :=
  
    (x2 ≤ x3 → Φ x3) ∧
    (¬ (x2 ≤ x3) → i32 (x3 + 1) ∧ 
      jM_widthOf a1 (x3 + 1) M (fun r6 => 
        ((M 1 443) < r6 → Φ x3) ∧
        (¬ ((M 1 443) < r6) → i32 (x3 + 1) ∧ ∀ v3_8 : Int, v3_8 = x3 + 1 → K9 v3_8)))
def jM_stripEnd (a1 : Int) (M : zM) (Φ : Int → Prop) : Prop :=
  
    jM_greatestEnd M (fun r1 => i32 (a1 + 1) ∧ ∀ v3_4 : Int, v3_4 = (a1 + 1) → 
      zwh (fun K s => jM_stripEnd_L9 a1 K Φ r1 M (s)) v3_4)
def jM_stripStart_J29 (a1 : Int) (Φ : Int → Prop) (x2 : Int) (M : zM) : Prop :=
  
    jM_greatestEnd M (fun r1 => 
      (r1 ≤ x2 → Φ (-5)) ∧
      (¬ (r1 ≤ x2) → Φ x2))
def jM_stripStart_L4 (a1 : Int) (K4 : (Int × Int) → Prop) (Φ : Int → Prop) (M : zM) (x2 x3 : Int) : Prop :=
  
    (a1 ≤ x3 → jM_stripStart_J29 a1 Φ x2 M) ∧
    (¬ (a1 ≤ x3) → 
      jM_greatestEnd M (fun r4 => 
        (r4 ≤ x2 → jM_stripStart_J29 a1 Φ x2 M) ∧
        (¬ (r4 ≤ x2) → 
          jM_stripEnd x2 M (fun r6 => i32 (x3 + 1) ∧ ∀ v3_8 : Int, v3_8 = x3 + 1 → K4 (r6, v3_8)))))
def jM_stripStart (a1 : Int) (M : zM) (Φ : Int → Prop) : Prop :=
  zwh (fun K s => jM_stripStart_L4 a1 K Φ M (s.1) (s.2)) (0, 0)
def jM_stripOf_L8 (a1 : Int) (K8 : (Int × Int) → Prop) (Φ : Int → Prop) (M : zM) (x2 x3 : Int) : Prop :=
  
    (a1 < x3 → Φ x2) ∧
    (¬ (a1 < x3) → 
      jM_stripEnd x3 M (fun r3 => i32 (x2 + 1) ∧ ∀ v2_5 : Int, v2_5 = x2 + 1 → K8 (v2_5, r3)))
def jM_stripOf (a1 : Int) (M : zM) (Φ : Int → Prop) : Prop :=
  
    jM_stripEnd 0 M (fun r1 => zwh (fun K s => jM_stripOf_L8 a1 K Φ M (s.1) (s.2)) (0, r1))
def jM_strips (M : zM) (Φ : Int → Prop) : Prop :=
  
    jM_greatestEnd M (fun r1 => 
      (¬ r1 = 0 → 
        jM_greatestEnd M (fun r3 => i32 (r3 - 1) ∧ 
          jM_stripOf (r3 - 1) M (fun r6 => i32 (r6 + 1) ∧ Φ (r6 + 1)))) ∧
      (r1 = 0 → Φ 0))
def jM_layPushes_J135 (K82 : (Int × zM) → Prop) (Φ : zM → Prop) (x2 s1 s2 : Int) (M : zM) : Prop :=
  0 ≤ s1 ∧ s1 < 900 ∧ (s2 = 0 ∨ s2 = 1) ∧ ∀ M13 : zM, M13 = zup M 7 s1 s2 → 
    i32 (x2 + 1) ∧ ∀ v2_14 : Int, v2_14 = x2 + 1 → K82 (v2_14, M13)
def jM_layPushes_J130 (K82 : (Int × zM) → Prop) (Φ : zM → Prop) (x2 s1 : Int) (M : zM) : Prop :=
  jM_layPushes_J135 K82 Φ x2 s1 1 M
def jM_layPushes_L82 (K82 : (Int × zM) → Prop) (Φ : zM → Prop) (x2 : Int) (M : zM) : Prop :=
  
    ((M 1 121) ≤ x2 → Φ M) ∧
    (¬ ((M 1 121) ≤ x2) → 
      jM_from x2 M (fun r3 => i32 (30 * r3) ∧ 
        jM_to x2 M (fun r6 => i32 ((30 * r3) + r6) ∧ ∀ v3_9 : Int, v3_9 = ((30 * r3) + r6) → 
          0 ≤ v3_9 ∧ v3_9 < 900 ∧ 
          (¬ (M 7 v3_9) = 0 → jM_layPushes_J130 K82 Φ x2 v3_9 M) ∧
          ((M 7 v3_9) = 0 → 
            jM_lateBy x2 M (fun r15 => 
              (¬ r15 = 0 → jM_layPushes_J135 K82 Φ x2 v3_9 0 M) ∧
              (r15 = 0 → jM_layPushes_J130 K82 Φ x2 v3_9 M))))))
def jM_layPushes_J73 (K9 : (Int × zM) → Prop) (Φ : zM → Prop) (x1 x2 s1 s2 : Int) (M : zM) : Prop :=
  0 ≤ s1 ∧ s1 < 900 ∧ (s2 = 0 ∨ s2 = 1) ∧ ∀ M32 : zM, M32 = zup M 7 s1 s2 → 
    i32 (x2 + 1) ∧ ∀ v2_33 : Int, v2_33 = x2 + 1 → K9 (v2_33, M32)
def jM_layPushes_J72 (K9 : (Int × zM) → Prop) (Φ : zM → Prop) (x1 x2 s1 : Int) (M : zM) : Prop :=
  jM_layPushes_J73 K9 Φ x1 x2 s1 0 M
def jM_layPushes_L9 (K9 : (Int × zM) → Prop) (Φ : zM → Prop) (x1 : Int) (x2 : Int) (M : zM) : Prop :=
  i32 (x1 * x1) ∧ 
    ((x1 * x1) ≤ x2 → zwh (fun K s => jM_layPushes_L82 K Φ (s.1) (s.2)) (0, M)) ∧
    (¬ ((x1 * x1) ≤ x2) → 0 ≤ x2 ∧ 0 < x1 ∧ ∀ v3_21 : Int, v3_21 = (x2 / x1) → 
      0 ≤ x2 ∧ 0 < x1 ∧ ∀ v4_23 : Int, v4_23 = (x2 % x1) → 
      i32 (30 * v3_21) ∧ i32 ((30 * v3_21) + v4_23) ∧ 
      jM_of v3_21 1 M (fun r26 => 
        jM_of v4_23 1 M (fun r28 => 
          (¬ r26 = r28 → jM_layPushes_J72 K9 Φ x1 x2 ((30 * v3_21) + v4_23) M) ∧
          (r26 = r28 → 
            jM_of v4_23 2 M (fun r34 => 
              jM_of v3_21 2 M (fun r36 => 
                (r34 ≤ r36 → jM_layPushes_J72 K9 Φ x1 x2 ((30 * v3_21) + v4_23) M) ∧
                (¬ (r34 ≤ r36) → jM_layPushes_J73 K9 Φ x1 x2 ((30 * v3_21) + v4_23) 1 M)))))))
def jM_layPushes (M : zM) (Φ : zM → Prop) : Prop :=
  ∀ v1_1 : Int, v1_1 = (M 1 0) → 
    zwh (fun K s => jM_layPushes_L9 K Φ v1_1 (s.1) (s.2)) (0, M)
def jM_slips_J166 (a1 a2 : Int) (K130 : (Int × Int × zM) → Prop) (Φ : Int → zM → Prop) (x3 x6 s0 s1 : Int) (M : zM) : Prop :=
  i32 (s0 + s1) ∧ ∀ v5_17 : Int, v5_17 = (s0 + s1) → 
    
    jM_of x6 2 M (fun r18 => i32 (4 * x6) ∧ i32 (1 + (4 * x6)) ∧ i32 ((1 + (4 * x6)) + 2) ∧ 0 ≤ ((1 + (4 * x6)) + 2) ∧ ((1 + (4 * x6)) + 2) < 447 ∧ i32 (r18 - (M 2 ((1 + (4 * x6)) + 2))) ∧ i32 ((M 1 446) + (r18 - (M 2 ((1 + (4 * x6)) + 2)))) ∧ ∀ M26 : zM, M26 = zup M 1 446 ((M 1 446) + (r18 - (M 2 ((1 + (4 * x6)) + 2)))) → 
      i32 (x6 + 1) ∧ ∀ v6_27 : Int, v6_27 = x6 + 1 → K130 (v5_17, v6_27, M26))
def jM_slips_L130 (a1 a2 : Int) (K130 : (Int × Int × zM) → Prop) (Φ : Int → zM → Prop) (x3 : Int) (x5 x6 : Int) (M : zM) : Prop :=
  
    (x3 ≤ x6 → Φ x5 M) ∧
    (¬ (x3 ≤ x6) → 
      jM_of x6 2 M (fun r10 => i32 (4 * x6) ∧ i32 (1 + (4 * x6)) ∧ i32 ((1 + (4 * x6)) + 2) ∧ 0 ≤ ((1 + (4 * x6)) + 2) ∧ ((1 + (4 * x6)) + 2) < 447 ∧ 
        (¬ r10 = (M 2 ((1 + (4 * x6)) + 2)) → jM_slips_J166 a1 a2 K130 Φ x3 x6 x5 1 M) ∧
        (r10 = (M 2 ((1 + (4 * x6)) + 2)) → jM_slips_J166 a1 a2 K130 Φ x3 x6 x5 0 M)))
def jM_slips_L41 (a1 a2 : Int) (K30 : (Int × zM) → Prop) (K41 : (Int × Int × zM) → Prop) (Φ : Int → zM → Prop) (x3 : Int) (x4 x5 : Int) (M : zM) : Prop :=
  i32 (x3 * x3) ∧ 
    ((x3 * x3) ≤ x5 → K30 (x4, M)) ∧
    (¬ ((x3 * x3) ≤ x5) → 0 ≤ x5 ∧ 0 < x3 ∧ ∀ v6_32 : Int, v6_32 = (x5 % x3) → 
      0 ≤ x5 ∧ 0 < x3 ∧ i32 (30 * (x5 / x3)) ∧ i32 ((30 * (x5 / x3)) + v6_32) ∧ 0 ≤ ((30 * (x5 / x3)) + v6_32) ∧ ((30 * (x5 / x3)) + v6_32) < 900 ∧ 
      ((M 7 ((30 * (x5 / x3)) + v6_32)) = 0 → i32 (x5 + 1) ∧ ∀ v5_37 : Int, v5_37 = x5 + 1 → K41 (x4, v5_37, M)) ∧
      (¬ ((M 7 ((30 * (x5 / x3)) + v6_32)) = 0) → 
        jM_of v6_32 2 M (fun r38 => 0 ≤ x5 ∧ 0 < x3 ∧ 
          jM_end (x5 / x3) M (fun r41 => 
            (r41 ≤ r38 → i32 (x5 + 1) ∧ ∀ v5_43 : Int, v5_43 = x5 + 1 → K41 (x4, v5_43, M)) ∧
            (¬ (r41 ≤ r38) → i32 (4 * v6_32) ∧ i32 (1 + (4 * v6_32)) ∧ i32 ((1 + (4 * v6_32)) + 2) ∧ 0 ≤ x5 ∧ 0 < x3 ∧ 
              jM_end (x5 / x3) M (fun r48 => 0 ≤ ((1 + (4 * v6_32)) + 2) ∧ ((1 + (4 * v6_32)) + 2) < 447 ∧ ∀ M51 : zM, M51 = zup M 1 ((1 + (4 * v6_32)) + 2) r48 → 
                i32 (x5 + 1) ∧ ∀ v5_52 : Int, v5_52 = x5 + 1 → K41 (1, v5_52, M51)))))))
def jM_slips_L30 (a1 a2 : Int) (K30 : (Int × zM) → Prop) (Φ : Int → zM → Prop) (x3 : Int) (x4 : Int) (M : zM) : Prop :=
  
    (x4 = 0 → zwh (fun K s => jM_slips_L130 a1 a2 K Φ x3 (s.1) (s.2.1) (s.2.2)) (0, 0, M)) ∧
    (¬ (x4 = 0) → zwh (fun K s => jM_slips_L41 a1 a2 K30 K Φ x3 (s.1) (s.2.1) (s.2.2)) (0, 0, M))
def jM_slips (a1 a2 : Int) (M : zM) (Φ : Int → zM → Prop) : Prop :=
  
    jM_layPushes M (fun M1 => ∀ v3_2 : Int, v3_2 = (M1 1 0) → 
      i32 (4 * a1) ∧ i32 (1 + (4 * a1)) ∧ i32 ((1 + (4 * a1)) + 2) ∧ 0 ≤ ((1 + (4 * a1)) + 2) ∧ ((1 + (4 * a1)) + 2) < 447 ∧ i32 ((M1 1 ((1 + (4 * a1)) + 2)) + a2) ∧ 0 ≤ ((1 + (4 * a1)) + 2) ∧ ((1 + (4 * a1)) + 2) < 447 ∧ ∀ M9 : zM, M9 = zup M1 1 ((1 + (4 * a1)) + 2) ((M1 1 ((1 + (4 * a1)) + 2)) + a2) → 
      zwh (fun K s => jM_slips_L30 a1 a2 K Φ v3_2 (s.1) (s.2)) (1, M9))
def jM_layLatest_L54 (K45 : (Int × zM) → Prop) (K54 : (Int × Int × zM) → Prop) (Φ : zM → Prop) (x1 : Int) (x3 x4 : Int) (M : zM) : Prop :=
  i32 (x1 * x1) ∧ 
    ((x1 * x1) ≤ x4 → K45 (x3, M)) ∧
    (¬ ((x1 * x1) ≤ x4) → 0 ≤ x4 ∧ 0 < x1 ∧ ∀ v5_7 : Int, v5_7 = (x4 / x1) → 
      0 ≤ x4 ∧ 0 < x1 ∧ 0 ≤ (x4 % x1) ∧ (x4 % x1) < 30 ∧ 
      jM_of v5_7 3 M (fun r10 => i32 ((M 8 (x4 % x1)) - r10) ∧ ∀ v6_13 : Int, v6_13 = ((M 8 (x4 % x1)) - r10) → 
        i32 (30 * v5_7) ∧ 0 ≤ x4 ∧ 0 < x1 ∧ i32 ((30 * v5_7) + (x4 % x1)) ∧ 0 ≤ ((30 * v5_7) + (x4 % x1)) ∧ ((30 * v5_7) + (x4 % x1)) < 900 ∧ 
        ((M 7 ((30 * v5_7) + (x4 % x1))) = 0 → i32 (x4 + 1) ∧ ∀ v4_18 : Int, v4_18 = x4 + 1 → K54 (x3, v4_18, M)) ∧
        (¬ ((M 7 ((30 * v5_7) + (x4 % x1))) = 0) → 0 ≤ v5_7 ∧ v5_7 < 30 ∧ 
          ((M 8 v5_7) ≤ v6_13 → i32 (x4 + 1) ∧ ∀ v4_20 : Int, v4_20 = x4 + 1 → K54 (x3, v4_20, M)) ∧
          (¬ ((M 8 v5_7) ≤ v6_13) → 0 ≤ v5_7 ∧ v5_7 < 30 ∧ ∀ M22 : zM, M22 = zup M 8 v5_7 v6_13 → 
            i32 (x4 + 1) ∧ ∀ v4_23 : Int, v4_23 = x4 + 1 → K54 (1, v4_23, M22)))))
def jM_layLatest_L45 (K45 : (Int × zM) → Prop) (Φ : zM → Prop) (x1 : Int) (x3 : Int) (M : zM) : Prop :=
  
    (x3 = 0 → Φ M) ∧
    (¬ (x3 = 0) → zwh (fun K s => jM_layLatest_L54 K45 K Φ x1 (s.1) (s.2.1) (s.2.2)) (0, 0, M))
def jM_layLatest_L18 (K18 : (Int × zM) → Prop) (Φ : zM → Prop) (x1 x2 : Int) (x3 : Int) (M : zM) : Prop :=
  
    (x1 ≤ x3 → zwh (fun K s => jM_layLatest_L45 K Φ x1 (s.1) (s.2)) (1, M)) ∧
    (¬ (x1 ≤ x3) → 
      jM_of x3 3 M (fun r28 => i32 (x2 - r28) ∧ 0 ≤ x3 ∧ x3 < 30 ∧ ∀ M32 : zM, M32 = zup M 8 x3 (x2 - r28) → 
        i32 (x3 + 1) ∧ ∀ v3_33 : Int, v3_33 = x3 + 1 → K18 (v3_33, M32)))
def jM_layLatest (M : zM) (Φ : zM → Prop) : Prop :=
  
    jM_layPushes M (fun M1 => ∀ v1_2 : Int, v1_2 = (M1 1 0) → 
      
      jM_greatestEnd M1 (fun r3 => zwh (fun K s => jM_layLatest_L18 K Φ v1_2 r3 (s.1) (s.2)) (0, M1)))
def jM_slack (a1 : Int) (M : zM) (Φ : Int → zM → Prop) : Prop :=
  
    jM_layLatest M (fun M1 => 0 ≤ a1 ∧ a1 < 30 ∧ 
      jM_of a1 2 M1 (fun r3 => i32 ((M1 8 a1) - r3) ∧ Φ ((M1 8 a1) - r3) M1))
def jM_critical_L8 (K8 : (Int × Int) → Prop) (Φ : Int → zM → Prop) (M : zM) (x1 x2 : Int) : Prop :=
  
    ((M 1 0) ≤ x2 → Φ x1 M) ∧
    (¬ ((M 1 0) ≤ x2) → 0 ≤ x2 ∧ x2 < 30 ∧ 
      jM_of x2 2 M (fun r3 => 
        (¬ (M 8 x2) = r3 → i32 (x1 + 0) ∧ ∀ v1_6 : Int, v1_6 = (x1 + 0) → 
          i32 (x2 + 1) ∧ ∀ v2_7 : Int, v2_7 = x2 + 1 → K8 (v1_6, v2_7)) ∧
        ((M 8 x2) = r3 → i32 (x1 + 1) ∧ ∀ v1_9 : Int, v1_9 = (x1 + 1) → 
          i32 (x2 + 1) ∧ ∀ v2_10 : Int, v2_10 = x2 + 1 → K8 (v1_9, v2_10))))
def jM_critical (M : zM) (Φ : Int → zM → Prop) : Prop :=
  
    jM_layLatest M (fun M1 => zwh (fun K s => jM_critical_L8 K Φ M1 (s.1) (s.2)) (0, 0))
def jM_isLane (a1 : Int) (M : zM) (Φ : Int → Prop) : Prop :=
  
    jM_in a1 0 11 M (fun r1 => (r1 = 0 ∨ r1 = 1) ∧ Φ r1)
def jM_addsBar (a1 a2 a3 : Int) (M : zM) (Φ : Int → zM → Prop) : Prop :=
  
    jM_isLane a1 M (fun r1 => 
      (¬ r1 = 0 → 
        jM_in a2 0 199 M (fun r3 => 
          (r3 = 0 → Φ (-2) M) ∧
          (¬ (r3 = 0) → 
            jM_in a3 1 30 M (fun r5 => 
              (r5 = 0 → Φ (-2) M) ∧
              (¬ (r5 = 0) → i32 (a2 + a3) ∧ 
                ((a2 + a3) ≤ 200 → i32 (a2 + a3) ∧ i32 ((a2 + a3) - 1) ∧ 
                  jM_within a1 a2 ((a2 + a3) - 1) (-5) M (fun r10 => 
                    (r10 = (-5) → 
                      ((M 1 0) = 30 → Φ (-3) M) ∧
                      (¬ ((M 1 0) = 30) → 
                        (¬ (M 1 444) = 90 → i32 (4 * (M 1 0)) ∧ i32 (1 + (4 * (M 1 0))) ∧ ∀ v4_14 : Int, v4_14 = (1 + (4 * (M 1 0))) → 
                          0 ≤ v4_14 ∧ v4_14 < 447 ∧ ∀ M16 : zM, M16 = zup M 1 v4_14 (M 1 444) → 
                          i32 (v4_14 + 1) ∧ 0 ≤ (v4_14 + 1) ∧ (v4_14 + 1) < 447 ∧ ∀ M19 : zM, M19 = zup M16 1 (v4_14 + 1) a1 → 
                          i32 (v4_14 + 2) ∧ 0 ≤ (v4_14 + 2) ∧ (v4_14 + 2) < 447 ∧ ∀ M22 : zM, M22 = zup M19 1 (v4_14 + 2) a2 → 
                          i32 (v4_14 + 3) ∧ 0 ≤ (v4_14 + 3) ∧ (v4_14 + 3) < 447 ∧ ∀ M25 : zM, M25 = zup M22 1 (v4_14 + 3) a3 → 
                          i32 ((M25 1 0) + 1) ∧ ∀ M27 : zM, M27 = zup M25 1 0 ((M25 1 0) + 1) → 
                          i32 ((M27 1 444) + 1) ∧ ∀ M29 : zM, M29 = zup M27 1 444 ((M27 1 444) + 1) → 
                          i32 ((M29 1 444) - 1) ∧ Φ ((M29 1 444) - 1) M29) ∧
                        ((M 1 444) = 90 → Φ (-3) M))) ∧
                    (¬ (r10 = (-5)) → Φ (-4) M))) ∧
                (¬ ((a2 + a3) ≤ 200) → Φ (-2) M)))))) ∧
      (r1 = 0 → Φ (-1) M))
def jM_leads_J104 (a1 a2 : Int) (K36 : (Int × zM) → Prop) (K49 : (Int × zM) → Prop) (Φ : Int → zM → Prop) (x3 x4 s1 s2 : Int) (M : zM) : Prop :=
  0 ≤ s1 ∧ s1 < 30 ∧ (s2 = 0 ∨ s2 = 1) ∧ ∀ M11 : zM, M11 = zup M 9 s1 s2 → 
    i32 (x4 + 1) ∧ ∀ v4_12 : Int, v4_12 = x4 + 1 → K49 (v4_12, M11)
def jM_leads_J99 (a1 a2 : Int) (K36 : (Int × zM) → Prop) (K49 : (Int × zM) → Prop) (Φ : Int → zM → Prop) (x3 x4 s1 : Int) (M : zM) : Prop :=
  jM_leads_J104 a1 a2 K36 K49 Φ x3 x4 s1 1 M
def jM_leads_L49 (a1 a2 : Int) (K36 : (Int × zM) → Prop) (K49 : (Int × zM) → Prop) (Φ : Int → zM → Prop) (x3 : Int) (x4 : Int) (M : zM) : Prop :=
  
    ((M 1 121) ≤ x4 → i32 (x3 + 1) ∧ ∀ v3_3 : Int, v3_3 = x3 + 1 → K36 (v3_3, M)) ∧
    (¬ ((M 1 121) ≤ x4) → 
      jM_to x4 M (fun r4 => 
        jM_to x4 M (fun r6 => 0 ≤ r6 ∧ r6 < 30 ∧ 
          (¬ (M 9 r6) = 0 → jM_leads_J99 a1 a2 K36 K49 Φ x3 x4 r4 M) ∧
          ((M 9 r6) = 0 → 
            jM_from x4 M (fun r13 => 0 ≤ r13 ∧ r13 < 30 ∧ 
              ((M 9 r13) = 0 → jM_leads_J104 a1 a2 K36 K49 Φ x3 x4 r4 0 M) ∧
              (¬ ((M 9 r13) = 0) → jM_leads_J99 a1 a2 K36 K49 Φ x3 x4 r4 M))))))
def jM_leads_L36 (a1 a2 : Int) (K36 : (Int × zM) → Prop) (Φ : Int → zM → Prop) (x3 : Int) (M : zM) : Prop :=
  
    ((M 1 0) ≤ x3 → 0 ≤ a2 ∧ a2 < 30 ∧ ((M 9 a2) = 0 ∨ (M 9 a2) = 1) ∧ Φ (M 9 a2) M) ∧
    (¬ ((M 1 0) ≤ x3) → zwh (fun K s => jM_leads_L49 a1 a2 K36 K Φ x3 (s.1) (s.2)) (0, M))
def jM_leads_J27 (a1 a2 : Int) (K2 : (Int × zM) → Prop) (Φ : Int → zM → Prop) (x3 s1 s2 : Int) (M : zM) : Prop :=
  0 ≤ s1 ∧ s1 < 30 ∧ (s2 = 0 ∨ s2 = 1) ∧ ∀ M22 : zM, M22 = zup M 9 s1 s2 → 
    i32 (x3 + 1) ∧ ∀ v3_23 : Int, v3_23 = x3 + 1 → K2 (v3_23, M22)
def jM_leads_L2 (a1 a2 : Int) (K2 : (Int × zM) → Prop) (Φ : Int → zM → Prop) (x3 : Int) (M : zM) : Prop :=
  
    ((M 1 0) ≤ x3 → zwh (fun K s => jM_leads_L36 a1 a2 K Φ (s.1) (s.2)) (0, M)) ∧
    (¬ ((M 1 0) ≤ x3) → 
      (¬ x3 = a1 → jM_leads_J27 a1 a2 K2 Φ x3 x3 0 M) ∧
      (x3 = a1 → jM_leads_J27 a1 a2 K2 Φ x3 x3 1 M))
def jM_leads (a1 a2 : Int) (M : zM) (Φ : Int → zM → Prop) : Prop :=
  zwh (fun K s => jM_leads_L2 a1 a2 K Φ (s.1) (s.2)) (0, M)
def jM_hasArrow_L2 (a1 a2 : Int) (K2 : Int → Prop) (Φ : Int → Prop) (M : zM) (x3 : Int) : Prop :=
  
    ((M 1 121) ≤ x3 → Φ 0) ∧
    (¬ ((M 1 121) ≤ x3) → 
      jM_from x3 M (fun r1 => 
        (¬ r1 = a1 → i32 (x3 + 1) ∧ ∀ v3_3 : Int, v3_3 = x3 + 1 → K2 v3_3) ∧
        (r1 = a1 → 
          jM_to x3 M (fun r4 => 
            (¬ r4 = a2 → i32 (x3 + 1) ∧ ∀ v3_6 : Int, v3_6 = x3 + 1 → K2 v3_6) ∧
            (r4 = a2 → Φ 1)))))
def jM_hasArrow (a1 a2 : Int) (M : zM) (Φ : Int → Prop) : Prop :=
  zwh (fun K s => jM_hasArrow_L2 a1 a2 K Φ M (s)) 0
def jM_addsArrow (a1 a2 : Int) (M : zM) (Φ : Int → zM → Prop) : Prop :=
  
    jM_find a1 M (fun r1 => 
      jM_find a2 M (fun r3 => 
        (r1 = (-5) → Φ (-1) M) ∧
        (¬ (r1 = (-5)) → 
          (¬ r3 = (-5) → 
            (r1 = r3 → Φ (-4) M) ∧
            (¬ (r1 = r3) → 
              jM_hasArrow r1 r3 M (fun r5 => 
                (¬ r5 = 0 → Φ (-4) M) ∧
                (r5 = 0 → 
                  jM_leads r3 r1 M (fun r7 M8 => 
                    (r7 = 0 → 
                      ((M8 1 121) = 40 → Φ (-3) M8) ∧
                      (¬ ((M8 1 121) = 40) → 
                        (¬ (M8 1 445) = 200 → i32 (3 * (M8 1 121)) ∧ i32 (122 + (3 * (M8 1 121))) ∧ ∀ v5_11 : Int, v5_11 = (122 + (3 * (M8 1 121))) → 
                          0 ≤ v5_11 ∧ v5_11 < 447 ∧ ∀ M13 : zM, M13 = zup M8 1 v5_11 (M8 1 445) → 
                          i32 (v5_11 + 1) ∧ 0 ≤ (v5_11 + 1) ∧ (v5_11 + 1) < 447 ∧ ∀ M16 : zM, M16 = zup M13 1 (v5_11 + 1) a1 → 
                          i32 (v5_11 + 2) ∧ 0 ≤ (v5_11 + 2) ∧ (v5_11 + 2) < 447 ∧ ∀ M19 : zM, M19 = zup M16 1 (v5_11 + 2) a2 → 
                          i32 ((M19 1 121) + 1) ∧ ∀ M21 : zM, M21 = zup M19 1 121 ((M19 1 121) + 1) → 
                          i32 ((M21 1 445) + 1) ∧ ∀ M23 : zM, M23 = zup M21 1 445 ((M21 1 445) + 1) → 
                          i32 ((M23 1 445) - 1) ∧ Φ ((M23 1 445) - 1) M23) ∧
                        ((M8 1 445) = 200 → Φ (-3) M8))) ∧
                    (¬ (r7 = 0) → Φ (-4) M8)))))) ∧
          (r3 = (-5) → Φ (-1) M))))
def jM_dropArrow_L56 (a1 : Int) (K56 : (Int × zM) → Prop) (Φ : zM → Prop) (x2 : Int) (M : zM) : Prop :=
  
    (3 ≤ x2 → Φ M) ∧
    (¬ (3 ≤ x2) → i32 (3 * (M 1 121)) ∧ i32 (122 + (3 * (M 1 121))) ∧ i32 ((122 + (3 * (M 1 121))) + x2) ∧ 0 ≤ ((122 + (3 * (M 1 121))) + x2) ∧ ((122 + (3 * (M 1 121))) + x2) < 447 ∧ ∀ M12 : zM, M12 = zup M 1 ((122 + (3 * (M 1 121))) + x2) 0 → 
      i32 (x2 + 1) ∧ ∀ v2_13 : Int, v2_13 = x2 + 1 → K56 (v2_13, M12))
def jM_dropArrow_L18 (a1 : Int) (K18 : (Int × zM) → Prop) (Φ : zM → Prop) (x2 : Int) (M : zM) : Prop :=
  i32 (3 * (M 1 121)) ∧ i32 (122 + (3 * (M 1 121))) ∧ 
    ((122 + (3 * (M 1 121))) ≤ x2 → zwh (fun K s => jM_dropArrow_L56 a1 K Φ (s.1) (s.2)) (0, M)) ∧
    (¬ ((122 + (3 * (M 1 121))) ≤ x2) → i32 (x2 + 3) ∧ 0 ≤ (x2 + 3) ∧ (x2 + 3) < 447 ∧ 0 ≤ x2 ∧ x2 < 447 ∧ ∀ M18 : zM, M18 = zup M 1 x2 (M 1 (x2 + 3)) → 
      i32 (x2 + 1) ∧ ∀ v2_19 : Int, v2_19 = x2 + 1 → K18 (v2_19, M18))
def jM_dropArrow (a1 : Int) (M : zM) (Φ : zM → Prop) : Prop :=
  i32 ((M 1 121) - 1) ∧ ∀ M2 : zM, M2 = zup M 1 121 ((M 1 121) - 1) → 
    i32 (3 * a1) ∧ i32 (122 + (3 * a1)) ∧ ∀ v2_5 : Int, v2_5 = (122 + (3 * a1)) → 
    zwh (fun K s => jM_dropArrow_L18 a1 K Φ (s.1) (s.2)) (v2_5, M2)
def jM_takesBar_L124 (a1 : Int) (K124 : (Int × zM) → Prop) (Φ : Int → zM → Prop) (x3 : Int) (x4 : Int) (M : zM) : Prop :=
  
    (4 ≤ x4 → Φ x3 M) ∧
    (¬ (4 ≤ x4) → i32 (4 * (M 1 0)) ∧ i32 (1 + (4 * (M 1 0))) ∧ i32 ((1 + (4 * (M 1 0))) + x4) ∧ 0 ≤ ((1 + (4 * (M 1 0))) + x4) ∧ ((1 + (4 * (M 1 0))) + x4) < 447 ∧ ∀ M16 : zM, M16 = zup M 1 ((1 + (4 * (M 1 0))) + x4) 0 → 
      i32 (x4 + 1) ∧ ∀ v4_17 : Int, v4_17 = x4 + 1 → K124 (v4_17, M16))
def jM_takesBar_L84 (a1 : Int) (K84 : (Int × zM) → Prop) (Φ : Int → zM → Prop) (x3 : Int) (x4 : Int) (M : zM) : Prop :=
  i32 (4 * (M 1 0)) ∧ i32 (1 + (4 * (M 1 0))) ∧ 
    ((1 + (4 * (M 1 0))) ≤ x4 → zwh (fun K s => jM_takesBar_L124 a1 K Φ x3 (s.1) (s.2)) (0, M)) ∧
    (¬ ((1 + (4 * (M 1 0))) ≤ x4) → i32 (x4 + 4) ∧ 0 ≤ (x4 + 4) ∧ (x4 + 4) < 447 ∧ 0 ≤ x4 ∧ x4 < 447 ∧ ∀ M22 : zM, M22 = zup M 1 x4 (M 1 (x4 + 4)) → 
      i32 (x4 + 1) ∧ ∀ v4_23 : Int, v4_23 = x4 + 1 → K84 (v4_23, M22))
def jM_takesBar_J52 (a1 : Int) (K27 : (Int × Int × zM) → Prop) (Φ : Int → zM → Prop) (x2 x3 x4 : Int) (M : zM) : Prop :=
  
    jM_dropArrow x4 M (fun M27 => i32 (x3 + 1) ∧ ∀ v3_28 : Int, v3_28 = x3 + 1 → i32 (x4 + (-1)) ∧ ∀ v4_29 : Int, v4_29 = x4 + (-1) → K27 (v3_28, v4_29, M27))
def jM_takesBar_L27 (a1 : Int) (K27 : (Int × Int × zM) → Prop) (Φ : Int → zM → Prop) (x2 : Int) (x3 x4 : Int) (M : zM) : Prop :=
  
    (x4 < 0 → i32 ((M 1 0) - 1) ∧ ∀ M6 : zM, M6 = zup M 1 0 ((M 1 0) - 1) → 
      i32 (4 * x2) ∧ i32 (1 + (4 * x2)) ∧ ∀ v4_9 : Int, v4_9 = (1 + (4 * x2)) → 
      zwh (fun K s => jM_takesBar_L84 a1 K Φ x3 (s.1) (s.2)) (v4_9, M6)) ∧
    (¬ (x4 < 0) → 
      jM_from x4 M (fun r25 => 
        (r25 = x2 → jM_takesBar_J52 a1 K27 Φ x2 x3 x4 M) ∧
        (¬ (r25 = x2) → 
          jM_to x4 M (fun r30 => 
            (¬ r30 = x2 → i32 (x4 + (-1)) ∧ ∀ v4_32 : Int, v4_32 = x4 + (-1) → K27 (x3, v4_32, M)) ∧
            (r30 = x2 → jM_takesBar_J52 a1 K27 Φ x2 x3 x4 M)))))
def jM_takesBar (a1 : Int) (M : zM) (Φ : Int → zM → Prop) : Prop :=
  
    jM_find a1 M (fun r1 => 
      (¬ r1 = (-5) → i32 ((M 1 121) - 1) ∧ ∀ v4_4 : Int, v4_4 = ((M 1 121) - 1) → 
        zwh (fun K s => jM_takesBar_L27 a1 K Φ r1 (s.1) (s.2.1) (s.2.2)) (0, v4_4, M)) ∧
      (r1 = (-5) → Φ (-1) M))
def jM_takesArrow (a1 : Int) (M : zM) (Φ : Int → zM → Prop) : Prop :=
  
    jM_findArrow a1 M (fun r1 => 
      (¬ r1 = (-5) → i32 (3 * r1) ∧ i32 (122 + (3 * r1)) ∧ i32 ((122 + (3 * r1)) + 2) ∧ 0 ≤ ((122 + (3 * r1)) + 2) ∧ ((122 + (3 * r1)) + 2) < 447 ∧ ∀ v3_7 : Int, v3_7 = (M 1 ((122 + (3 * r1)) + 2)) → 
        
        jM_dropArrow r1 M (fun M8 => Φ v3_7 M8)) ∧
      (r1 = (-5) → Φ (-1) M))
def jM_moves_J77 (a1 a2 a3 : Int) (Φ : Int → zM → Prop) (x4 : Int) (M : zM) : Prop :=
  
    jM_of x4 3 M (fun r12 => i32 (a3 + r12) ∧ i32 ((a3 + r12) - 1) ∧ 
      jM_within a2 a3 ((a3 + r12) - 1) x4 M (fun r16 => 
        (r16 = (-5) → i32 (4 * x4) ∧ i32 (1 + (4 * x4)) ∧ i32 ((1 + (4 * x4)) + 1) ∧ 0 ≤ ((1 + (4 * x4)) + 1) ∧ ((1 + (4 * x4)) + 1) < 447 ∧ ∀ M22 : zM, M22 = zup M 1 ((1 + (4 * x4)) + 1) a2 → 
          i32 (4 * x4) ∧ i32 (1 + (4 * x4)) ∧ i32 ((1 + (4 * x4)) + 2) ∧ 0 ≤ ((1 + (4 * x4)) + 2) ∧ ((1 + (4 * x4)) + 2) < 447 ∧ ∀ M27 : zM, M27 = zup M22 1 ((1 + (4 * x4)) + 2) a3 → 
          
          jM_notDrawn M27 (fun r28 => Φ r28 M27)) ∧
        (¬ (r16 = (-5)) → Φ (-4) M)))
def jM_moves (a1 a2 a3 : Int) (M : zM) (Φ : Int → zM → Prop) : Prop :=
  
    jM_find a1 M (fun r1 => 
      (r1 = (-5) → Φ (-1) M) ∧
      (¬ (r1 = (-5)) → 
        jM_isLane a2 M (fun r3 => 
          (¬ r3 = 0 → 
            jM_in a3 0 199 M (fun r5 => 
              (r5 = 0 → Φ (-2) M) ∧
              (¬ (r5 = 0) → 
                jM_of r1 3 M (fun r7 => i32 (a3 + r7) ∧ 
                  ((a3 + r7) ≤ 200 → 
                    jM_of r1 1 M (fun r10 => 
                      (¬ r10 = a2 → jM_moves_J77 a1 a2 a3 Φ r1 M) ∧
                      (r10 = a2 → 
                        jM_of r1 2 M (fun r31 => 
                          (¬ r31 = a3 → jM_moves_J77 a1 a2 a3 Φ r1 M) ∧
                          (r31 = a3 → Φ (-5) M))))) ∧
                  (¬ ((a3 + r7) ≤ 200) → Φ (-2) M))))) ∧
          (r3 = 0 → Φ (-1) M))))
def jM_swapLanes_J53 (a1 a2 : Int) (K2 : (Int × zM) → Prop) (Φ : zM → Prop) (x3 s1 s2 : Int) (M : zM) : Prop :=
  0 ≤ s1 ∧ s1 < 447 ∧ ∀ M7 : zM, M7 = zup M 1 s1 s2 → 
    i32 (x3 + 1) ∧ ∀ v3_8 : Int, v3_8 = x3 + 1 → K2 (v3_8, M7)
def jM_swapLanes_L2 (a1 a2 : Int) (K2 : (Int × zM) → Prop) (Φ : zM → Prop) (x3 : Int) (M : zM) : Prop :=
  
    ((M 1 0) ≤ x3 → Φ M) ∧
    (¬ ((M 1 0) ≤ x3) → 
      jM_of x3 1 M (fun r1 => i32 (4 * x3) ∧ i32 (1 + (4 * x3)) ∧ i32 ((1 + (4 * x3)) + 1) ∧ 
        (¬ r1 = a1 → 
          (¬ r1 = a2 → jM_swapLanes_J53 a1 a2 K2 Φ x3 ((1 + (4 * x3)) + 1) r1 M) ∧
          (r1 = a2 → jM_swapLanes_J53 a1 a2 K2 Φ x3 ((1 + (4 * x3)) + 1) a1 M)) ∧
        (r1 = a1 → jM_swapLanes_J53 a1 a2 K2 Φ x3 ((1 + (4 * x3)) + 1) a2 M)))
def jM_swapLanes (a1 a2 : Int) (M : zM) (Φ : zM → Prop) : Prop :=
  zwh (fun K s => jM_swapLanes_L2 a1 a2 K Φ (s.1) (s.2)) (0, M)
def jM_swaps_J40 (a1 a2 : Int) (Φ : Int → zM → Prop) (M : zM) : Prop :=
  
    jM_swapLanes a1 a2 M (fun M7 => 
      jM_notDrawn M7 (fun r8 => Φ r8 M7))
def jM_swaps (a1 a2 : Int) (M : zM) (Φ : Int → zM → Prop) : Prop :=
  
    jM_isLane a1 M (fun r1 => 
      (r1 = 0 → Φ (-1) M) ∧
      (¬ (r1 = 0) → 
        jM_isLane a2 M (fun r3 => 
          (¬ r3 = 0 → 
            (a1 = a2 → Φ (-5) M) ∧
            (¬ (a1 = a2) → 
              jM_hasBars a1 M (fun r5 => 
                (¬ r5 = 0 → jM_swaps_J40 a1 a2 Φ M) ∧
                (r5 = 0 → 
                  jM_hasBars a2 M (fun r10 => 
                    (¬ r10 = 0 → jM_swaps_J40 a1 a2 Φ M) ∧
                    (r10 = 0 → Φ (-5) M)))))) ∧
          (r3 = 0 → Φ (-1) M))))
def jM_nextByDay_J89 (a1 : Int) (K5 : (Int × Int) → Prop) (Φ : Int → Prop) (x2 x3 x4 s0 : Int) (M : zM) : Prop :=
  
    (x4 = 0 → i32 (x3 + 1) ∧ ∀ v3_1 : Int, v3_1 = x3 + 1 → K5 (x2, v3_1)) ∧
    (¬ (x4 = 0) → 
      (s0 = 0 → i32 (x3 + 1) ∧ ∀ v3_2 : Int, v3_2 = x3 + 1 → K5 (x2, v3_2)) ∧
      (¬ (s0 = 0) → i32 (x3 + 1) ∧ ∀ v3_3 : Int, v3_3 = x3 + 1 → K5 (x3, v3_3)))
def jM_nextByDay_J84 (a1 : Int) (K5 : (Int × Int) → Prop) (Φ : Int → Prop) (x2 x3 x4 : Int) (M : zM) : Prop :=
  jM_nextByDay_J89 a1 K5 Φ x2 x3 x4 1 M
def jM_nextByDay_J61 (a1 : Int) (K5 : (Int × Int) → Prop) (Φ : Int → Prop) (x2 x3 s0 : Int) (M : zM) : Prop :=
  
    (x2 = (-5) → jM_nextByDay_J84 a1 K5 Φ x2 x3 s0 M) ∧
    (¬ (x2 = (-5)) → 
      jM_of x3 2 M (fun r6 => 
        jM_of x2 2 M (fun r8 => 
          (r8 ≤ r6 → jM_nextByDay_J89 a1 K5 Φ x2 x3 s0 0 M) ∧
          (¬ (r8 ≤ r6) → jM_nextByDay_J84 a1 K5 Φ x2 x3 s0 M))))
def jM_nextByDay_J56 (a1 : Int) (K5 : (Int × Int) → Prop) (Φ : Int → Prop) (x2 x3 : Int) (M : zM) : Prop :=
  jM_nextByDay_J61 a1 K5 Φ x2 x3 1 M
def jM_nextByDay_J60 (a1 : Int) (K5 : (Int × Int) → Prop) (Φ : Int → Prop) (x2 x3 : Int) (M : zM) : Prop :=
  jM_nextByDay_J61 a1 K5 Φ x2 x3 0 M
def jM_nextByDay_L5 (a1 : Int) (K5 : (Int × Int) → Prop) (Φ : Int → Prop) (M : zM) (x2 x3 : Int) : Prop :=
  
    ((M 1 0) ≤ x3 → Φ x2) ∧
    (¬ ((M 1 0) ≤ x3) → 
      (a1 = (-5) → jM_nextByDay_J56 a1 K5 Φ x2 x3 M) ∧
      (¬ (a1 = (-5)) → 
        jM_of x3 2 M (fun r12 => 
          jM_of a1 2 M (fun r14 => 
            (r14 < r12 → jM_nextByDay_J56 a1 K5 Φ x2 x3 M) ∧
            (¬ (r14 < r12) → 
              jM_of x3 2 M (fun r16 => 
                jM_of a1 2 M (fun r18 => 
                  (¬ r16 = r18 → jM_nextByDay_J60 a1 K5 Φ x2 x3 M) ∧
                  (r16 = r18 → 
                    (x3 ≤ a1 → jM_nextByDay_J60 a1 K5 Φ x2 x3 M) ∧
                    (¬ (x3 ≤ a1) → jM_nextByDay_J56 a1 K5 Φ x2 x3 M)))))))))
def jM_nextByDay (a1 : Int) (M : zM) (Φ : Int → Prop) : Prop :=
  zwh (fun K s => jM_nextByDay_L5 a1 K Φ M (s.1) (s.2)) ((-5), 0)
def jM_packs_L118 (K118 : (Int × Int) → Prop) (Φ : Int → zM → Prop) (M : zM) (x1 x2 : Int) : Prop :=
  
    ((M 1 0) ≤ x2 → 
      (¬ x1 = 0 → 
        jM_lanes M (fun r3 => Φ r3 M)) ∧
      (x1 = 0 → Φ (-5) M)) ∧
    (¬ ((M 1 0) ≤ x2) → 
      jM_of x2 1 M (fun r6 => i32 (4 * x2) ∧ i32 (1 + (4 * x2)) ∧ i32 ((1 + (4 * x2)) + 1) ∧ 0 ≤ ((1 + (4 * x2)) + 1) ∧ ((1 + (4 * x2)) + 1) < 447 ∧ 
        (¬ r6 = (M 2 ((1 + (4 * x2)) + 1)) → i32 (x1 + 1) ∧ ∀ v1_13 : Int, v1_13 = (x1 + 1) → 
          i32 (x2 + 1) ∧ ∀ v2_14 : Int, v2_14 = x2 + 1 → K118 (v1_13, v2_14)) ∧
        (r6 = (M 2 ((1 + (4 * x2)) + 1)) → i32 (x1 + 0) ∧ ∀ v1_16 : Int, v1_16 = (x1 + 0) → 
          i32 (x2 + 1) ∧ ∀ v2_17 : Int, v2_17 = x2 + 1 → K118 (v1_16, v2_17))))
def jM_packs_J83 (K38 : (Int × zM) → Prop) (Φ : Int → zM → Prop) (x1 x2 : Int) (M : zM) : Prop :=
  
    (¬ x2 = 12 → i32 (4 * x1) ∧ i32 (1 + (4 * x1)) ∧ i32 ((1 + (4 * x1)) + 1) ∧ 0 ≤ ((1 + (4 * x1)) + 1) ∧ ((1 + (4 * x1)) + 1) < 447 ∧ ∀ M24 : zM, M24 = zup M 1 ((1 + (4 * x1)) + 1) x2 → 
      
      jM_nextByDay x1 M24 (fun r25 => K38 (r25, M24))) ∧
    (x2 = 12 → Φ (-4) M)
def jM_packs_L46 (K38 : (Int × zM) → Prop) (K46 : Int → Prop) (Φ : Int → zM → Prop) (x1 : Int) (M : zM) (x2 : Int) : Prop :=
  
    (12 ≤ x2 → jM_packs_J83 K38 Φ x1 x2 M) ∧
    (¬ (12 ≤ x2) → 
      jM_of x1 2 M (fun r28 => 
        jM_end x1 M (fun r30 => i32 (r30 - 1) ∧ 
          jM_within x2 r28 (r30 - 1) (-5) M (fun r33 => 
            (r33 = (-5) → jM_packs_J83 K38 Φ x1 x2 M) ∧
            (¬ (r33 = (-5)) → i32 (x2 + 1) ∧ ∀ v2_35 : Int, v2_35 = x2 + 1 → K46 v2_35)))))
def jM_packs_L38 (K38 : (Int × zM) → Prop) (Φ : Int → zM → Prop) (x1 : Int) (M : zM) : Prop :=
  
    (x1 = (-5) → zwh (fun K s => jM_packs_L118 K Φ M (s.1) (s.2)) (0, 0)) ∧
    (¬ (x1 = (-5)) → zwh (fun K s => jM_packs_L46 K38 K Φ x1 M (s)) 0)
def jM_packs_L2 (K2 : (Int × zM) → Prop) (Φ : Int → zM → Prop) (x1 : Int) (M : zM) : Prop :=
  
    ((M 1 0) ≤ x1 → 
      jM_nextByDay (-5) M (fun r1 => zwh (fun K s => jM_packs_L38 K Φ (s.1) (s.2)) (r1, M))) ∧
    (¬ ((M 1 0) ≤ x1) → i32 (4 * x1) ∧ i32 (1 + (4 * x1)) ∧ i32 ((1 + (4 * x1)) + 1) ∧ 0 ≤ ((1 + (4 * x1)) + 1) ∧ ((1 + (4 * x1)) + 1) < 447 ∧ ∀ M43 : zM, M43 = zup M 1 ((1 + (4 * x1)) + 1) (-1) → 
      i32 (x1 + 1) ∧ ∀ v1_44 : Int, v1_44 = x1 + 1 → K2 (v1_44, M43))
def jM_packs (M : zM) (Φ : Int → zM → Prop) : Prop :=
  zwh (fun K s => jM_packs_L2 K Φ (s.1) (s.2)) (0, M)
def jM_slipsBy (a1 a2 : Int) (M : zM) (Φ : Int → zM → Prop) : Prop :=
  
    jM_find a1 M (fun r1 => 
      (¬ r1 = (-5) → 
        jM_in a2 1 30 M (fun r3 => 
          (¬ r3 = 0 → 
            jM_slips r1 a2 M (fun r5 M6 => 
              jM_greatestEnd M6 (fun r7 => 
                (r7 ≤ 200 → Φ r5 M6) ∧
                (¬ (r7 ≤ 200) → Φ (-4) M6)))) ∧
          (r3 = 0 → Φ (-2) M))) ∧
      (r1 = (-5) → Φ (-1) M))
def jM_pulls_L23 (a1 : Int) (K23 : (Int × Int) → Prop) (Φ : Int → zM → Prop) (x2 : Int) (M : zM) (x3 x4 : Int) : Prop :=
  
    ((M 1 0) ≤ x4 → 
      jM_of x2 2 M (fun r4 => i32 (r4 - x3) ∧ ∀ v4_7 : Int, v4_7 = (r4 - x3) → 
        i32 (4 * x2) ∧ i32 (1 + (4 * x2)) ∧ i32 ((1 + (4 * x2)) + 2) ∧ 0 ≤ ((1 + (4 * x2)) + 2) ∧ ((1 + (4 * x2)) + 2) < 447 ∧ ∀ M12 : zM, M12 = zup M 1 ((1 + (4 * x2)) + 2) x3 → 
        
        (¬ v4_7 = 0 → Φ v4_7 M12) ∧
        (v4_7 = 0 → Φ (-5) M12))) ∧
    (¬ ((M 1 0) ≤ x4) → i32 (30 * x4) ∧ i32 ((30 * x4) + x2) ∧ 0 ≤ ((30 * x4) + x2) ∧ ((30 * x4) + x2) < 900 ∧ 
      ((M 7 ((30 * x4) + x2)) = 0 → i32 (x4 + 1) ∧ ∀ v4_17 : Int, v4_17 = x4 + 1 → K23 (x3, v4_17)) ∧
      (¬ ((M 7 ((30 * x4) + x2)) = 0) → 
        jM_end x4 M (fun r18 => 
          jM_most x3 r18 M (fun r20 => i32 (x4 + 1) ∧ ∀ v4_22 : Int, v4_22 = x4 + 1 → K23 (r20, v4_22)))))
def jM_pulls (a1 : Int) (M : zM) (Φ : Int → zM → Prop) : Prop :=
  
    jM_find a1 M (fun r1 => 
      (¬ r1 = (-5) → 
        jM_layPushes M (fun M3 => zwh (fun K s => jM_pulls_L23 a1 K Φ r1 M3 (s.1) (s.2)) (0, 0))) ∧
      (r1 = (-5) → Φ (-1) M))
def jM_widens_J69 (a1 a2 a3 : Int) (K41 : (Int × Int × zM) → Prop) (Φ : Int → zM → Prop) (x5 s0 s1 : Int) (M : zM) : Prop :=
  i32 (s0 + s1) ∧ ∀ v4_11 : Int, v4_11 = (s0 + s1) → 
    i32 (242 + x5) ∧ 0 ≤ (242 + x5) ∧ (242 + x5) < 447 ∧ ∀ M14 : zM, M14 = zup M 1 (242 + x5) a3 → 
    i32 (x5 + 1) ∧ ∀ v5_15 : Int, v5_15 = x5 + 1 → K41 (v4_11, v5_15, M14)
def jM_widens_L41 (a1 a2 a3 : Int) (K41 : (Int × Int × zM) → Prop) (Φ : Int → zM → Prop) (x4 x5 : Int) (M : zM) : Prop :=
  
    (a2 < x5 → 
      (¬ x4 = 0 → Φ x4 M) ∧
      (x4 = 0 → Φ (-5) M)) ∧
    (¬ (a2 < x5) → i32 (242 + x5) ∧ 0 ≤ (242 + x5) ∧ (242 + x5) < 447 ∧ 
      (¬ (M 1 (242 + x5)) = a3 → jM_widens_J69 a1 a2 a3 K41 Φ x5 x4 1 M) ∧
      ((M 1 (242 + x5)) = a3 → jM_widens_J69 a1 a2 a3 K41 Φ x5 x4 0 M))
def jM_widens (a1 a2 a3 : Int) (M : zM) (Φ : Int → zM → Prop) : Prop :=
  
    jM_in a1 0 199 M (fun r1 => 
      (r1 = 0 → Φ (-2) M) ∧
      (¬ (r1 = 0) → 
        jM_in a2 a1 199 M (fun r3 => 
          (r3 = 0 → Φ (-2) M) ∧
          (¬ (r3 = 0) → 
            jM_in a3 1 9 M (fun r5 => 
              (¬ r5 = 0 → zwh (fun K s => jM_widens_L41 a1 a2 a3 K Φ (s.1) (s.2.1) (s.2.2)) (0, a1, M)) ∧
              (r5 = 0 → Φ (-2) M))))))
def jM_sets_J31 (a1 a2 : Int) (Φ : Int → zM → Prop) (s0 s1 s2 : Int) (M : zM) : Prop :=
  
    jM_in s0 s1 s2 M (fun r3 => 
      (¬ r3 = 0 → i32 (442 + a1) ∧ 0 ≤ (442 + a1) ∧ (442 + a1) < 447 ∧ ∀ v3_7 : Int, v3_7 = (M 1 (442 + a1)) → 
        i32 (442 + a1) ∧ 0 ≤ (442 + a1) ∧ (442 + a1) < 447 ∧ ∀ M10 : zM, M10 = zup M 1 (442 + a1) a2 → 
        
        (¬ v3_7 = a2 → Φ v3_7 M10) ∧
        (v3_7 = a2 → Φ (-5) M10)) ∧
      (r3 = 0 → Φ (-2) M))
def jM_sets_J20 (a1 a2 : Int) (Φ : Int → zM → Prop) (s0 s1 : Int) (M : zM) : Prop :=
  
    (¬ a1 = 0 → jM_sets_J31 a1 a2 Φ s0 s1 999 M) ∧
    (a1 = 0 → jM_sets_J31 a1 a2 Φ s0 s1 2 M)
def jM_sets (a1 a2 : Int) (M : zM) (Φ : Int → zM → Prop) : Prop :=
  
    jM_in a1 0 1 M (fun r1 => 
      (r1 = 0 → Φ (-2) M) ∧
      (¬ (r1 = 0) → 
        (¬ a1 = 0 → jM_sets_J20 a1 a2 Φ a2 10 M) ∧
        (a1 = 0 → jM_sets_J20 a1 a2 Φ a2 0 M)))
def jM_bar (a1 a2 a3 : Int) (M : zM) (Φ : Int → zM → Prop) : Prop :=
  
    jM_putAside M (fun M1 => 
      jM_addsBar a1 a2 a3 M1 (fun r2 M3 => 
        jM_act r2 M3 (fun r4 M5 => Φ r4 M5)))
def jM_arrow (a1 a2 : Int) (M : zM) (Φ : Int → zM → Prop) : Prop :=
  
    jM_putAside M (fun M1 => 
      jM_addsArrow a1 a2 M1 (fun r2 M3 => 
        jM_act r2 M3 (fun r4 M5 => Φ r4 M5)))
def jM_takeBar (a1 : Int) (M : zM) (Φ : Int → zM → Prop) : Prop :=
  
    jM_putAside M (fun M1 => 
      jM_takesBar a1 M1 (fun r2 M3 => 
        jM_act r2 M3 (fun r4 M5 => Φ r4 M5)))
def jM_takeArrow (a1 : Int) (M : zM) (Φ : Int → zM → Prop) : Prop :=
  
    jM_putAside M (fun M1 => 
      jM_takesArrow a1 M1 (fun r2 M3 => 
        jM_act r2 M3 (fun r4 M5 => Φ r4 M5)))
def jM_move (a1 a2 a3 : Int) (M : zM) (Φ : Int → zM → Prop) : Prop :=
  
    jM_putAside M (fun M1 => 
      jM_moves a1 a2 a3 M1 (fun r2 M3 => 
        jM_act r2 M3 (fun r4 M5 => Φ r4 M5)))
def jM_swap (a1 a2 : Int) (M : zM) (Φ : Int → zM → Prop) : Prop :=
  
    jM_putAside M (fun M1 => 
      jM_swaps a1 a2 M1 (fun r2 M3 => 
        jM_act r2 M3 (fun r4 M5 => Φ r4 M5)))
def jM_pack (M : zM) (Φ : Int → zM → Prop) : Prop :=
  
    jM_putAside M (fun M1 => 
      jM_packs M1 (fun r2 M3 => 
        jM_act r2 M3 (fun r4 M5 => Φ r4 M5)))
def jM_slip (a1 a2 : Int) (M : zM) (Φ : Int → zM → Prop) : Prop :=
  
    jM_putAside M (fun M1 => 
      jM_slipsBy a1 a2 M1 (fun r2 M3 => 
        jM_act r2 M3 (fun r4 M5 => Φ r4 M5)))
def jM_pull (a1 : Int) (M : zM) (Φ : Int → zM → Prop) : Prop :=
  
    jM_putAside M (fun M1 => 
      jM_pulls a1 M1 (fun r2 M3 => 
        jM_act r2 M3 (fun r4 M5 => Φ r4 M5)))
def jM_width (a1 a2 a3 : Int) (M : zM) (Φ : Int → zM → Prop) : Prop :=
  
    jM_putAside M (fun M1 => 
      jM_widens a1 a2 a3 M1 (fun r2 M3 => 
        jM_act r2 M3 (fun r4 M5 => Φ r4 M5)))
def jM_set (a1 a2 : Int) (M : zM) (Φ : Int → zM → Prop) : Prop :=
  
    jM_putAside M (fun M1 => 
      jM_sets a1 a2 M1 (fun r2 M3 => 
        jM_act r2 M3 (fun r4 M5 => Φ r4 M5)))
def jM_type (a1 : Int) (M : zM) (Φ : Int → zM → Prop) : Prop :=
  
    (¬ (M 0 7) = 60 → 0 ≤ (M 0 7) ∧ (M 0 7) < 60 ∧ ∀ M2 : zM, M2 = zup M 5 (M 0 7) a1 → 
      i32 ((M2 0 7) + 1) ∧ ∀ M4 : zM, M4 = zup M2 0 7 ((M2 0 7) + 1) → 
      Φ (M4 0 7) M4) ∧
    ((M 0 7) = 60 → Φ (-3) M)
def jM_clearText (M : zM) (Φ : Int → zM → Prop) : Prop :=
  ∀ v1_1 : Int, v1_1 = (M 0 7) → 
    ∀ M2 : zM, M2 = zup M 0 7 0 → 
    Φ v1_1 M2
def jM_sign_J78 (a1 a2 : Int) (Φ : Int → zM → Prop) (x3 s1 s2 : Int) (M : zM) : Prop :=
  i32 (s1 + s2) ∧ ∀ M4 : zM, M4 = zup M 0 12 (s1 + s2) → 
    Φ x3 M4
def jM_sign_J58 (a1 a2 : Int) (Φ : Int → zM → Prop) (x3 s1 : Int) (M : zM) : Prop :=
  (s1 = 0 ∨ s1 = 1) ∧ ∀ M2 : zM, M2 = zup M 0 13 s1 → 
    
    ((M2 0 13) = 0 → jM_sign_J78 a1 a2 Φ x3 (M2 0 12) 1 M2) ∧
    (¬ ((M2 0 13) = 0) → jM_sign_J78 a1 a2 Φ x3 (M2 0 12) 0 M2)
def jM_sign_J53 (a1 a2 : Int) (Φ : Int → zM → Prop) (x3 : Int) (M : zM) : Prop :=
  jM_sign_J58 a1 a2 Φ x3 1 M
def jM_sign_J24 (a1 a2 : Int) (Φ : Int → zM → Prop) (s0 : Int) (M : zM) : Prop :=
  
    (¬ (M 0 13) = 0 → jM_sign_J53 a1 a2 Φ s0 M) ∧
    ((M 0 13) = 0 → 
      ((M 0 7) ≤ (M 0 12) → jM_sign_J53 a1 a2 Φ s0 M) ∧
      (¬ ((M 0 7) ≤ (M 0 12)) → 
        jM_in s0 a1 a2 M (fun r6 => 
          (¬ r6 = 0 → jM_sign_J58 a1 a2 Φ s0 0 M) ∧
          (r6 = 0 → jM_sign_J53 a1 a2 Φ s0 M))))
def jM_sign (a1 a2 : Int) (M : zM) (Φ : Int → zM → Prop) : Prop :=
  
    ((M 0 7) ≤ (M 0 12) → jM_sign_J24 a1 a2 Φ 0 M) ∧
    (¬ ((M 0 7) ≤ (M 0 12)) → 0 ≤ (M 0 12) ∧ (M 0 12) < 60 ∧ jM_sign_J24 a1 a2 Φ (M 5 (M 0 12)) M)
def jM_isNext (a1 : Int) (M : zM) (Φ : Int → Prop) : Prop :=
  
    (¬ (M 0 13) = 0 → Φ 0) ∧
    ((M 0 13) = 0 → 
      ((M 0 7) ≤ (M 0 12) → Φ 0) ∧
      (¬ ((M 0 7) ≤ (M 0 12)) → 0 ≤ (M 0 12) ∧ (M 0 12) < 60 ∧ 
        (¬ (M 5 (M 0 12)) = a1 → Φ 0) ∧
        ((M 5 (M 0 12)) = a1 → Φ 1)))
def jM_number_L14 (a1 a2 : Int) (K14 : (Int × zM) → Prop) (Φ : Int → zM → Prop) (x3 : Int) (M : zM) : Prop :=
  
    (x3 ≤ 0 → Φ x3 M) ∧
    (¬ (x3 ≤ 0) → 
      (¬ (M 0 13) = 0 → Φ x3 M) ∧
      ((M 0 13) = 0 → 
        ((M 0 7) ≤ (M 0 12) → Φ x3 M) ∧
        (¬ ((M 0 7) ≤ (M 0 12)) → 0 ≤ (M 0 12) ∧ (M 0 12) < 60 ∧ 
          jM_in (M 5 (M 0 12)) 48 57 M (fun r7 => 
            (r7 = 0 → Φ x3 M) ∧
            (¬ (r7 = 0) → i32 (10 * x3) ∧ 0 ≤ (M 0 12) ∧ (M 0 12) < 60 ∧ i32 ((10 * x3) + (M 5 (M 0 12))) ∧ i32 (((10 * x3) + (M 5 (M 0 12))) - 48) ∧ 
              (a2 < (((10 * x3) + (M 5 (M 0 12))) - 48) → Φ x3 M) ∧
              (¬ (a2 < (((10 * x3) + (M 5 (M 0 12))) - 48)) → i32 (10 * x3) ∧ 0 ≤ (M 0 12) ∧ (M 0 12) < 60 ∧ i32 ((10 * x3) + (M 5 (M 0 12))) ∧ i32 (((10 * x3) + (M 5 (M 0 12))) - 48) ∧ ∀ v3_17 : Int, v3_17 = (((10 * x3) + (M 5 (M 0 12))) - 48) → 
                i32 ((M 0 12) + 1) ∧ ∀ M19 : zM, M19 = zup M 0 12 ((M 0 12) + 1) → 
                K14 (v3_17, M19)))))))
def jM_number (a1 a2 : Int) (M : zM) (Φ : Int → zM → Prop) : Prop :=
  i32 (48 + a1) ∧ 
    jM_sign (48 + a1) 57 M (fun r2 M3 => i32 (r2 - 48) ∧ ∀ v3_5 : Int, v3_5 = (r2 - 48) → 
      zwh (fun K s => jM_number_L14 a1 a2 K Φ (s.1) (s.2)) (v3_5, M3))
def jM_part_J78 (a1 : Int) (Φ : Int → zM → Prop) (x2 : Int) (M : zM) : Prop :=
  
    jM_sign 62 62 M (fun r3 M4 => 
      jM_number 0 89 M4 (fun r5 M6 => 
        (a1 = 0 → Φ 0 M6) ∧
        (¬ (a1 = 0) → 
          jM_addsArrow x2 r5 M6 (fun r7 M8 => Φ r7 M8))))
def jM_part (a1 : Int) (M : zM) (Φ : Int → zM → Prop) : Prop :=
  
    jM_number 0 89 M (fun r1 M2 => 
      (12 ≤ r1 → jM_part_J78 a1 Φ r1 M2) ∧
      (¬ (12 ≤ r1) → 
        jM_isNext 64 M2 (fun r10 => 
          (r10 = 0 → jM_part_J78 a1 Φ r1 M2) ∧
          (¬ (r10 = 0) → i32 ((M2 0 12) + 1) ∧ ∀ M13 : zM, M13 = zup M2 0 12 ((M2 0 12) + 1) → 
            
            jM_number 0 199 M13 (fun r14 M15 => 
              jM_sign 43 43 M15 (fun r16 M17 => 
                jM_number 1 30 M17 (fun r18 M19 => 
                  (a1 = 0 → Φ 0 M19) ∧
                  (¬ (a1 = 0) → 
                    jM_addsBar r1 r14 r18 M19 (fun r20 M21 => Φ r20 M21)))))))))
def jM_go_J59 (a1 : Int) (K14 : (Int × Int × zM) → Prop) (Φ : Int → zM → Prop) (x2 s0 : Int) (M : zM) : Prop :=
  
    (s0 = 0 → K14 (x2, s0, M)) ∧
    (¬ (s0 = 0) → 
      jM_sign 59 59 M (fun r6 M7 => 
        (¬ (M7 0 13) = 0 → K14 (x2, 0, M7)) ∧
        ((M7 0 13) = 0 → K14 (x2, 1, M7))))
def jM_go_J58 (a1 : Int) (K14 : (Int × Int × zM) → Prop) (Φ : Int → zM → Prop) (x2 : Int) (M : zM) : Prop :=
  jM_go_J59 a1 K14 Φ x2 0 M
def jM_go_L14 (a1 : Int) (K14 : (Int × Int × zM) → Prop) (Φ : Int → zM → Prop) (x2 x3 : Int) (M : zM) : Prop :=
  
    (x3 = 0 → Φ x2 M) ∧
    (¬ (x3 = 0) → 
      jM_part a1 M (fun r3 M4 => 
        (0 ≤ r3 → i32 (x2 + 1) ∧ ∀ v2_5 : Int, v2_5 = x2 + 1 → 
          (¬ (M4 0 13) = 0 → jM_go_J58 a1 K14 Φ v2_5 M4) ∧
          ((M4 0 13) = 0 → 
            ((M4 0 7) ≤ (M4 0 12) → jM_go_J58 a1 K14 Φ v2_5 M4) ∧
            (¬ ((M4 0 7) ≤ (M4 0 12)) → jM_go_J59 a1 K14 Φ v2_5 1 M4))) ∧
        (¬ (0 ≤ r3) → Φ r3 M4)))
def jM_go (a1 : Int) (M : zM) (Φ : Int → zM → Prop) : Prop :=
  ∀ M1 : zM, M1 = zup M 0 12 0 → 
    ∀ M2 : zM, M2 = zup M1 0 13 0 → 
    zwh (fun K s => jM_go_L14 a1 K Φ (s.1) (s.2.1) (s.2.2)) (0, 1, M2)
def jM_fault (M : zM) (Φ : Int → zM → Prop) : Prop :=
  
    jM_go 0 M (fun r1 M2 => 
      ((M2 0 13) = 0 → Φ (-5) M2) ∧
      (¬ ((M2 0 13) = 0) → Φ (M2 0 12) M2))
def jM_addAll (M : zM) (Φ : Int → zM → Prop) : Prop :=
  
    jM_go 0 M (fun r1 M2 => 
      ((M2 0 13) = 0 → 
        jM_putAside M2 (fun M3 => 
          jM_go 1 M3 (fun r4 M5 => 
            jM_act r4 M5 (fun r6 M7 => Φ r6 M7)))) ∧
      (¬ ((M2 0 13) = 0) → i32 ((-100) - (M2 0 12)) ∧ Φ ((-100) - (M2 0 12)) M2))
def jM_undo_L22 (K22 : (Int × zM) → Prop) (Φ : Int → zM → Prop) (x1 : Int) (M : zM) : Prop :=
  
    (447 ≤ x1 → Φ (M 0 3) M) ∧
    (¬ (447 ≤ x1) → i32 (447 * (M 0 3)) ∧ i32 ((447 * (M 0 3)) + x1) ∧ 0 ≤ ((447 * (M 0 3)) + x1) ∧ ((447 * (M 0 3)) + x1) < 1788 ∧ 0 ≤ x1 ∧ x1 < 447 ∧ ∀ M7 : zM, M7 = zup M 1 x1 (M 3 ((447 * (M 0 3)) + x1)) → 
      i32 (x1 + 1) ∧ ∀ v1_8 : Int, v1_8 = x1 + 1 → K22 (v1_8, M7))
def jM_undo (M : zM) (Φ : Int → zM → Prop) : Prop :=
  
    (¬ (M 0 3) = 0 → i32 ((M 0 3) - 1) ∧ ∀ M2 : zM, M2 = zup M 0 3 ((M 0 3) - 1) → 
      zwh (fun K s => jM_undo_L22 K Φ (s.1) (s.2)) (0, M2)) ∧
    ((M 0 3) = 0 → Φ (-5) M)
def jM_keep_L2 (K2 : (Int × zM) → Prop) (Φ : Int → zM → Prop) (x1 : Int) (M : zM) : Prop :=
  
    (447 ≤ x1 → ∀ M1 : zM, M1 = zup M 0 5 1 → 
      Φ (M1 1 0) M1) ∧
    (¬ (447 ≤ x1) → 0 ≤ x1 ∧ x1 < 447 ∧ 0 ≤ x1 ∧ x1 < 447 ∧ ∀ M4 : zM, M4 = zup M 4 x1 (M 1 x1) → 
      i32 (x1 + 1) ∧ ∀ v1_5 : Int, v1_5 = x1 + 1 → K2 (v1_5, M4))
def jM_keep (M : zM) (Φ : Int → zM → Prop) : Prop :=
  zwh (fun K s => jM_keep_L2 K Φ (s.1) (s.2)) (0, M)
def jM_restore_L16 (K16 : (Int × zM) → Prop) (Φ : Int → zM → Prop) (x1 : Int) (M : zM) : Prop :=
  
    (447 ≤ x1 → 
      jM_act (M 1 0) M (fun r2 M3 => Φ r2 M3)) ∧
    (¬ (447 ≤ x1) → 0 ≤ x1 ∧ x1 < 447 ∧ 0 ≤ x1 ∧ x1 < 447 ∧ ∀ M6 : zM, M6 = zup M 1 x1 (M 4 x1) → 
      i32 (x1 + 1) ∧ ∀ v1_7 : Int, v1_7 = x1 + 1 → K16 (v1_7, M6))
def jM_restore (M : zM) (Φ : Int → zM → Prop) : Prop :=
  
    (¬ (M 0 5) = 0 → 
      jM_putAside M (fun M1 => zwh (fun K s => jM_restore_L16 K Φ (s.1) (s.2)) (0, M1))) ∧
    ((M 0 5) = 0 → Φ (-5) M)
def jM_arrowsAt_L5 (a1 a2 : Int) (K5 : (Int × Int) → Prop) (Φ : Int → Prop) (M : zM) (x3 x4 : Int) : Prop :=
  
    ((M 1 121) ≤ x4 → Φ x3) ∧
    (¬ ((M 1 121) ≤ x4) → i32 (3 * x4) ∧ i32 (122 + (3 * x4)) ∧ i32 ((122 + (3 * x4)) + a2) ∧ 0 ≤ ((122 + (3 * x4)) + a2) ∧ ((122 + (3 * x4)) + a2) < 447 ∧ 
      jM_of a1 0 M (fun r5 => 
        (¬ (M 1 ((122 + (3 * x4)) + a2)) = r5 → i32 (x3 + 0) ∧ ∀ v3_8 : Int, v3_8 = (x3 + 0) → 
          i32 (x4 + 1) ∧ ∀ v4_9 : Int, v4_9 = x4 + 1 → K5 (v3_8, v4_9)) ∧
        ((M 1 ((122 + (3 * x4)) + a2)) = r5 → i32 (x3 + 1) ∧ ∀ v3_11 : Int, v3_11 = (x3 + 1) → 
          i32 (x4 + 1) ∧ ∀ v4_12 : Int, v4_12 = x4 + 1 → K5 (v3_11, v4_12))))
def jM_arrowsAt (a1 a2 : Int) (M : zM) (Φ : Int → Prop) : Prop :=
  zwh (fun K s => jM_arrowsAt_L5 a1 a2 K Φ M (s.1) (s.2)) (0, 0)
def jM_behind_J78 (a1 : Int) (K5 : (Int × Int) → Prop) (Φ : Int → Prop) (x3 : Int) (M : zM) : Prop :=
  i32 (x3 + 1) ∧ ∀ v3_9 : Int, v3_9 = x3 + 1 → K5 (x3, v3_9)
def jM_behind_J50 (a1 : Int) (K5 : (Int × Int) → Prop) (Φ : Int → Prop) (x2 x3 s0 : Int) (M : zM) : Prop :=
  
    (s0 = 0 → i32 (x3 + 1) ∧ ∀ v3_8 : Int, v3_8 = x3 + 1 → K5 (x2, v3_8)) ∧
    (¬ (s0 = 0) → 
      (x2 = (-5) → jM_behind_J78 a1 K5 Φ x3 M) ∧
      (¬ (x2 = (-5)) → 
        jM_of x3 2 M (fun r10 => 
          jM_of x2 2 M (fun r12 => 
            (r12 ≤ r10 → i32 (x3 + 1) ∧ ∀ v3_14 : Int, v3_14 = x3 + 1 → K5 (x2, v3_14)) ∧
            (¬ (r12 ≤ r10) → jM_behind_J78 a1 K5 Φ x3 M)))))
def jM_behind_J49 (a1 : Int) (K5 : (Int × Int) → Prop) (Φ : Int → Prop) (x2 x3 : Int) (M : zM) : Prop :=
  jM_behind_J50 a1 K5 Φ x2 x3 0 M
def jM_behind_L5 (a1 : Int) (K5 : (Int × Int) → Prop) (Φ : Int → Prop) (M : zM) (x2 x3 : Int) : Prop :=
  
    ((M 1 0) ≤ x3 → 
      (¬ x2 = (-5) → 
        jM_of x2 0 M (fun r1 => Φ r1)) ∧
      (x2 = (-5) → Φ (-5))) ∧
    (¬ ((M 1 0) ≤ x3) → 
      jM_of x3 1 M (fun r4 => 
        jM_of a1 1 M (fun r6 => 
          (¬ r4 = r6 → jM_behind_J49 a1 K5 Φ x2 x3 M) ∧
          (r4 = r6 → 
            jM_of x3 2 M (fun r18 => 
              jM_of a1 2 M (fun r20 => 
                (r18 ≤ r20 → jM_behind_J49 a1 K5 Φ x2 x3 M) ∧
                (¬ (r18 ≤ r20) → jM_behind_J50 a1 K5 Φ x2 x3 1 M)))))))
def jM_behind (a1 : Int) (M : zM) (Φ : Int → Prop) : Prop :=
  zwh (fun K s => jM_behind_L5 a1 K Φ M (s.1) (s.2)) ((-5), 0)
def jM_barOf (a1 a2 : Int) (M : zM) (Φ : Int → zM → Prop) : Prop :=
  
    jM_find a1 M (fun r1 => 
      (¬ r1 = (-5) → 
        (a2 = 0 → i32 (1 + a2) ∧ 
          jM_of r1 (1 + a2) M (fun r4 => Φ r4 M)) ∧ (¬ (a2 = 0) → 
        (a2 = 1 → i32 (1 + a2) ∧ 
          jM_of r1 (1 + a2) M (fun r7 => Φ r7 M)) ∧ (¬ (a2 = 1) → 
        (a2 = 2 → i32 (1 + a2) ∧ 
          jM_of r1 (1 + a2) M (fun r10 => Φ r10 M)) ∧ (¬ (a2 = 2) → 
        (a2 = 3 → 
          jM_end r1 M (fun r12 => Φ r12 M)) ∧ (¬ (a2 = 3) → 
        (a2 = 4 → 
          jM_of r1 2 M (fun r14 => 
            jM_widthOf 0 r14 M (fun r16 => Φ r16 M))) ∧ (¬ (a2 = 4) → 
        (a2 = 5 → 
          jM_of r1 2 M (fun r18 => 
            jM_end r1 M (fun r20 => 
              jM_widthOf r18 r20 M (fun r22 => Φ r22 M)))) ∧ (¬ (a2 = 5) → 
        (a2 = 6 → 
          jM_slack r1 M (fun r24 M25 => Φ r24 M25)) ∧ (¬ (a2 = 6) → 
        (a2 = 7 → i32 (a2 - 6) ∧ 
          jM_arrowsAt r1 (a2 - 6) M (fun r27 => Φ r27 M)) ∧ (¬ (a2 = 7) → 
        (a2 = 8 → i32 (a2 - 6) ∧ 
          jM_arrowsAt r1 (a2 - 6) M (fun r30 => Φ r30 M)) ∧ (¬ (a2 = 8) → 
        (a2 = 9 → 
          jM_of r1 2 M (fun r32 => 
            jM_stripOf r32 M (fun r34 => Φ r34 M))) ∧ (¬ (a2 = 9) → 
        (a2 = 10 → 
          jM_end r1 M (fun r36 => i32 (r36 - 1) ∧ 
            jM_stripOf (r36 - 1) M (fun r39 => 
              jM_of r1 2 M (fun r41 => 
                jM_stripOf r41 M (fun r43 => i32 (r39 - r43) ∧ i32 ((r39 - r43) + 1) ∧ Φ ((r39 - r43) + 1) M))))) ∧ (¬ (a2 = 10) → 
        (a2 = 11 → 
          jM_behind r1 M (fun r47 => Φ r47 M)) ∧ (¬ (a2 = 11) → Φ (-2) M))))))))))))) ∧
      (r1 = (-5) → Φ (-1) M))
def jM_arrowOf (a1 a2 : Int) (M : zM) (Φ : Int → zM → Prop) : Prop :=
  
    jM_findArrow a1 M (fun r1 => 
      (¬ r1 = (-5) → 
        jM_in a2 0 7 M (fun r3 => 
          (¬ r3 = 0 → 
            jM_bend r1 M (fun r5 => 
              jM_from r1 M (fun r7 => 
                jM_end r7 M (fun r9 => 
                  jM_to r1 M (fun r11 => 
                    jM_of r11 2 M (fun r13 => 
                      (a2 = 0 → i32 (3 * r1) ∧ i32 (122 + (3 * r1)) ∧ i32 ((122 + (3 * r1)) + 1) ∧ i32 (((122 + (3 * r1)) + 1) + a2) ∧ 0 ≤ (((122 + (3 * r1)) + 1) + a2) ∧ (((122 + (3 * r1)) + 1) + a2) < 447 ∧ Φ (M 1 (((122 + (3 * r1)) + 1) + a2)) M) ∧ (¬ (a2 = 0) → 
                      (a2 = 1 → i32 (3 * r1) ∧ i32 (122 + (3 * r1)) ∧ i32 ((122 + (3 * r1)) + 1) ∧ i32 (((122 + (3 * r1)) + 1) + a2) ∧ 0 ≤ (((122 + (3 * r1)) + 1) + a2) ∧ (((122 + (3 * r1)) + 1) + a2) < 447 ∧ Φ (M 1 (((122 + (3 * r1)) + 1) + a2)) M) ∧ (¬ (a2 = 1) → 
                      (a2 = 2 → Φ r5 M) ∧ (¬ (a2 = 2) → 
                      (a2 = 3 → 
                        jM_lateBy r1 M (fun r25 => Φ r25 M)) ∧ (¬ (a2 = 3) → 
                      (a2 = 4 → 
                        jM_freeBends r1 M (fun r27 => Φ r27 M)) ∧ (¬ (a2 = 4) → 
                      (a2 = 5 → 
                        (¬ r5 = (-5) → 
                          jM_widthOf r9 r13 M (fun r29 => Φ r29 M)) ∧
                        (r5 = (-5) → Φ (-5) M)) ∧ (¬ (a2 = 5) → 
                      (a2 = 6 → 
                        jM_pointsOf r1 M (fun r32 M33 => Φ r32 M33)) ∧ (¬ (a2 = 6) → 
                        (¬ r5 = (-5) → 
                          jM_stripOf r13 M (fun r34 => i32 (r9 - 1) ∧ 
                            jM_stripOf (r9 - 1) M (fun r37 => i32 (r34 - r37) ∧ Φ (r34 - r37) M))) ∧
                        (r5 = (-5) → Φ (-5) M)))))))))))))) ∧
          (r3 = 0 → Φ (-2) M))) ∧
      (r1 = (-5) → Φ (-1) M))
def jM_reason (a1 a2 : Int) (M : zM) (Φ : Int → Prop) : Prop :=
  
    jM_findArrow a1 M (fun r1 => 
      (¬ r1 = (-5) → 
        jM_reasonFor r1 a2 M (fun r3 => Φ r3)) ∧
      (r1 = (-5) → Φ (-1)))
def jM_cell (a1 a2 : Int) (M : zM) (Φ : Int → Prop) : Prop :=
  
    jM_isLane a1 M (fun r1 => 
      (r1 = 0 → Φ (-1)) ∧
      (¬ (r1 = 0) → 
        jM_in a2 0 199 M (fun r3 => 
          (¬ r3 = 0 → 
            jM_within a1 a2 a2 (-5) M (fun r5 => 
              (¬ r5 = (-5) → 
                jM_of r5 0 M (fun r7 => Φ r7)) ∧
              (r5 = (-5) → Φ (-5)))) ∧
          (r3 = 0 → Φ (-1)))))
def jM_strip_J93 (a1 a2 : Int) (K53 : (Int × Int × Int) → Prop) (Φ : Int → Prop) (x3 x4 x6 x7 s0 s1 : Int) (M : zM) : Prop :=
  i32 (s0 + s1) ∧ ∀ v5_19 : Int, v5_19 = (s0 + s1) → 
    
    jM_of x7 2 M (fun r20 => i32 (x4 - 1) ∧ 
      jM_in r20 x3 (x4 - 1) M (fun r23 => 
        (r23 = 0 → i32 (x6 + 0) ∧ ∀ v6_26 : Int, v6_26 = (x6 + 0) → 
          i32 (x7 + 1) ∧ ∀ v7_27 : Int, v7_27 = x7 + 1 → K53 (v5_19, v6_26, v7_27)) ∧
        (¬ (r23 = 0) → i32 (x6 + 1) ∧ ∀ v6_29 : Int, v6_29 = (x6 + 1) → 
          i32 (x7 + 1) ∧ ∀ v7_30 : Int, v7_30 = x7 + 1 → K53 (v5_19, v6_29, v7_30))))
def jM_strip_J92 (a1 a2 : Int) (K53 : (Int × Int × Int) → Prop) (Φ : Int → Prop) (x3 x4 x6 x7 s0 : Int) (M : zM) : Prop :=
  jM_strip_J93 a1 a2 K53 Φ x3 x4 x6 x7 s0 0 M
def jM_strip_L53 (a1 a2 : Int) (K53 : (Int × Int × Int) → Prop) (Φ : Int → Prop) (x3 x4 : Int) (M : zM) (x5 x6 x7 : Int) : Prop :=
  
    ((M 1 0) ≤ x7 → 
      (¬ a2 = 0 → 
        (¬ a2 = 1 → 
          (¬ a2 = 2 → 
            (¬ a2 = 3 → Φ x6) ∧
            (a2 = 3 → Φ x5)) ∧
          (a2 = 2 → 
            jM_widthOf x3 x4 M (fun r10 => Φ r10))) ∧
        (a2 = 1 → i32 (x4 - x3) ∧ Φ (x4 - x3))) ∧
      (a2 = 0 → Φ x3)) ∧
    (¬ ((M 1 0) ≤ x7) → 
      jM_of x7 2 M (fun r16 => 
        (x4 ≤ r16 → jM_strip_J92 a1 a2 K53 Φ x3 x4 x6 x7 x5 M) ∧
        (¬ (x4 ≤ r16) → 
          jM_end x7 M (fun r32 => 
            (r32 ≤ x3 → jM_strip_J92 a1 a2 K53 Φ x3 x4 x6 x7 x5 M) ∧
            (¬ (r32 ≤ x3) → jM_strip_J93 a1 a2 K53 Φ x3 x4 x6 x7 x5 1 M)))))
def jM_strip (a1 a2 : Int) (M : zM) (Φ : Int → Prop) : Prop :=
  
    (a1 < 0 → Φ (-2)) ∧
    (¬ (a1 < 0) → 
      jM_in a2 0 4 M (fun r1 => 
        (¬ r1 = 0 → 
          jM_least a1 200 M (fun r3 => 
            jM_stripStart r3 M (fun r5 => 
              (¬ r5 = (-5) → 
                jM_stripEnd r5 M (fun r7 => zwh (fun K s => jM_strip_L53 a1 a2 K Φ r5 r7 M (s.1) (s.2.1) (s.2.2)) (0, 0, 0))) ∧
              (r5 = (-5) → Φ (-5))))) ∧
        (r1 = 0 → Φ (-2))))
def jM_count (a1 : Int) (M : zM) (Φ : Int → zM → Prop) : Prop :=
  
    (a1 = 0 → Φ (M 1 0) M) ∧ (¬ (a1 = 0) → 
    (a1 = 1 → Φ (M 1 121) M) ∧ (¬ (a1 = 1) → 
    (a1 = 2 → 
      jM_lanes M (fun r1 => Φ r1 M)) ∧ (¬ (a1 = 2) → 
    (a1 = 3 → 
      jM_notDrawn M (fun r3 => Φ r3 M)) ∧ (¬ (a1 = 3) → 
    (a1 = 4 → 
      jM_arrowsThat 1 M (fun r5 => Φ r5 M)) ∧ (¬ (a1 = 4) → 
    (a1 = 5 → 
      jM_allPoints M (fun r7 M8 => Φ r7 M8)) ∧ (¬ (a1 = 5) → 
    (a1 = 6 → 
      jM_greatestEnd M (fun r9 => Φ r9 M)) ∧ (¬ (a1 = 6) → 
    (a1 = 7 → 
      jM_strips M (fun r11 => Φ r11 M)) ∧ (¬ (a1 = 7) → 
    (a1 = 8 → 
      jM_greatestEnd M (fun r13 => 
        jM_widthOf 0 r13 M (fun r15 => Φ r15 M))) ∧ (¬ (a1 = 8) → 
    (a1 = 9 → 
      jM_critical M (fun r17 M18 => Φ r17 M18)) ∧ (¬ (a1 = 9) → 
    (a1 = 10 → Φ (M 1 444) M) ∧ (¬ (a1 = 10) → 
    (a1 = 11 → Φ (M 1 445) M) ∧ (¬ (a1 = 11) → 
    (a1 = 12 → Φ (M 1 446) M) ∧ (¬ (a1 = 12) → 
    (a1 = 13 → Φ (M 0 3) M) ∧ (¬ (a1 = 13) → 
    (a1 = 14 → Φ (M 0 7) M) ∧ (¬ (a1 = 14) → 
    (a1 = 15 → i32 (442 + a1) ∧ i32 ((442 + a1) - 15) ∧ 0 ≤ ((442 + a1) - 15) ∧ ((442 + a1) - 15) < 447 ∧ Φ (M 1 ((442 + a1) - 15)) M) ∧ (¬ (a1 = 15) → 
    (a1 = 16 → i32 (442 + a1) ∧ i32 ((442 + a1) - 15) ∧ 0 ≤ ((442 + a1) - 15) ∧ ((442 + a1) - 15) < 447 ∧ Φ (M 1 ((442 + a1) - 15)) M) ∧ (¬ (a1 = 16) → Φ (-2) M)))))))))))))))))
def jM_latest (a1 : Int) (M : zM) (Φ : Int → zM → Prop) : Prop :=
  
    jM_find a1 M (fun r1 => 
      (¬ r1 = (-5) → 
        jM_layLatest M (fun M3 => 0 ≤ r1 ∧ r1 < 30 ∧ Φ (M3 8 r1) M3)) ∧
      (r1 = (-5) → Φ (-1) M))
def jM_longest_L138 (K138 : (Int × Int) → Prop) (Φ : Int → zM → Prop) (x1 : Int) (M : zM) (x2 x3 : Int) : Prop :=
  
    (x1 ≤ x3 → Φ x2 M) ∧
    (¬ (x1 ≤ x3) → 0 ≤ x3 ∧ x3 < 30 ∧ 
      jM_most x2 (M 10 x3) M (fun r4 => i32 (x3 + 1) ∧ ∀ v3_6 : Int, v3_6 = x3 + 1 → K138 (r4, v3_6)))
def jM_longest_J123 (K40 : (Int × zM) → Prop) (K48 : (Int × zM) → Prop) (Φ : Int → zM → Prop) (x1 x2 x3 x4 s1 s2 : Int) (M : zM) : Prop :=
  0 ≤ s1 ∧ s1 < 30 ∧ ∀ M18 : zM, M18 = zup M 10 s1 s2 → 
    i32 (x4 + 1) ∧ ∀ v4_19 : Int, v4_19 = x4 + 1 → K48 (v4_19, M18)
def jM_longest_L48 (K40 : (Int × zM) → Prop) (K48 : (Int × zM) → Prop) (Φ : Int → zM → Prop) (x1 x2 x3 : Int) (x4 : Int) (M : zM) : Prop :=
  i32 (x1 * x1) ∧ 
    ((x1 * x1) ≤ x4 → i32 (x3 + 1) ∧ ∀ v3_9 : Int, v3_9 = x3 + 1 → K40 (v3_9, M)) ∧
    (¬ ((x1 * x1) ≤ x4) → 0 ≤ x4 ∧ 0 < x1 ∧ ∀ v5_11 : Int, v5_11 = (x4 / x1) → 
      i32 (30 * v5_11) ∧ 0 ≤ x4 ∧ 0 < x1 ∧ i32 ((30 * v5_11) + (x4 % x1)) ∧ 0 ≤ ((30 * v5_11) + (x4 % x1)) ∧ ((30 * v5_11) + (x4 % x1)) < 900 ∧ 
      ((M 7 ((30 * v5_11) + (x4 % x1))) = 0 → 0 ≤ v5_11 ∧ v5_11 < 30 ∧ jM_longest_J123 K40 K48 Φ x1 x2 x3 x4 v5_11 (M 10 v5_11) M) ∧
      (¬ ((M 7 ((30 * v5_11) + (x4 % x1))) = 0) → 0 ≤ v5_11 ∧ v5_11 < 30 ∧ 
        jM_of v5_11 3 M (fun r21 => 0 ≤ x4 ∧ 0 < x1 ∧ 0 ≤ (x4 % x1) ∧ (x4 % x1) < 30 ∧ i32 (r21 + (M 10 (x4 % x1))) ∧ 
          jM_most (M 10 v5_11) (r21 + (M 10 (x4 % x1))) M (fun r26 => jM_longest_J123 K40 K48 Φ x1 x2 x3 x4 v5_11 r26 M))))
def jM_longest_L40 (K40 : (Int × zM) → Prop) (Φ : Int → zM → Prop) (x1 x2 : Int) (x3 : Int) (M : zM) : Prop :=
  
    (x1 ≤ x3 → zwh (fun K s => jM_longest_L138 K Φ x1 M (s.1) (s.2)) (x2, 0)) ∧
    (¬ (x1 ≤ x3) → zwh (fun K s => jM_longest_L48 K40 K Φ x1 x2 x3 (s.1) (s.2)) (0, M))
def jM_longest_L15 (K15 : (Int × zM) → Prop) (Φ : Int → zM → Prop) (x1 x2 : Int) (x3 : Int) (M : zM) : Prop :=
  
    (x1 ≤ x3 → zwh (fun K s => jM_longest_L40 K Φ x1 x2 (s.1) (s.2)) (0, M)) ∧
    (¬ (x1 ≤ x3) → 
      jM_of x3 3 M (fun r31 => 0 ≤ x3 ∧ x3 < 30 ∧ ∀ M34 : zM, M34 = zup M 10 x3 r31 → 
        i32 (x3 + 1) ∧ ∀ v3_35 : Int, v3_35 = x3 + 1 → K15 (v3_35, M34)))
def jM_longest (M : zM) (Φ : Int → zM → Prop) : Prop :=
  
    jM_layPushes M (fun M1 => ∀ v1_2 : Int, v1_2 = (M1 1 0) → 
      zwh (fun K s => jM_longest_L15 K Φ v1_2 0 (s.1) (s.2)) (0, M1))
def jM_share_L4 (K4 : (Int × Int) → Prop) (Φ : UInt64 → Prop) (M : zM) (x1 x2 : Int) : Prop :=
  
    ((M 1 0) ≤ x2 → 
      (¬ (M 1 0) = 0 → 
        jM_greatestEnd M (fun r1 => 
          jM_widthOf 0 r1 M (fun r3 => 
            jM_lanes M (fun r5 => vf_n64 (FP.dmul (FP.i2d (Int32.ofInt r3)) (FP.i2d (Int32.ofInt r5))) ∧ vf_n64 (FP.ddiv (FP.i2d (Int32.ofInt x1)) (FP.dmul (FP.i2d (Int32.ofInt r3)) (FP.i2d (Int32.ofInt r5)))) ∧ Φ (FP.ddiv (FP.i2d (Int32.ofInt x1)) (FP.dmul (FP.i2d (Int32.ofInt r3)) (FP.i2d (Int32.ofInt r5)))))))) ∧
      ((M 1 0) = 0 → Φ 0)) ∧
    (¬ ((M 1 0) ≤ x2) → 
      jM_of x2 2 M (fun r10 => 
        jM_end x2 M (fun r12 => 
          jM_widthOf r10 r12 M (fun r14 => i32 (x1 + r14) ∧ ∀ v1_17 : Int, v1_17 = (x1 + r14) → 
            i32 (x2 + 1) ∧ ∀ v2_18 : Int, v2_18 = x2 + 1 → K4 (v1_17, v2_18)))))
def jM_share (M : zM) (Φ : UInt64 → Prop) : Prop :=
  zwh (fun K s => jM_share_L4 K Φ M (s.1) (s.2)) (0, 0)
def jM_ifSlipped (a1 a2 : Int) (M : zM) (Φ : Int → zM → Prop) : Prop :=
  
    jM_find a1 M (fun r1 => 
      (¬ r1 = (-5) → 
        jM_in a2 1 30 M (fun r3 => 
          (¬ r3 = 0 → 
            jM_putAside M (fun M5 => 
              jM_slips r1 a2 M5 (fun r6 M7 => 
                jM_greatestEnd M7 (fun r8 => 
                  jM_putBack M7 (fun M10 => Φ r8 M10))))) ∧
          (r3 = 0 → Φ (-2) M))) ∧
      (r1 = (-5) → Φ (-1) M))
def jM_bestSwap_J152 (a1 : Int) (K29 : (Int × Int × Int × Int × zM) → Prop) (Φ : Int → zM → Prop) (x3 x4 x5 x6 x7 s0 : Int) (M : zM) : Prop :=
  
    jM_swapLanes x6 x7 M (fun M21 => i32 (x5 + 1) ∧ ∀ v5_22 : Int, v5_22 = x5 + 1 → K29 (s0, x3, x4, v5_22, M21))
def jM_bestSwap_J140 (a1 : Int) (K29 : (Int × Int × Int × Int × zM) → Prop) (Φ : Int → zM → Prop) (x2 x4 x5 x6 x7 x8 x10 s0 : Int) (M : zM) : Prop :=
  
    (x10 = 0 → jM_bestSwap_J152 a1 K29 Φ s0 x4 x5 x6 x7 x2 M) ∧
    (¬ (x10 = 0) → jM_bestSwap_J152 a1 K29 Φ s0 x4 x5 x6 x7 x8 M)
def jM_bestSwap_J127 (a1 : Int) (K29 : (Int × Int × Int × Int × zM) → Prop) (Φ : Int → zM → Prop) (x2 x3 x5 x6 x7 x8 x9 x10 s0 : Int) (M : zM) : Prop :=
  
    (x10 = 0 → jM_bestSwap_J140 a1 K29 Φ x2 s0 x5 x6 x7 x8 x10 x3 M) ∧
    (¬ (x10 = 0) → jM_bestSwap_J140 a1 K29 Φ x2 s0 x5 x6 x7 x8 x10 x9 M)
def jM_bestSwap_J113 (a1 : Int) (K29 : (Int × Int × Int × Int × zM) → Prop) (Φ : Int → zM → Prop) (x2 x3 x4 x5 x6 x7 x8 x9 s0 : Int) (M : zM) : Prop :=
  
    (s0 = 0 → jM_bestSwap_J127 a1 K29 Φ x2 x3 x5 x6 x7 x8 x9 s0 x4 M) ∧
    (¬ (s0 = 0) → jM_bestSwap_J127 a1 K29 Φ x2 x3 x5 x6 x7 x8 x9 s0 x5 M)
def jM_bestSwap_J108 (a1 : Int) (K29 : (Int × Int × Int × Int × zM) → Prop) (Φ : Int → zM → Prop) (x2 x3 x4 x5 x6 x7 x8 x9 : Int) (M : zM) : Prop :=
  jM_bestSwap_J113 a1 K29 Φ x2 x3 x4 x5 x6 x7 x8 x9 1 M
def jM_bestSwap_J112 (a1 : Int) (K29 : (Int × Int × Int × Int × zM) → Prop) (Φ : Int → zM → Prop) (x2 x3 x4 x5 x6 x7 x8 x9 : Int) (M : zM) : Prop :=
  jM_bestSwap_J113 a1 K29 Φ x2 x3 x4 x5 x6 x7 x8 x9 0 M
def jM_bestSwap_J88 (a1 : Int) (K29 : (Int × Int × Int × Int × zM) → Prop) (Φ : Int → zM → Prop) (x2 x3 x4 x5 x6 x7 x8 s0 : Int) (M : zM) : Prop :=
  
    (x8 < x2 → jM_bestSwap_J108 a1 K29 Φ x2 x3 x4 x5 x6 x7 x8 s0 M) ∧
    (¬ (x8 < x2) → 
      (¬ x8 = x2 → jM_bestSwap_J112 a1 K29 Φ x2 x3 x4 x5 x6 x7 x8 s0 M) ∧
      (x8 = x2 → 
        (x3 ≤ s0 → jM_bestSwap_J112 a1 K29 Φ x2 x3 x4 x5 x6 x7 x8 s0 M) ∧
        (¬ (x3 ≤ s0) → jM_bestSwap_J108 a1 K29 Φ x2 x3 x4 x5 x6 x7 x8 s0 M)))
def jM_bestSwap_L29 (a1 : Int) (K29 : (Int × Int × Int × Int × zM) → Prop) (Φ : Int → zM → Prop) (x2 x3 x4 x5 : Int) (M : zM) : Prop :=
  
    (144 ≤ x5 → 
      (¬ x4 = (-5) → 
        (¬ a1 = 0 → 
          (¬ a1 = 1 → 
            (¬ a1 = 2 → Φ x3 M) ∧
            (a1 = 2 → Φ x2 M)) ∧
          (a1 = 1 → 0 ≤ x4 ∧ Φ (x4 % 12) M)) ∧
        (a1 = 0 → 0 ≤ x4 ∧ Φ (x4 / 12) M)) ∧
      (x4 = (-5) → Φ (-5) M)) ∧
    (¬ (144 ≤ x5) → 0 ≤ x5 ∧ ∀ v6_14 : Int, v6_14 = (x5 / 12) → 
      0 ≤ x5 ∧ ∀ v7_16 : Int, v7_16 = (x5 % 12) → 
      
      (v7_16 ≤ v6_14 → i32 (x5 + 1) ∧ ∀ v5_17 : Int, v5_17 = x5 + 1 → K29 (x2, x3, x4, v5_17, M)) ∧
      (¬ (v7_16 ≤ v6_14) → 
        jM_swapLanes v6_14 v7_16 M (fun M18 => 
          jM_notDrawn M18 (fun r19 => 
            (x2 < r19 → jM_bestSwap_J88 a1 K29 Φ x2 x3 x4 x5 v6_14 v7_16 r19 1000000 M18) ∧
            (¬ (x2 < r19) → 
              jM_allPoints M18 (fun r29 M30 => jM_bestSwap_J88 a1 K29 Φ x2 x3 x4 x5 v6_14 v7_16 r19 r29 M30))))))
def jM_bestSwap (a1 : Int) (M : zM) (Φ : Int → zM → Prop) : Prop :=
  
    jM_in a1 0 3 M (fun r1 => 
      (¬ r1 = 0 → 
        jM_notDrawn M (fun r3 => 
          jM_allPoints M (fun r5 M6 => zwh (fun K s => jM_bestSwap_L29 a1 K Φ (s.1) (s.2.1) (s.2.2.1) (s.2.2.2.1) (s.2.2.2.2)) (r3, r5, (-5), 0, M6)))) ∧
      (r1 = 0 → Φ (-2) M))
def jM_bestLane_J99 (a1 : Int) (K33 : (Int × Int × Int × zM) → Prop) (Φ : Int → zM → Prop) (x2 x3 x5 x6 x7 s0 : Int) (M : zM) : Prop :=
  
    jM_least x7 x5 M (fun r20 => i32 (4 * x2) ∧ i32 (1 + (4 * x2)) ∧ i32 ((1 + (4 * x2)) + 1) ∧ 0 ≤ ((1 + (4 * x2)) + 1) ∧ ((1 + (4 * x2)) + 1) < 447 ∧ ∀ M26 : zM, M26 = zup M 1 ((1 + (4 * x2)) + 1) x3 → 
      i32 (x6 + 1) ∧ ∀ v6_27 : Int, v6_27 = x6 + 1 → K33 (s0, r20, v6_27, M26))
def jM_bestLane_L33 (a1 : Int) (K33 : (Int × Int × Int × zM) → Prop) (Φ : Int → zM → Prop) (x2 x3 : Int) (x4 x5 x6 : Int) (M : zM) : Prop :=
  
    (12 ≤ x6 → Φ x4 M) ∧
    (¬ (12 ≤ x6) → 
      jM_of x2 2 M (fun r5 => 
        jM_end x2 M (fun r7 => i32 (r7 - 1) ∧ 
          jM_within x6 r5 (r7 - 1) x2 M (fun r10 => 
            (¬ r10 = (-5) → i32 (x6 + 1) ∧ ∀ v6_12 : Int, v6_12 = x6 + 1 → K33 (x4, x5, v6_12, M)) ∧
            (r10 = (-5) → i32 (4 * x2) ∧ i32 (1 + (4 * x2)) ∧ i32 ((1 + (4 * x2)) + 1) ∧ 0 ≤ ((1 + (4 * x2)) + 1) ∧ ((1 + (4 * x2)) + 1) < 447 ∧ ∀ M17 : zM, M17 = zup M 1 ((1 + (4 * x2)) + 1) x6 → 
              
              jM_notDrawn M17 (fun r18 => 
                (x5 ≤ r18 → jM_bestLane_J99 a1 K33 Φ x2 x3 x5 x6 r18 x4 M17) ∧
                (¬ (x5 ≤ r18) → jM_bestLane_J99 a1 K33 Φ x2 x3 x5 x6 r18 x6 M17)))))))
def jM_bestLane (a1 : Int) (M : zM) (Φ : Int → zM → Prop) : Prop :=
  
    jM_find a1 M (fun r1 => 
      (¬ r1 = (-5) → 
        jM_of r1 1 M (fun r3 => zwh (fun K s => jM_bestLane_L33 a1 K Φ r1 r3 (s.1) (s.2.1) (s.2.2.1) (s.2.2.2)) ((-5), 1000000, 0, M))) ∧
      (r1 = (-5) → Φ (-1) M))

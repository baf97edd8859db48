/-! printed by gen.py: what each method asks, method by method, over whole numbers -/
def jC_copyFrom (b : Nat) (c1 : Nat) (M : zM) (Φ : zM → Prop) : Prop :=
  ∀ M1 : zM, M1 = zup M b 0 (M c1 0) → 
    ∀ M2 : zM, M2 = zup M1 b 1 (M1 c1 1) → 
    ∀ M3 : zM, M3 = zcp M2 (c1 + 1) 0 (b + 1) 0 30 → 
    ∀ M4 : zM, M4 = zcp M3 (c1 + 2) 0 (b + 2) 0 30 → 
    ∀ M5 : zM, M5 = zcp M4 (c1 + 3) 0 (b + 3) 0 30 → 
    ∀ M6 : zM, M6 = zcp M5 (c1 + 4) 0 (b + 4) 0 30 → 
    ∀ M7 : zM, M7 = zup M6 b 6 (M6 c1 6) → 
    ∀ M8 : zM, M8 = zup M7 b 7 (M7 c1 7) → 
    ∀ M9 : zM, M9 = zcp M8 (c1 + 5) 0 (b + 5) 0 40 → 
    ∀ M10 : zM, M10 = zcp M9 (c1 + 6) 0 (b + 6) 0 40 → 
    ∀ M11 : zM, M11 = zcp M10 (c1 + 7) 0 (b + 7) 0 40 → 
    ∀ M12 : zM, M12 = zcp M11 (c1 + 8) 0 (b + 8) 0 200 → 
    ∀ M13 : zM, M13 = zcp M12 (c1 + 9) 0 (b + 9) 0 2 → 
    ∀ M14 : zM, M14 = zup M13 b 13 (M13 c1 13) → 
    Φ M14
def jB_isLane (a1 : Int) (M : zM) (Φ : Int → Prop) : Prop :=
  
    (a1 < 0 → Φ 0) ∧
    (¬ (a1 < 0) → 
      (12 ≤ a1 → Φ 0) ∧
      (¬ (12 ≤ a1) → Φ 1))
def jB_isDay (a1 : Int) (M : zM) (Φ : Int → Prop) : Prop :=
  
    (a1 < 0 → Φ 0) ∧
    (¬ (a1 < 0) → 
      (200 ≤ a1 → Φ 0) ∧
      (¬ (200 ≤ a1) → Φ 1))
def jC_endOf (b : Nat) (a1 : Int) (M : zM) (Φ : Int → Prop) : Prop :=
  0 ≤ a1 ∧ a1 < 30 ∧ 0 ≤ a1 ∧ a1 < 30 ∧ i32 ((M (b + 3) a1) + (M (b + 4) a1)) ∧ Φ ((M (b + 3) a1) + (M (b + 4) a1))
def jC_sharesDays (b : Nat) (a1 a2 a3 : Int) (M : zM) (Φ : Int → Prop) : Prop :=
  0 ≤ a1 ∧ a1 < 30 ∧ 
    (a3 ≤ (M (b + 3) a1) → Φ 0) ∧
    (¬ (a3 ≤ (M (b + 3) a1)) → 
      jC_endOf b a1 M (fun r2 => 
        (r2 ≤ a2 → Φ 0) ∧
        (¬ (r2 ≤ a2) → Φ 1)))
def jC_hasRoom_L3 (b : Nat) (a1 a2 a3 a4 : Int) (K3 : Int → Prop) (Φ : Int → Prop) (M : zM) (x5 : Int) : Prop :=
  
    ((M b 0) ≤ x5 → Φ 1) ∧
    (¬ ((M b 0) ≤ x5) → 
      (x5 = a4 → i32 (x5 + 1) ∧ ∀ v5_1 : Int, v5_1 = x5 + 1 → K3 v5_1) ∧
      (¬ (x5 = a4) → 0 ≤ x5 ∧ x5 < 30 ∧ 
        (¬ (M (b + 2) x5) = a1 → i32 (x5 + 1) ∧ ∀ v5_3 : Int, v5_3 = x5 + 1 → K3 v5_3) ∧
        ((M (b + 2) x5) = a1 → i32 (a2 + a3) ∧ 
          jC_sharesDays b x5 a2 (a2 + a3) M (fun r5 => 
            (r5 = 0 → i32 (x5 + 1) ∧ ∀ v5_7 : Int, v5_7 = x5 + 1 → K3 v5_7) ∧
            (¬ (r5 = 0) → Φ 0)))))
def jC_hasRoom (b : Nat) (a1 a2 a3 a4 : Int) (M : zM) (Φ : Int → Prop) : Prop :=
  zwh (fun K s => jC_hasRoom_L3 b a1 a2 a3 a4 K Φ M (s)) 0
def jC_addBar (b : Nat) (a1 a2 a3 : Int) (M : zM) (Φ : Int → zM → Prop) : Prop :=
  
    jB_isLane a1 M (fun r1 => 
      (¬ r1 = 0 → 
        jB_isDay a2 M (fun r3 => 
          (r3 = 0 → Φ (-2) M) ∧
          (¬ (r3 = 0) → 
            (a3 < 1 → Φ (-2) M) ∧
            (¬ (a3 < 1) → 
              (30 < a3 → Φ (-2) M) ∧
              (¬ (30 < a3) → i32 (a2 + a3) ∧ 
                ((a2 + a3) ≤ 200 → 
                  jC_hasRoom b a1 a2 a3 (-1) M (fun r6 => 
                    (¬ r6 = 0 → 
                      (30 ≤ (M b 0) → Φ (-3) M) ∧
                      (¬ (30 ≤ (M b 0)) → 
                        ((M b 1) < 90 → 0 ≤ (M b 0) ∧ (M b 0) < 30 ∧ ∀ M9 : zM, M9 = zup M (b + 1) (M b 0) (M b 1) → 
                          0 ≤ (M9 b 0) ∧ (M9 b 0) < 30 ∧ ∀ M11 : zM, M11 = zup M9 (b + 2) (M9 b 0) a1 → 
                          0 ≤ (M11 b 0) ∧ (M11 b 0) < 30 ∧ ∀ M13 : zM, M13 = zup M11 (b + 3) (M11 b 0) a2 → 
                          0 ≤ (M13 b 0) ∧ (M13 b 0) < 30 ∧ ∀ M15 : zM, M15 = zup M13 (b + 4) (M13 b 0) a3 → 
                          i32 ((M15 b 0) + 1) ∧ ∀ M17 : zM, M17 = zup M15 b 0 ((M15 b 0) + 1) → 
                          i32 ((M17 b 1) + 1) ∧ ∀ M19 : zM, M19 = zup M17 b 1 ((M17 b 1) + 1) → 
                          i32 ((M19 b 1) - 1) ∧ Φ ((M19 b 1) - 1) M19) ∧
                        (¬ ((M b 1) < 90) → Φ (-3) M))) ∧
                    (r6 = 0 → Φ (-4) M))) ∧
                (¬ ((a2 + a3) ≤ 200) → Φ (-2) M)))))) ∧
      (r1 = 0 → Φ (-1) M))
def jH_record_J30 (c1 : Nat) (Φ : zM → Prop) (M : zM) : Prop :=
  i32 ((M 71 1) + (M 71 2)) ∧ 0 ≤ ((M 71 1) + (M 71 2)) ∧ 0 ≤ (((M 71 1) + (M 71 2)) % 4) ∧ (((M 71 1) + (M 71 2)) % 4) < 4 ∧ ∀ c3 : Nat, c3 = 30 + 10 * Int.toNat (((M 71 1) + (M 71 2)) % 4) → 
    
    jC_copyFrom c3 c1 M (fun M5 => i32 ((M5 71 2) + 1) ∧ ∀ M7 : zM, M7 = zup M5 71 2 ((M5 71 2) + 1) → 
      Φ M7)
def jH_record (c1 : Nat) (M : zM) (Φ : zM → Prop) : Prop :=
  
    (¬ (M 71 2) = 4 → jH_record_J30 c1 Φ M) ∧
    ((M 71 2) = 4 → i32 ((M 71 1) + 1) ∧ 0 ≤ ((M 71 1) + 1) ∧ ∀ M10 : zM, M10 = zup M 71 1 (((M 71 1) + 1) % 4) → 
      i32 ((M10 71 2) - 1) ∧ ∀ M12 : zM, M12 = zup M10 71 2 ((M10 71 2) - 1) → 
      jH_record_J30 c1 Φ M12)
def jB_settle (a1 : Int) (M : zM) (Φ : Int → zM → Prop) : Prop :=
  
    (a1 < 0 → Φ a1 M) ∧
    (¬ (a1 < 0) → 
      jH_record 0 M (fun M1 => 
        jC_copyFrom 0 10 M1 (fun M2 => Φ a1 M2)))
def jB_bar (a1 a2 a3 : Int) (M : zM) (Φ : Int → zM → Prop) : Prop :=
  
    jC_copyFrom 10 0 M (fun M1 => 
      jC_addBar 10 a1 a2 a3 M1 (fun r2 M3 => 
        jB_settle r2 M3 (fun r4 M5 => Φ r4 M5)))
def jC_slotOf_L2 (b : Nat) (a1 : Int) (K2 : Int → Prop) (Φ : Int → Prop) (M : zM) (x2 : Int) : Prop :=
  
    ((M b 0) ≤ x2 → Φ (-1)) ∧
    (¬ ((M b 0) ≤ x2) → 0 ≤ x2 ∧ x2 < 30 ∧ 
      (¬ (M (b + 1) x2) = a1 → i32 (x2 + 1) ∧ ∀ v2_2 : Int, v2_2 = x2 + 1 → K2 v2_2) ∧
      ((M (b + 1) x2) = a1 → Φ x2))
def jC_slotOf (b : Nat) (a1 : Int) (M : zM) (Φ : Int → Prop) : Prop :=
  zwh (fun K s => jC_slotOf_L2 b a1 K Φ M (s)) 0
def jC_hasArrow_L2 (b : Nat) (a1 a2 : Int) (K2 : Int → Prop) (Φ : Int → Prop) (M : zM) (x3 : Int) : Prop :=
  
    ((M b 6) ≤ x3 → Φ 0) ∧
    (¬ ((M b 6) ≤ x3) → 0 ≤ x3 ∧ x3 < 40 ∧ 
      (¬ (M (b + 6) x3) = a1 → i32 (x3 + 1) ∧ ∀ v3_2 : Int, v3_2 = x3 + 1 → K2 v3_2) ∧
      ((M (b + 6) x3) = a1 → 0 ≤ x3 ∧ x3 < 40 ∧ 
        (¬ (M (b + 7) x3) = a2 → i32 (x3 + 1) ∧ ∀ v3_4 : Int, v3_4 = x3 + 1 → K2 v3_4) ∧
        ((M (b + 7) x3) = a2 → Φ 1)))
def jC_hasArrow (b : Nat) (a1 a2 : Int) (M : zM) (Φ : Int → Prop) : Prop :=
  zwh (fun K s => jC_hasArrow_L2 b a1 a2 K Φ M (s)) 0
def jC_leadsOn_J79 (b : Nat) (a1 a2 : Int) (Φ : Int → Prop) (x3 : Int) (M : zM) : Prop :=
  
    (¬ (zand (zshr x3 a2) 1) = 1 → Φ 0) ∧
    ((zand (zshr x3 a2) 1) = 1 → Φ 1)
def jC_leadsOn_L22 (b : Nat) (a1 a2 : Int) (K7 : (Int × Int) → Prop) (K22 : (Int × Int) → Prop) (Φ : Int → Prop) (x4 x5 : Int) (M : zM) (x3 x6 : Int) : Prop :=
  
    ((M b 6) ≤ x6 → 
      (¬ x3 = x5 → i32 (x4 + 1) ∧ ∀ v4_3 : Int, v4_3 = x4 + 1 → K7 (x3, v4_3)) ∧
      (x3 = x5 → jC_leadsOn_J79 b a1 a2 Φ x3 M)) ∧
    (¬ ((M b 6) ≤ x6) → 0 ≤ x6 ∧ x6 < 40 ∧ 
      (¬ (zand (zshr x3 (M (b + 6) x6)) 1) = 1 → i32 (x6 + 1) ∧ ∀ v6_6 : Int, v6_6 = x6 + 1 → K22 (x3, v6_6)) ∧
      ((zand (zshr x3 (M (b + 6) x6)) 1) = 1 → 0 ≤ x6 ∧ x6 < 40 ∧ ∀ v3_8 : Int, v3_8 = (zor x3 (zshl 1 (M (b + 7) x6))) → 
        i32 (x6 + 1) ∧ ∀ v6_9 : Int, v6_9 = x6 + 1 → K22 (v3_8, v6_9)))
def jC_leadsOn_L7 (b : Nat) (a1 a2 : Int) (K7 : (Int × Int) → Prop) (Φ : Int → Prop) (M : zM) (x3 x4 : Int) : Prop :=
  
    ((M b 0) ≤ x4 → jC_leadsOn_J79 b a1 a2 Φ x3 M) ∧
    (¬ ((M b 0) ≤ x4) → zwh (fun K s => jC_leadsOn_L22 b a1 a2 K7 K Φ x4 x3 M (s.1) (s.2)) (x3, 0))
def jC_leadsOn (b : Nat) (a1 a2 : Int) (M : zM) (Φ : Int → Prop) : Prop :=
  ∀ v3_1 : Int, v3_1 = (zshl 1 a1) → 
    zwh (fun K s => jC_leadsOn_L7 b a1 a2 K Φ M (s.1) (s.2)) (v3_1, 0)
def jC_addArrow (b : Nat) (a1 a2 : Int) (M : zM) (Φ : Int → zM → Prop) : Prop :=
  
    jC_slotOf b a1 M (fun r1 => 
      jC_slotOf b a2 M (fun r3 => 
        (r1 < 0 → Φ (-1) M) ∧
        (¬ (r1 < 0) → 
          (0 ≤ r3 → 
            (r1 = r3 → Φ (-4) M) ∧
            (¬ (r1 = r3) → 
              jC_hasArrow b r1 r3 M (fun r5 => 
                (¬ r5 = 0 → Φ (-4) M) ∧
                (r5 = 0 → 
                  jC_leadsOn b r3 r1 M (fun r7 => 
                    (r7 = 0 → 
                      (40 ≤ (M b 6) → Φ (-3) M) ∧
                      (¬ (40 ≤ (M b 6)) → 
                        ((M b 7) < 200 → 0 ≤ (M b 6) ∧ (M b 6) < 40 ∧ ∀ M10 : zM, M10 = zup M (b + 5) (M b 6) (M b 7) → 
                          0 ≤ (M10 b 6) ∧ (M10 b 6) < 40 ∧ ∀ M12 : zM, M12 = zup M10 (b + 6) (M10 b 6) r1 → 
                          0 ≤ (M12 b 6) ∧ (M12 b 6) < 40 ∧ ∀ M14 : zM, M14 = zup M12 (b + 7) (M12 b 6) r3 → 
                          i32 ((M14 b 6) + 1) ∧ ∀ M16 : zM, M16 = zup M14 b 6 ((M14 b 6) + 1) → 
                          i32 ((M16 b 7) + 1) ∧ ∀ M18 : zM, M18 = zup M16 b 7 ((M16 b 7) + 1) → 
                          i32 ((M18 b 7) - 1) ∧ Φ ((M18 b 7) - 1) M18) ∧
                        (¬ ((M b 7) < 200) → Φ (-3) M))) ∧
                    (¬ (r7 = 0) → Φ (-4) M)))))) ∧
          (¬ (0 ≤ r3) → Φ (-1) M))))
def jB_arrow (a1 a2 : Int) (M : zM) (Φ : Int → zM → Prop) : Prop :=
  
    jC_copyFrom 10 0 M (fun M1 => 
      jC_addArrow 10 a1 a2 M1 (fun r2 M3 => 
        jB_settle r2 M3 (fun r4 M5 => Φ r4 M5)))
def jC_dropArrow_L12 (b : Nat) (a1 : Int) (K12 : (Int × zM) → Prop) (Φ : zM → Prop) (x2 : Int) (M : zM) : Prop :=
  
    ((M b 6) ≤ x2 → Φ M) ∧
    (¬ ((M b 6) ≤ x2) → i32 (x2 + 1) ∧ 0 ≤ (x2 + 1) ∧ (x2 + 1) < 40 ∧ 0 ≤ x2 ∧ x2 < 40 ∧ ∀ M6 : zM, M6 = zup M (b + 5) x2 (M (b + 5) (x2 + 1)) → 
      i32 (x2 + 1) ∧ 0 ≤ (x2 + 1) ∧ (x2 + 1) < 40 ∧ 0 ≤ x2 ∧ x2 < 40 ∧ ∀ M10 : zM, M10 = zup M6 (b + 6) x2 (M6 (b + 6) (x2 + 1)) → 
      i32 (x2 + 1) ∧ 0 ≤ (x2 + 1) ∧ (x2 + 1) < 40 ∧ 0 ≤ x2 ∧ x2 < 40 ∧ ∀ M14 : zM, M14 = zup M10 (b + 7) x2 (M10 (b + 7) (x2 + 1)) → 
      i32 (x2 + 1) ∧ ∀ v2_15 : Int, v2_15 = x2 + 1 → K12 (v2_15, M14))
def jC_dropArrow (b : Nat) (a1 : Int) (M : zM) (Φ : zM → Prop) : Prop :=
  i32 ((M b 6) - 1) ∧ ∀ M2 : zM, M2 = zup M b 6 ((M b 6) - 1) → 
    zwh (fun K s => jC_dropArrow_L12 b a1 K Φ (s.1) (s.2)) (a1, M2)
def jC_dropBar_J185 (b : Nat) (a1 : Int) (K131 : (Int × zM) → Prop) (Φ : Int → zM → Prop) (x2 x3 s1 s2 s3 : Int) (M : zM) : Prop :=
  i32 (s2 - s3) ∧ 0 ≤ s1 ∧ s1 < 40 ∧ ∀ M14 : zM, M14 = zup M (b + 7) s1 (s2 - s3) → 
    i32 (x3 + 1) ∧ ∀ v3_15 : Int, v3_15 = x3 + 1 → K131 (v3_15, M14)
def jC_dropBar_J161 (b : Nat) (a1 : Int) (K131 : (Int × zM) → Prop) (Φ : Int → zM → Prop) (x2 x3 s1 s2 s3 : Int) (M : zM) : Prop :=
  i32 (s2 - s3) ∧ 0 ≤ s1 ∧ s1 < 40 ∧ ∀ M9 : zM, M9 = zup M (b + 6) s1 (s2 - s3) → 
    0 ≤ x3 ∧ x3 < 40 ∧ 0 ≤ x3 ∧ x3 < 40 ∧ 
    ((M9 (b + 7) x3) ≤ a1 → jC_dropBar_J185 b a1 K131 Φ x2 x3 x3 (M9 (b + 7) x3) 0 M9) ∧
    (¬ ((M9 (b + 7) x3) ≤ a1) → jC_dropBar_J185 b a1 K131 Φ x2 x3 x3 (M9 (b + 7) x3) 1 M9)
def jC_dropBar_L131 (b : Nat) (a1 : Int) (K131 : (Int × zM) → Prop) (Φ : Int → zM → Prop) (x2 : Int) (x3 : Int) (M : zM) : Prop :=
  
    ((M b 6) ≤ x3 → Φ x2 M) ∧
    (¬ ((M b 6) ≤ x3) → 0 ≤ x3 ∧ x3 < 40 ∧ 0 ≤ x3 ∧ x3 < 40 ∧ 
      ((M (b + 6) x3) ≤ a1 → jC_dropBar_J161 b a1 K131 Φ x2 x3 x3 (M (b + 6) x3) 0 M) ∧
      (¬ ((M (b + 6) x3) ≤ a1) → jC_dropBar_J161 b a1 K131 Φ x2 x3 x3 (M (b + 6) x3) 1 M))
def jC_dropBar_L59 (b : Nat) (a1 : Int) (K59 : (Int × zM) → Prop) (Φ : Int → zM → Prop) (x2 : Int) (x3 : Int) (M : zM) : Prop :=
  
    ((M b 0) ≤ x3 → zwh (fun K s => jC_dropBar_L131 b a1 K Φ x2 (s.1) (s.2)) (0, M)) ∧
    (¬ ((M b 0) ≤ x3) → i32 (x3 + 1) ∧ 0 ≤ (x3 + 1) ∧ (x3 + 1) < 30 ∧ 0 ≤ x3 ∧ x3 < 30 ∧ ∀ M22 : zM, M22 = zup M (b + 1) x3 (M (b + 1) (x3 + 1)) → 
      i32 (x3 + 1) ∧ 0 ≤ (x3 + 1) ∧ (x3 + 1) < 30 ∧ 0 ≤ x3 ∧ x3 < 30 ∧ ∀ M26 : zM, M26 = zup M22 (b + 2) x3 (M22 (b + 2) (x3 + 1)) → 
      i32 (x3 + 1) ∧ 0 ≤ (x3 + 1) ∧ (x3 + 1) < 30 ∧ 0 ≤ x3 ∧ x3 < 30 ∧ ∀ M30 : zM, M30 = zup M26 (b + 3) x3 (M26 (b + 3) (x3 + 1)) → 
      i32 (x3 + 1) ∧ 0 ≤ (x3 + 1) ∧ (x3 + 1) < 30 ∧ 0 ≤ x3 ∧ x3 < 30 ∧ ∀ M34 : zM, M34 = zup M30 (b + 4) x3 (M30 (b + 4) (x3 + 1)) → 
      i32 (x3 + 1) ∧ ∀ v3_35 : Int, v3_35 = x3 + 1 → K59 (v3_35, M34))
def jC_dropBar_J33 (b : Nat) (a1 : Int) (K9 : (Int × Int × zM) → Prop) (Φ : Int → zM → Prop) (x2 x3 : Int) (M : zM) : Prop :=
  
    jC_dropArrow b x3 M (fun M38 => i32 (x2 + 1) ∧ ∀ v2_39 : Int, v2_39 = x2 + 1 → i32 (x3 + (-1)) ∧ ∀ v3_40 : Int, v3_40 = x3 + (-1) → K9 (v2_39, v3_40, M38))
def jC_dropBar_L9 (b : Nat) (a1 : Int) (K9 : (Int × Int × zM) → Prop) (Φ : Int → zM → Prop) (x2 x3 : Int) (M : zM) : Prop :=
  
    (x3 < 0 → i32 ((M b 0) - 1) ∧ ∀ M4 : zM, M4 = zup M b 0 ((M b 0) - 1) → 
      zwh (fun K s => jC_dropBar_L59 b a1 K Φ x2 (s.1) (s.2)) (a1, M4)) ∧
    (¬ (x3 < 0) → 0 ≤ x3 ∧ x3 < 40 ∧ 
      ((M (b + 6) x3) = a1 → jC_dropBar_J33 b a1 K9 Φ x2 x3 M) ∧
      (¬ ((M (b + 6) x3) = a1) → 0 ≤ x3 ∧ x3 < 40 ∧ 
        (¬ (M (b + 7) x3) = a1 → i32 (x3 + (-1)) ∧ ∀ v3_42 : Int, v3_42 = x3 + (-1) → K9 (x2, v3_42, M)) ∧
        ((M (b + 7) x3) = a1 → jC_dropBar_J33 b a1 K9 Φ x2 x3 M)))
def jC_dropBar (b : Nat) (a1 : Int) (M : zM) (Φ : Int → zM → Prop) : Prop :=
  i32 ((M b 6) - 1) ∧ ∀ v3_2 : Int, v3_2 = ((M b 6) - 1) → 
    zwh (fun K s => jC_dropBar_L9 b a1 K Φ (s.1) (s.2.1) (s.2.2)) (0, v3_2, M)
def jB_takeBar (a1 : Int) (M : zM) (Φ : Int → zM → Prop) : Prop :=
  
    jC_slotOf 0 a1 M (fun r1 => 
      (0 ≤ r1 → 
        jC_copyFrom 10 0 M (fun M3 => 
          jC_dropBar 10 r1 M3 (fun r4 M5 => 
            jB_settle r4 M5 (fun r6 M7 => Φ r6 M7)))) ∧
      (¬ (0 ≤ r1) → Φ (-1) M))
def jC_arrowSlotOf_L2 (b : Nat) (a1 : Int) (K2 : Int → Prop) (Φ : Int → Prop) (M : zM) (x2 : Int) : Prop :=
  
    ((M b 6) ≤ x2 → Φ (-1)) ∧
    (¬ ((M b 6) ≤ x2) → 0 ≤ x2 ∧ x2 < 40 ∧ 
      (¬ (M (b + 5) x2) = a1 → i32 (x2 + 1) ∧ ∀ v2_2 : Int, v2_2 = x2 + 1 → K2 v2_2) ∧
      ((M (b + 5) x2) = a1 → Φ x2))
def jC_arrowSlotOf (b : Nat) (a1 : Int) (M : zM) (Φ : Int → Prop) : Prop :=
  zwh (fun K s => jC_arrowSlotOf_L2 b a1 K Φ M (s)) 0
def jB_takeArrow (a1 : Int) (M : zM) (Φ : Int → zM → Prop) : Prop :=
  
    jC_arrowSlotOf 0 a1 M (fun r1 => 
      (0 ≤ r1 → 
        jC_copyFrom 10 0 M (fun M3 => 0 ≤ r1 ∧ r1 < 40 ∧ 0 ≤ (M3 17 r1) ∧ (M3 17 r1) < 30 ∧ ∀ v3_6 : Int, v3_6 = (M3 11 (M3 17 r1)) → 
          
          jC_dropArrow 10 r1 M3 (fun M7 => 
            jB_settle v3_6 M7 (fun r8 M9 => Φ r8 M9)))) ∧
      (¬ (0 ≤ r1) → Φ (-1) M))
def jD_readBars_L40 (c1 : Nat) (K10 : (Int × zM) → Prop) (K40 : (Int × zM) → Prop) (Φ : zM → Prop) (x2 x3 : Int) (x4 : Int) (M : zM) : Prop :=
  
    (x3 ≤ x4 → i32 (x2 + 1) ∧ ∀ v2_9 : Int, v2_9 = x2 + 1 → K10 (v2_9, M)) ∧
    (¬ (x3 ≤ x4) → 0 ≤ x4 ∧ x4 < 200 ∧ 0 ≤ x2 ∧ x2 < 30 ∧ 0 ≤ x4 ∧ x4 < 200 ∧ ∀ M13 : zM, M13 = zup M 84 x4 (zor (M 84 x4) (zshl 1 (M (c1 + 2) x2))) → 
      i32 (x4 + 1) ∧ ∀ v4_14 : Int, v4_14 = x4 + 1 → K40 (v4_14, M13))
def jD_readBars_L10 (c1 : Nat) (K10 : (Int × zM) → Prop) (Φ : zM → Prop) (x2 : Int) (M : zM) : Prop :=
  
    ((M c1 0) ≤ x2 → Φ M) ∧
    (¬ ((M c1 0) ≤ x2) → 
      jC_endOf c1 x2 M (fun r2 => ∀ v3_5 : Int, v3_5 = (min 200 r2) → 
        0 ≤ x2 ∧ x2 < 30 ∧ i32 ((M (c1 + 3) x2) + 1) ∧ ∀ v4_8 : Int, v4_8 = ((M (c1 + 3) x2) + 1) → 
        zwh (fun K s => jD_readBars_L40 c1 K10 K Φ x2 v3_5 (s.1) (s.2)) (v4_8, M)))
def jD_readBars (c1 : Nat) (M : zM) (Φ : zM → Prop) : Prop :=
  ∀ M1 : zM, M1 = zfl M 84 200 0 → 
    zwh (fun K s => jD_readBars_L10 c1 K Φ (s.1) (s.2)) (0, M1)
def jD_lanesBetween (c1 : Nat) (a2 : Int) (M : zM) (Φ : Int → Prop) : Prop :=
  0 ≤ a2 ∧ a2 < 40 ∧ 0 ≤ (M (c1 + 6) a2) ∧ (M (c1 + 6) a2) < 30 ∧ ∀ v3_3 : Int, v3_3 = (M (c1 + 2) (M (c1 + 6) a2)) → 
    0 ≤ a2 ∧ a2 < 40 ∧ 0 ≤ (M (c1 + 7) a2) ∧ (M (c1 + 7) a2) < 30 ∧ ∀ v4_6 : Int, v4_6 = (M (c1 + 2) (M (c1 + 7) a2)) → 
    i32 ((zshl 2 (min v3_3 v4_6)) - 1) ∧ ∀ v5_9 : Int, v5_9 = ((zshl 2 (min v3_3 v4_6)) - 1) → 
    i32 ((zshl 1 (max v3_3 v4_6)) - 1) ∧ ∀ v6_12 : Int, v6_12 = ((zshl 1 (max v3_3 v4_6)) - 1) → 
    Φ (zand v6_12 (zxor v5_9 (-1)))
def jD_highest_L23 (c1 : Nat) (a2 : Int) (K23 : (Int × Int) → Prop) (Φ : Int → Prop) (x3 : Int) (M : zM) (x4 x5 : Int) : Prop :=
  
    ((M c1 0) ≤ x5 → Φ x4) ∧
    (¬ ((M c1 0) ≤ x5) → 0 ≤ x5 ∧ x5 < 30 ∧ 0 ≤ x3 ∧ x3 < 30 ∧ 
      (¬ (M (c1 + 2) x5) = (M (c1 + 2) x3) → i32 (x5 + 1) ∧ ∀ v5_8 : Int, v5_8 = x5 + 1 → K23 (x4, v5_8)) ∧
      ((M (c1 + 2) x5) = (M (c1 + 2) x3) → 0 ≤ x5 ∧ x5 < 30 ∧ 0 ≤ x3 ∧ x3 < 30 ∧ 
        ((M (c1 + 3) x5) ≤ (M (c1 + 3) x3) → i32 (x5 + 1) ∧ ∀ v5_11 : Int, v5_11 = x5 + 1 → K23 (x4, v5_11)) ∧
        (¬ ((M (c1 + 3) x5) ≤ (M (c1 + 3) x3)) → 0 ≤ x5 ∧ x5 < 30 ∧ ∀ v4_14 : Int, v4_14 = (min x4 (M (c1 + 3) x5)) → 
          i32 (x5 + 1) ∧ ∀ v5_15 : Int, v5_15 = x5 + 1 → K23 (v4_14, v5_15))))
def jD_highest (c1 : Nat) (a2 : Int) (M : zM) (Φ : Int → Prop) : Prop :=
  0 ≤ a2 ∧ a2 < 40 ∧ ∀ v3_2 : Int, v3_2 = (M (c1 + 6) a2) → 
    0 ≤ a2 ∧ a2 < 40 ∧ 0 ≤ (M (c1 + 7) a2) ∧ (M (c1 + 7) a2) < 30 ∧ ∀ v4_5 : Int, v4_5 = (M (c1 + 3) (M (c1 + 7) a2)) → 
    zwh (fun K s => jD_highest_L23 c1 a2 K Φ v3_2 M (s.1) (s.2)) (v4_5, 0)
def jD_lowest_L22 (c1 : Nat) (a2 : Int) (K22 : (Int × Int) → Prop) (Φ : Int → Prop) (x3 : Int) (M : zM) (x4 x5 : Int) : Prop :=
  
    ((M c1 0) ≤ x5 → Φ x4) ∧
    (¬ ((M c1 0) ≤ x5) → 0 ≤ x5 ∧ x5 < 30 ∧ 0 ≤ x3 ∧ x3 < 30 ∧ 
      (¬ (M (c1 + 2) x5) = (M (c1 + 2) x3) → i32 (x5 + 1) ∧ ∀ v5_8 : Int, v5_8 = x5 + 1 → K22 (x4, v5_8)) ∧
      ((M (c1 + 2) x5) = (M (c1 + 2) x3) → 0 ≤ x5 ∧ x5 < 30 ∧ 0 ≤ x3 ∧ x3 < 30 ∧ 
        ((M (c1 + 3) x3) ≤ (M (c1 + 3) x5) → i32 (x5 + 1) ∧ ∀ v5_11 : Int, v5_11 = x5 + 1 → K22 (x4, v5_11)) ∧
        (¬ ((M (c1 + 3) x3) ≤ (M (c1 + 3) x5)) → 
          jC_endOf c1 x5 M (fun r12 => ∀ v4_15 : Int, v4_15 = (max x4 r12) → 
            i32 (x5 + 1) ∧ ∀ v5_16 : Int, v5_16 = x5 + 1 → K22 (v4_15, v5_16)))))
def jD_lowest (c1 : Nat) (a2 : Int) (M : zM) (Φ : Int → Prop) : Prop :=
  0 ≤ a2 ∧ a2 < 40 ∧ ∀ v3_2 : Int, v3_2 = (M (c1 + 7) a2) → 
    0 ≤ a2 ∧ a2 < 40 ∧ 
    jC_endOf c1 (M (c1 + 6) a2) M (fun r4 => zwh (fun K s => jD_lowest_L22 c1 a2 K Φ v3_2 M (s.1) (s.2)) (r4, 0))
def jD_choose_L59 (c1 : Nat) (a2 : Int) (K59 : (Int × Int) → Prop) (Φ : Int → Prop) (x3 x4 x5 x6 : Int) (M : zM) (x7 x8 : Int) : Prop :=
  
    (x6 < x8 → Φ x7) ∧
    (¬ (x6 < x8) → 0 ≤ x8 ∧ x8 < 200 ∧ 
      ((zand (M 84 x8) x5) = 0 → 
        (¬ x3 = 0 → 
          (x7 = (-5) → i32 (x8 + 1) ∧ ∀ v8_16 : Int, v8_16 = x8 + 1 → K59 (x8, v8_16)) ∧
          (¬ (x7 = (-5)) → 
            (x3 = 1 → i32 (x8 + 1) ∧ ∀ v8_17 : Int, v8_17 = x8 + 1 → K59 (x8, v8_17)) ∧
            (¬ (x3 = 1) → i32 (2 * x8) ∧ i32 ((2 * x8) - x4) ∧ i32 (zabs ((2 * x8) - x4)) ∧ i32 (2 * x7) ∧ i32 ((2 * x7) - x4) ∧ i32 (zabs ((2 * x7) - x4)) ∧ 
              ((zabs ((2 * x7) - x4)) ≤ (zabs ((2 * x8) - x4)) → i32 (x8 + 1) ∧ ∀ v8_24 : Int, v8_24 = x8 + 1 → K59 (x7, v8_24)) ∧
              (¬ ((zabs ((2 * x7) - x4)) ≤ (zabs ((2 * x8) - x4))) → i32 (x8 + 1) ∧ ∀ v8_25 : Int, v8_25 = x8 + 1 → K59 (x8, v8_25))))) ∧
        (x3 = 0 → Φ x8)) ∧
      (¬ ((zand (M 84 x8) x5) = 0) → i32 (x8 + 1) ∧ ∀ v8_30 : Int, v8_30 = x8 + 1 → K59 (x7, v8_30)))
def jD_choose (c1 : Nat) (a2 : Int) (M : zM) (Φ : Int → Prop) : Prop :=
  ∀ v3_1 : Int, v3_1 = (M (c1 + 9) 0) → 
    0 ≤ a2 ∧ a2 < 40 ∧ 
    jC_endOf c1 (M (c1 + 6) a2) M (fun r3 => 0 ≤ a2 ∧ a2 < 40 ∧ 0 ≤ (M (c1 + 7) a2) ∧ (M (c1 + 7) a2) < 30 ∧ i32 (r3 + (M (c1 + 3) (M (c1 + 7) a2))) ∧ ∀ v4_8 : Int, v4_8 = (r3 + (M (c1 + 3) (M (c1 + 7) a2))) → 
      
      jD_lanesBetween c1 a2 M (fun r9 => 
        jD_highest c1 a2 M (fun r11 => 
          jD_lowest c1 a2 M (fun r13 => zwh (fun K s => jD_choose_L59 c1 a2 K Φ v3_1 v4_8 r9 r11 M (s.1) (s.2)) ((-5), r13)))))
def jD_draw_J53 (c1 : Nat) (K12 : (Int × zM) → Prop) (Φ : zM → Prop) (x2 s1 s2 : Int) (M : zM) : Prop :=
  i32 (s1 + s2) ∧ ∀ M9 : zM, M9 = zup M 82 1 (s1 + s2) → 
    i32 (x2 + 1) ∧ ∀ v2_10 : Int, v2_10 = x2 + 1 → K12 (v2_10, M9)
def jD_draw_L12 (c1 : Nat) (K12 : (Int × zM) → Prop) (Φ : zM → Prop) (x2 : Int) (M : zM) : Prop :=
  
    ((M c1 6) ≤ x2 → Φ M) ∧
    (¬ ((M c1 6) ≤ x2) → 
      jD_choose c1 x2 M (fun r3 => 0 ≤ x2 ∧ x2 < 40 ∧ ∀ M6 : zM, M6 = zup M 83 x2 r3 → 
        0 ≤ x2 ∧ x2 < 40 ∧ 
        (¬ (M6 83 x2) = (-5) → jD_draw_J53 c1 K12 Φ x2 (M6 82 1) 0 M6) ∧
        ((M6 83 x2) = (-5) → jD_draw_J53 c1 K12 Φ x2 (M6 82 1) 1 M6)))
def jD_draw (c1 : Nat) (M : zM) (Φ : zM → Prop) : Prop :=
  
    jD_readBars c1 M (fun M1 => ∀ M2 : zM, M2 = zup M1 82 1 0 → 
      zwh (fun K s => jD_draw_L12 c1 K Φ (s.1) (s.2)) (0, M2))
def jB_move_J83 (a1 a2 a3 : Int) (Φ : Int → zM → Prop) (x4 : Int) (M : zM) : Prop :=
  0 ≤ x4 ∧ x4 < 30 ∧ 
    jC_hasRoom 0 a2 a3 (M 4 x4) x4 M (fun r11 => 
      (¬ r11 = 0 → 
        jC_copyFrom 10 0 M (fun M13 => 0 ≤ x4 ∧ x4 < 30 ∧ ∀ M15 : zM, M15 = zup M13 12 x4 a2 → 
          0 ≤ x4 ∧ x4 < 30 ∧ ∀ M17 : zM, M17 = zup M15 13 x4 a3 → 
          
          jD_draw 10 M17 (fun M18 => 
            jB_settle (M18 82 1) M18 (fun r19 M20 => Φ r19 M20)))) ∧
      (r11 = 0 → Φ (-4) M))
def jB_move (a1 a2 a3 : Int) (M : zM) (Φ : Int → zM → Prop) : Prop :=
  
    jC_slotOf 0 a1 M (fun r1 => 
      (r1 < 0 → Φ (-1) M) ∧
      (¬ (r1 < 0) → 
        jB_isLane a2 M (fun r3 => 
          (¬ r3 = 0 → 
            jB_isDay a3 M (fun r5 => 
              (r5 = 0 → Φ (-2) M) ∧
              (¬ (r5 = 0) → 0 ≤ r1 ∧ r1 < 30 ∧ i32 (a3 + (M 4 r1)) ∧ 
                ((a3 + (M 4 r1)) ≤ 200 → 0 ≤ r1 ∧ r1 < 30 ∧ 
                  (¬ (M 2 r1) = a2 → jB_move_J83 a1 a2 a3 Φ r1 M) ∧
                  ((M 2 r1) = a2 → 0 ≤ r1 ∧ r1 < 30 ∧ 
                    (¬ (M 3 r1) = a3 → jB_move_J83 a1 a2 a3 Φ r1 M) ∧
                    ((M 3 r1) = a3 → Φ (-5) M))) ∧
                (¬ ((a3 + (M 4 r1)) ≤ 200) → Φ (-2) M)))) ∧
          (r3 = 0 → Φ (-1) M))))
def jC_hasBars_L2 (b : Nat) (a1 : Int) (K2 : Int → Prop) (Φ : Int → Prop) (M : zM) (x2 : Int) : Prop :=
  
    ((M b 0) ≤ x2 → Φ 0) ∧
    (¬ ((M b 0) ≤ x2) → 0 ≤ x2 ∧ x2 < 30 ∧ 
      (¬ (M (b + 2) x2) = a1 → i32 (x2 + 1) ∧ ∀ v2_2 : Int, v2_2 = x2 + 1 → K2 v2_2) ∧
      ((M (b + 2) x2) = a1 → Φ 1))
def jC_hasBars (b : Nat) (a1 : Int) (M : zM) (Φ : Int → Prop) : Prop :=
  zwh (fun K s => jC_hasBars_L2 b a1 K Φ M (s)) 0
def jC_exchangeLanes_L2 (b : Nat) (a1 a2 : Int) (K2 : (Int × zM) → Prop) (Φ : zM → Prop) (x3 : Int) (M : zM) : Prop :=
  
    ((M b 0) ≤ x3 → Φ M) ∧
    (¬ ((M b 0) ≤ x3) → 0 ≤ x3 ∧ x3 < 30 ∧ 
      (¬ (M (b + 2) x3) = a1 → 0 ≤ x3 ∧ x3 < 30 ∧ 
        (¬ (M (b + 2) x3) = a2 → i32 (x3 + 1) ∧ ∀ v3_3 : Int, v3_3 = x3 + 1 → K2 (v3_3, M)) ∧
        ((M (b + 2) x3) = a2 → 0 ≤ x3 ∧ x3 < 30 ∧ ∀ M5 : zM, M5 = zup M (b + 2) x3 a1 → 
          i32 (x3 + 1) ∧ ∀ v3_6 : Int, v3_6 = x3 + 1 → K2 (v3_6, M5))) ∧
      ((M (b + 2) x3) = a1 → 0 ≤ x3 ∧ x3 < 30 ∧ ∀ M9 : zM, M9 = zup M (b + 2) x3 a2 → 
        i32 (x3 + 1) ∧ ∀ v3_10 : Int, v3_10 = x3 + 1 → K2 (v3_10, M9)))
def jC_exchangeLanes (b : Nat) (a1 a2 : Int) (M : zM) (Φ : zM → Prop) : Prop :=
  zwh (fun K s => jC_exchangeLanes_L2 b a1 a2 K Φ (s.1) (s.2)) (0, M)
def jB_swap_J46 (a1 a2 : Int) (Φ : Int → zM → Prop) (M : zM) : Prop :=
  
    jC_copyFrom 10 0 M (fun M7 => 
      jC_exchangeLanes 10 a1 a2 M7 (fun M8 => 
        jD_draw 10 M8 (fun M9 => 
          jB_settle (M9 82 1) M9 (fun r10 M11 => Φ r10 M11))))
def jB_swap (a1 a2 : Int) (M : zM) (Φ : Int → zM → Prop) : Prop :=
  
    jB_isLane a1 M (fun r1 => 
      (r1 = 0 → Φ (-1) M) ∧
      (¬ (r1 = 0) → 
        jB_isLane a2 M (fun r3 => 
          (¬ r3 = 0 → 
            (a1 = a2 → Φ (-5) M) ∧
            (¬ (a1 = a2) → 
              jC_hasBars 0 a1 M (fun r5 => 
                (¬ r5 = 0 → jB_swap_J46 a1 a2 Φ M) ∧
                (r5 = 0 → 
                  jC_hasBars 0 a2 M (fun r12 => 
                    (¬ r12 = 0 → jB_swap_J46 a1 a2 Φ M) ∧
                    (r12 = 0 → Φ (-5) M)))))) ∧
          (r3 = 0 → Φ (-1) M))))
def jP_sortByFirstDays_J58 (c1 : Nat) (K2 : (Int × zM) → Prop) (Φ : zM → Prop) (x2 x3 : Int) (M : zM) : Prop :=
  0 ≤ x3 ∧ x3 < 30 ∧ ∀ M2 : zM, M2 = zup M 79 x3 x2 → 
    i32 (x2 + 1) ∧ ∀ v2_3 : Int, v2_3 = x2 + 1 → K2 (v2_3, M2)
def jP_sortByFirstDays_L12 (c1 : Nat) (K2 : (Int × zM) → Prop) (K12 : (Int × zM) → Prop) (Φ : zM → Prop) (x2 : Int) (x3 : Int) (M : zM) : Prop :=
  
    (x3 ≤ 0 → jP_sortByFirstDays_J58 c1 K2 Φ x2 x3 M) ∧
    (¬ (x3 ≤ 0) → i32 (x3 - 1) ∧ 0 ≤ (x3 - 1) ∧ (x3 - 1) < 30 ∧ 0 ≤ (M 79 (x3 - 1)) ∧ (M 79 (x3 - 1)) < 30 ∧ 0 ≤ x2 ∧ x2 < 30 ∧ 
      ((M (c1 + 3) (M 79 (x3 - 1))) ≤ (M (c1 + 3) x2) → jP_sortByFirstDays_J58 c1 K2 Φ x2 x3 M) ∧
      (¬ ((M (c1 + 3) (M 79 (x3 - 1))) ≤ (M (c1 + 3) x2)) → i32 (x3 - 1) ∧ 0 ≤ (x3 - 1) ∧ (x3 - 1) < 30 ∧ 0 ≤ x3 ∧ x3 < 30 ∧ ∀ M11 : zM, M11 = zup M 79 x3 (M 79 (x3 - 1)) → 
        i32 (x3 + (-1)) ∧ ∀ v3_12 : Int, v3_12 = x3 + (-1) → K12 (v3_12, M11)))
def jP_sortByFirstDays_L2 (c1 : Nat) (K2 : (Int × zM) → Prop) (Φ : zM → Prop) (x2 : Int) (M : zM) : Prop :=
  
    ((M c1 0) ≤ x2 → Φ M) ∧
    (¬ ((M c1 0) ≤ x2) → zwh (fun K s => jP_sortByFirstDays_L12 c1 K2 K Φ x2 (s.1) (s.2)) (x2, M))
def jP_sortByFirstDays (c1 : Nat) (M : zM) (Φ : zM → Prop) : Prop :=
  zwh (fun K s => jP_sortByFirstDays_L2 c1 K Φ (s.1) (s.2)) (0, M)
def jC_isTaken_L8 (b : Nat) (a2 a3 : Int) (K8 : Int → Prop) (Φ : Int → Prop) (x4 : Int) (M : zM) (x5 : Int) : Prop :=
  
    (a2 ≤ x5 → Φ 0) ∧
    (¬ (a2 ≤ x5) → 0 ≤ x5 ∧ x5 < 30 ∧ ∀ v6_4 : Int, v6_4 = (M 79 x5) → 
      0 ≤ v6_4 ∧ v6_4 < 30 ∧ 
      (¬ (M (b + 2) v6_4) = a3 → i32 (x5 + 1) ∧ ∀ v5_6 : Int, v5_6 = x5 + 1 → K8 v5_6) ∧
      ((M (b + 2) v6_4) = a3 → 0 ≤ x4 ∧ x4 < 30 ∧ 
        jC_endOf b x4 M (fun r8 => 
          jC_sharesDays b v6_4 (M (b + 3) x4) r8 M (fun r10 => 
            (r10 = 0 → i32 (x5 + 1) ∧ ∀ v5_12 : Int, v5_12 = x5 + 1 → K8 v5_12) ∧
            (¬ (r10 = 0) → Φ 1)))))
def jC_isTaken (b : Nat) (a2 a3 : Int) (M : zM) (Φ : Int → Prop) : Prop :=
  0 ≤ a2 ∧ a2 < 30 ∧ ∀ v4_2 : Int, v4_2 = (M 79 a2) → 
    zwh (fun K s => jC_isTaken_L8 b a2 a3 K Φ v4_2 M (s)) 0
def jC_lowestLane_L2 (b : Nat) (a2 : Int) (K2 : Int → Prop) (Φ : Int → Prop) (M : zM) (x3 : Int) : Prop :=
  
    (12 ≤ x3 → Φ x3) ∧
    (¬ (12 ≤ x3) → 
      jC_isTaken b a2 x3 M (fun r1 => 
        (r1 = 0 → Φ x3) ∧
        (¬ (r1 = 0) → i32 (x3 + 1) ∧ ∀ v3_3 : Int, v3_3 = x3 + 1 → K2 v3_3)))
def jC_lowestLane (b : Nat) (a2 : Int) (M : zM) (Φ : Int → Prop) : Prop :=
  zwh (fun K s => jC_lowestLane_L2 b a2 K Φ M (s)) 0
def jC_lanesWithBars_L4 (b : Nat) (K4 : (Int × Int) → Prop) (Φ : Int → Prop) (M : zM) (x1 x2 : Int) : Prop :=
  
    (12 ≤ x2 → Φ x1) ∧
    (¬ (12 ≤ x2) → 
      jC_hasBars b x2 M (fun r1 => 
        (r1 = 0 → i32 (x1 + 0) ∧ ∀ v1_4 : Int, v1_4 = (x1 + 0) → 
          i32 (x2 + 1) ∧ ∀ v2_5 : Int, v2_5 = x2 + 1 → K4 (v1_4, v2_5)) ∧
        (¬ (r1 = 0) → i32 (x1 + 1) ∧ ∀ v1_7 : Int, v1_7 = (x1 + 1) → 
          i32 (x2 + 1) ∧ ∀ v2_8 : Int, v2_8 = x2 + 1 → K4 (v1_7, v2_8))))
def jC_lanesWithBars (b : Nat) (M : zM) (Φ : Int → Prop) : Prop :=
  zwh (fun K s => jC_lanesWithBars_L4 b K Φ M (s.1) (s.2)) (0, 0)
def jC_packLanes_L4 (b : Nat) (K4 : (Int × Int × zM) → Prop) (Φ : Int → zM → Prop) (x2 x3 : Int) (M : zM) : Prop :=
  
    ((M b 0) ≤ x3 → 
      (x2 = 0 → Φ (-5) M) ∧
      (¬ (x2 = 0) → 
        jC_lanesWithBars b M (fun r1 => Φ r1 M))) ∧
    (¬ ((M b 0) ≤ x3) → 0 ≤ x3 ∧ x3 < 30 ∧ ∀ v4_5 : Int, v4_5 = (M 79 x3) → 
      
      jC_lowestLane b x3 M (fun r6 => 
        (r6 < 12 → 0 ≤ v4_5 ∧ v4_5 < 30 ∧ 
          ((M (b + 2) v4_5) = r6 → i32 (x3 + 1) ∧ ∀ v3_9 : Int, v3_9 = x3 + 1 → K4 (x2, v3_9, M)) ∧
          (¬ ((M (b + 2) v4_5) = r6) → 0 ≤ v4_5 ∧ v4_5 < 30 ∧ ∀ M11 : zM, M11 = zup M (b + 2) v4_5 r6 → 
            i32 (x3 + 1) ∧ ∀ v3_12 : Int, v3_12 = x3 + 1 → K4 (1, v3_12, M11))) ∧
        (¬ (r6 < 12) → Φ (-4) M)))
def jC_packLanes (b : Nat) (M : zM) (Φ : Int → zM → Prop) : Prop :=
  zwh (fun K s => jC_packLanes_L4 b K Φ (s.1) (s.2.1) (s.2.2)) (0, 0, M)
def jB_pack (M : zM) (Φ : Int → zM → Prop) : Prop :=
  
    jC_copyFrom 10 0 M (fun M1 => 
      jP_sortByFirstDays 10 M1 (fun M2 => 
        jC_packLanes 10 M2 (fun r3 M4 => 
          jB_settle r3 M4 (fun r5 M6 => Φ r5 M6))))
def jP_behindInLane_L5 (c1 : Nat) (a2 : Int) (K5 : (Int × Int) → Prop) (Φ : Int → Prop) (M : zM) (x3 x4 : Int) : Prop :=
  
    ((M c1 0) ≤ x4 → Φ x3) ∧
    (¬ ((M c1 0) ≤ x4) → 0 ≤ x4 ∧ x4 < 30 ∧ 0 ≤ a2 ∧ a2 < 30 ∧ 
      (¬ (M (c1 + 2) x4) = (M (c1 + 2) a2) → i32 (x4 + 1) ∧ ∀ v4_3 : Int, v4_3 = x4 + 1 → K5 (x3, v4_3)) ∧
      ((M (c1 + 2) x4) = (M (c1 + 2) a2) → 0 ≤ x4 ∧ x4 < 30 ∧ 0 ≤ a2 ∧ a2 < 30 ∧ 
        ((M (c1 + 3) x4) ≤ (M (c1 + 3) a2) → i32 (x4 + 1) ∧ ∀ v4_6 : Int, v4_6 = x4 + 1 → K5 (x3, v4_6)) ∧
        (¬ ((M (c1 + 3) x4) ≤ (M (c1 + 3) a2)) → ∀ v3_7 : Int, v3_7 = (zor x3 (zshl 1 x4)) → 
          i32 (x4 + 1) ∧ ∀ v4_8 : Int, v4_8 = x4 + 1 → K5 (v3_7, v4_8))))
def jP_behindInLane (c1 : Nat) (a2 : Int) (M : zM) (Φ : Int → Prop) : Prop :=
  zwh (fun K s => jP_behindInLane_L5 c1 a2 K Φ M (s.1) (s.2)) (0, 0)
def jC_lateBy (b : Nat) (a1 : Int) (M : zM) (Φ : Int → Prop) : Prop :=
  0 ≤ a1 ∧ a1 < 40 ∧ 
    jC_endOf b (M (b + 6) a1) M (fun r2 => 0 ≤ a1 ∧ a1 < 40 ∧ 0 ≤ (M (b + 7) a1) ∧ (M (b + 7) a1) < 30 ∧ i32 (r2 - (M (b + 3) (M (b + 7) a1))) ∧ Φ (max 0 (r2 - (M (b + 3) (M (b + 7) a1)))))
def jP_read_L35 (c1 : Nat) (K35 : (Int × zM) → Prop) (Φ : zM → Prop) (x2 : Int) (M : zM) : Prop :=
  
    ((M c1 6) ≤ x2 → Φ M) ∧
    (¬ ((M c1 6) ≤ x2) → 
      jC_lateBy c1 x2 M (fun r2 => 
        (¬ r2 = 0 → i32 (x2 + 1) ∧ ∀ v2_4 : Int, v2_4 = x2 + 1 → K35 (v2_4, M)) ∧
        (r2 = 0 → 0 ≤ x2 ∧ x2 < 40 ∧ 0 ≤ (M (c1 + 6) x2) ∧ (M (c1 + 6) x2) < 30 ∧ 0 ≤ x2 ∧ x2 < 40 ∧ 0 ≤ (M (c1 + 6) x2) ∧ (M (c1 + 6) x2) < 30 ∧ ∀ M9 : zM, M9 = zup M 80 (M (c1 + 6) x2) (zor (M 80 (M (c1 + 6) x2)) (zshl 1 (M (c1 + 7) x2))) → 
          i32 (x2 + 1) ∧ ∀ v2_10 : Int, v2_10 = x2 + 1 → K35 (v2_10, M9))))
def jP_read_L7 (c1 : Nat) (K7 : (Int × zM) → Prop) (Φ : zM → Prop) (x2 : Int) (M : zM) : Prop :=
  
    ((M c1 0) ≤ x2 → zwh (fun K s => jP_read_L35 c1 K Φ (s.1) (s.2)) (0, M)) ∧
    (¬ ((M c1 0) ≤ x2) → 
      jP_behindInLane c1 x2 M (fun r13 => 0 ≤ x2 ∧ x2 < 30 ∧ ∀ M16 : zM, M16 = zup M 80 x2 r13 → 
        i32 (x2 + 1) ∧ ∀ v2_17 : Int, v2_17 = x2 + 1 → K7 (v2_17, M16)))
def jP_read (c1 : Nat) (M : zM) (Φ : zM → Prop) : Prop :=
  
    jP_sortByFirstDays c1 M (fun M1 => zwh (fun K s => jP_read_L7 c1 K Φ (s.1) (s.2)) (0, M1))
def jP_isPushed (a1 a2 : Int) (M : zM) (Φ : Int → Prop) : Prop :=
  0 ≤ a2 ∧ a2 < 30 ∧ 
    (¬ (zand (zshr (M 80 a2) a1) 1) = 1 → Φ 0) ∧
    ((zand (zshr (M 80 a2) a1) 1) = 1 → Φ 1)
def jP_slipFrom_L53 (c1 : Nat) (a2 a3 : Int) (K6 : (Int × Int × zM) → Prop) (K53 : (Int × zM) → Prop) (Φ : Int → zM → Prop) (x4 x5 x6 : Int) (x7 : Int) (M : zM) : Prop :=
  
    (x5 ≤ x7 → 0 ≤ x6 ∧ x6 < 30 ∧ 0 ≤ x6 ∧ x6 < 30 ∧ i32 ((M 81 x6) + (M (c1 + 4) x6)) ∧ ∀ v4_11 : Int, v4_11 = (max x4 ((M 81 x6) + (M (c1 + 4) x6))) → 
      i32 (x5 + 1) ∧ ∀ v5_12 : Int, v5_12 = x5 + 1 → K6 (v4_11, v5_12, M)) ∧
    (¬ (x5 ≤ x7) → 0 ≤ x7 ∧ x7 < 30 ∧ ∀ v8_14 : Int, v8_14 = (M 79 x7) → 
      
      jP_isPushed x6 v8_14 M (fun r15 => 
        (r15 = 0 → i32 (x7 + 1) ∧ ∀ v7_17 : Int, v7_17 = x7 + 1 → K53 (v7_17, M)) ∧
        (¬ (r15 = 0) → 0 ≤ x6 ∧ x6 < 30 ∧ 0 ≤ v8_14 ∧ v8_14 < 30 ∧ 0 ≤ v8_14 ∧ v8_14 < 30 ∧ i32 ((M 81 v8_14) + (M (c1 + 4) v8_14)) ∧ 0 ≤ x6 ∧ x6 < 30 ∧ ∀ M24 : zM, M24 = zup M 81 x6 (max (M 81 x6) ((M 81 v8_14) + (M (c1 + 4) v8_14))) → 
          i32 (x7 + 1) ∧ ∀ v7_25 : Int, v7_25 = x7 + 1 → K53 (v7_25, M24))))
def jP_slipFrom_J48 (c1 : Nat) (a2 a3 : Int) (K6 : (Int × Int × zM) → Prop) (Φ : Int → zM → Prop) (x4 x5 x6 s1 s2 s3 : Int) (M : zM) : Prop :=
  i32 (s2 + s3) ∧ 0 ≤ s1 ∧ s1 < 30 ∧ ∀ M6 : zM, M6 = zup M 81 s1 (s2 + s3) → 
    zwh (fun K s => jP_slipFrom_L53 c1 a2 a3 K6 K Φ x4 x5 x6 (s.1) (s.2)) (0, M6)
def jP_slipFrom_L6 (c1 : Nat) (a2 a3 : Int) (K6 : (Int × Int × zM) → Prop) (Φ : Int → zM → Prop) (x4 x5 : Int) (M : zM) : Prop :=
  
    ((M c1 0) ≤ x5 → Φ x4 M) ∧
    (¬ ((M c1 0) ≤ x5) → 0 ≤ x5 ∧ x5 < 30 ∧ ∀ v6_2 : Int, v6_2 = (M 79 x5) → 
      0 ≤ v6_2 ∧ v6_2 < 30 ∧ 
      (¬ v6_2 = a2 → jP_slipFrom_J48 c1 a2 a3 K6 Φ x4 x5 v6_2 v6_2 (M (c1 + 3) v6_2) 0 M) ∧
      (v6_2 = a2 → jP_slipFrom_J48 c1 a2 a3 K6 Φ x4 x5 v6_2 v6_2 (M (c1 + 3) v6_2) a3 M))
def jP_slipFrom (c1 : Nat) (a2 a3 : Int) (M : zM) (Φ : Int → zM → Prop) : Prop :=
  zwh (fun K s => jP_slipFrom_L6 c1 a2 a3 K Φ (s.1) (s.2.1) (s.2.2)) (0, 0, M)
def jC_slipTo_L4 (b : Nat) (K4 : (Int × Int × zM) → Prop) (Φ : Int → zM → Prop) (x2 x3 : Int) (M : zM) : Prop :=
  
    ((M b 0) ≤ x3 → Φ x2 M) ∧
    (¬ ((M b 0) ≤ x3) → 0 ≤ x3 ∧ x3 < 30 ∧ 0 ≤ x3 ∧ x3 < 30 ∧ 
      ((M 81 x3) = (M (b + 3) x3) → i32 (x3 + 1) ∧ ∀ v3_3 : Int, v3_3 = x3 + 1 → K4 (x2, v3_3, M)) ∧
      (¬ ((M 81 x3) = (M (b + 3) x3)) → 0 ≤ x3 ∧ x3 < 30 ∧ 0 ≤ x3 ∧ x3 < 30 ∧ i32 ((M 81 x3) - (M (b + 3) x3)) ∧ i32 ((M b 13) + ((M 81 x3) - (M (b + 3) x3))) ∧ ∀ M8 : zM, M8 = zup M b 13 ((M b 13) + ((M 81 x3) - (M (b + 3) x3))) → 
        0 ≤ x3 ∧ x3 < 30 ∧ 0 ≤ x3 ∧ x3 < 30 ∧ ∀ M11 : zM, M11 = zup M8 (b + 3) x3 (M8 81 x3) → 
        i32 (x2 + 1) ∧ ∀ v2_12 : Int, v2_12 = x2 + 1 → i32 (x3 + 1) ∧ ∀ v3_13 : Int, v3_13 = x3 + 1 → K4 (v2_12, v3_13, M11)))
def jC_slipTo (b : Nat) (M : zM) (Φ : Int → zM → Prop) : Prop :=
  zwh (fun K s => jC_slipTo_L4 b K Φ (s.1) (s.2.1) (s.2.2)) (0, 0, M)
def jB_slip (a1 a2 : Int) (M : zM) (Φ : Int → zM → Prop) : Prop :=
  
    jC_slotOf 0 a1 M (fun r1 => 
      (0 ≤ r1 → 
        (a2 < 1 → Φ (-2) M) ∧
        (¬ (a2 < 1) → 
          (a2 ≤ 30 → 
            jP_read 0 M (fun M3 => 
              jP_slipFrom 0 r1 a2 M3 (fun r4 M5 => 
                (r4 ≤ 200 → 
                  jC_copyFrom 10 0 M5 (fun M6 => 
                    jC_slipTo 10 M6 (fun r7 M8 => 
                      jB_settle r7 M8 (fun r9 M10 => Φ r9 M10)))) ∧
                (¬ (r4 ≤ 200) → Φ (-4) M5)))) ∧
          (¬ (a2 ≤ 30) → Φ (-2) M))) ∧
      (¬ (0 ≤ r1) → Φ (-1) M))
def jP_earliest_L5 (c1 : Nat) (a2 : Int) (K5 : (Int × Int) → Prop) (Φ : Int → Prop) (M : zM) (x3 x4 : Int) : Prop :=
  
    ((M c1 0) ≤ x4 → Φ x3) ∧
    (¬ ((M c1 0) ≤ x4) → 
      jP_isPushed a2 x4 M (fun r1 => 
        (r1 = 0 → i32 (x4 + 1) ∧ ∀ v4_3 : Int, v4_3 = x4 + 1 → K5 (x3, v4_3)) ∧
        (¬ (r1 = 0) → 
          jC_endOf c1 x4 M (fun r4 => ∀ v3_7 : Int, v3_7 = (max x3 r4) → 
            i32 (x4 + 1) ∧ ∀ v4_8 : Int, v4_8 = x4 + 1 → K5 (v3_7, v4_8)))))
def jP_earliest (c1 : Nat) (a2 : Int) (M : zM) (Φ : Int → Prop) : Prop :=
  zwh (fun K s => jP_earliest_L5 c1 a2 K Φ M (s.1) (s.2)) (0, 0)
def jB_pull (a1 : Int) (M : zM) (Φ : Int → zM → Prop) : Prop :=
  
    jC_slotOf 0 a1 M (fun r1 => 
      (0 ≤ r1 → 
        jP_read 0 M (fun M3 => 
          jP_earliest 0 r1 M3 (fun r4 => 0 ≤ r1 ∧ r1 < 30 ∧ i32 ((M3 3 r1) - r4) ∧ ∀ v4_8 : Int, v4_8 = ((M3 3 r1) - r4) → 
            
            (¬ v4_8 = 0 → 
              jC_copyFrom 10 0 M3 (fun M9 => 0 ≤ r1 ∧ r1 < 30 ∧ ∀ M11 : zM, M11 = zup M9 13 r1 r4 → 
                
                jB_settle v4_8 M11 (fun r12 M13 => Φ r12 M13))) ∧
            (v4_8 = 0 → Φ (-5) M3)))) ∧
      (¬ (0 ≤ r1) → Φ (-1) M))
def jC_setWidths_L6 (b : Nat) (a1 a2 a3 : Int) (K6 : (Int × Int × zM) → Prop) (Φ : Int → zM → Prop) (x4 x5 : Int) (M : zM) : Prop :=
  
    (a2 < x5 → Φ x4 M) ∧
    (¬ (a2 < x5) → 0 ≤ x5 ∧ x5 < 200 ∧ 
      ((M (b + 8) x5) = a3 → i32 (x5 + 1) ∧ ∀ v5_2 : Int, v5_2 = x5 + 1 → K6 (x4, v5_2, M)) ∧
      (¬ ((M (b + 8) x5) = a3) → 0 ≤ x5 ∧ x5 < 200 ∧ ∀ M4 : zM, M4 = zup M (b + 8) x5 a3 → 
        i32 (x4 + 1) ∧ ∀ v4_5 : Int, v4_5 = x4 + 1 → i32 (x5 + 1) ∧ ∀ v5_6 : Int, v5_6 = x5 + 1 → K6 (v4_5, v5_6, M4)))
def jC_setWidths (b : Nat) (a1 a2 a3 : Int) (M : zM) (Φ : Int → zM → Prop) : Prop :=
  zwh (fun K s => jC_setWidths_L6 b a1 a2 a3 K Φ (s.1) (s.2.1) (s.2.2)) (0, a1, M)
def jB_width_J69 (a1 a2 a3 : Int) (Φ : Int → zM → Prop) (s1 : Int) (M : zM) : Prop :=
  
    jB_settle s1 M (fun r8 M9 => Φ r8 M9)
def jB_width (a1 a2 a3 : Int) (M : zM) (Φ : Int → zM → Prop) : Prop :=
  
    jB_isDay a1 M (fun r1 => 
      (r1 = 0 → Φ (-2) M) ∧
      (¬ (r1 = 0) → 
        jB_isDay a2 M (fun r3 => 
          (r3 = 0 → Φ (-2) M) ∧
          (¬ (r3 = 0) → 
            (a2 < a1 → Φ (-2) M) ∧
            (¬ (a2 < a1) → 
              (a3 < 1 → Φ (-2) M) ∧
              (¬ (a3 < 1) → 
                (a3 ≤ 9 → 
                  jC_copyFrom 10 0 M (fun M5 => 
                    jC_setWidths 10 a1 a2 a3 M5 (fun r6 M7 => 
                      (¬ r6 = 0 → jB_width_J69 a1 a2 a3 Φ r6 M7) ∧
                      (r6 = 0 → jB_width_J69 a1 a2 a3 Φ (-5) M7)))) ∧
                (¬ (a3 ≤ 9) → Φ (-2) M)))))))
def jB_isSetting (a1 a2 : Int) (M : zM) (Φ : Int → Prop) : Prop :=
  
    (a1 = 0 → 
      (a2 < 0 → Φ 0) ∧
      (¬ (a2 < 0) → 
        (2 < a2 → Φ 0) ∧
        (¬ (2 < a2) → Φ 1))) ∧ (¬ (a1 = 0) → 
    (a1 = 1 → 
      (a2 < 10 → Φ 0) ∧
      (¬ (a2 < 10) → 
        (999 < a2 → Φ 0) ∧
        (¬ (999 < a2) → Φ 1))) ∧ (¬ (a1 = 1) → Φ 0))
def jB_set (a1 a2 : Int) (M : zM) (Φ : Int → zM → Prop) : Prop :=
  
    jB_isSetting a1 a2 M (fun r1 => 
      (¬ r1 = 0 → 0 ≤ a1 ∧ a1 < 2 ∧ ∀ v3_4 : Int, v3_4 = (M 9 a1) → 
        
        (¬ v3_4 = a2 → 
          jC_copyFrom 10 0 M (fun M5 => 0 ≤ a1 ∧ a1 < 2 ∧ ∀ M7 : zM, M7 = zup M5 19 a1 a2 → 
            
            jB_settle v3_4 M7 (fun r8 M9 => Φ r8 M9))) ∧
        (v3_4 = a2 → Φ (-5) M)) ∧
      (r1 = 0 → Φ (-2) M))
def jH_takeLatest (c1 : Nat) (M : zM) (Φ : Int → zM → Prop) : Prop :=
  
    (¬ (M 71 2) = 0 → i32 ((M 71 2) - 1) ∧ ∀ M2 : zM, M2 = zup M 71 2 ((M 71 2) - 1) → 
      i32 ((M2 71 1) + (M2 71 2)) ∧ 0 ≤ ((M2 71 1) + (M2 71 2)) ∧ 0 ≤ (((M2 71 1) + (M2 71 2)) % 4) ∧ (((M2 71 1) + (M2 71 2)) % 4) < 4 ∧ ∀ c5 : Nat, c5 = 30 + 10 * Int.toNat (((M2 71 1) + (M2 71 2)) % 4) → 
      
      jC_copyFrom c1 c5 M2 (fun M7 => Φ (M7 71 2) M7)) ∧
    ((M 71 2) = 0 → Φ (-5) M)
def jB_undo (M : zM) (Φ : Int → zM → Prop) : Prop :=
  
    jH_takeLatest 0 M (fun r1 M2 => Φ r1 M2)
def jC_widthBetween_L5 (b : Nat) (a1 a2 : Int) (K5 : (Int × Int) → Prop) (Φ : Int → Prop) (M : zM) (x3 x4 : Int) : Prop :=
  
    (a2 ≤ x4 → Φ x3) ∧
    (¬ (a2 ≤ x4) → 
      (200 ≤ x4 → Φ x3) ∧
      (¬ (200 ≤ x4) → 0 ≤ x4 ∧ x4 < 200 ∧ i32 (x3 + (M (b + 8) x4)) ∧ ∀ v3_3 : Int, v3_3 = (x3 + (M (b + 8) x4)) → 
        i32 (x4 + 1) ∧ ∀ v4_4 : Int, v4_4 = x4 + 1 → K5 (v3_3, v4_4)))
def jC_widthBetween (b : Nat) (a1 a2 : Int) (M : zM) (Φ : Int → Prop) : Prop :=
  zwh (fun K s => jC_widthBetween_L5 b a1 a2 K Φ M (s.1) (s.2)) (0, a1)
def jC_place (b : Nat) (a1 : Int) (M : zM) (Φ : Int → Prop) : Prop :=
  
    jC_widthBetween b 0 a1 M (fun r1 => Φ r1)
def jC_greatestEnd_L4 (b : Nat) (K4 : (Int × Int) → Prop) (Φ : Int → Prop) (M : zM) (x1 x2 : Int) : Prop :=
  
    ((M b 0) ≤ x2 → Φ x1) ∧
    (¬ ((M b 0) ≤ x2) → 
      jC_endOf b x2 M (fun r1 => ∀ v1_4 : Int, v1_4 = (max x1 r1) → 
        i32 (x2 + 1) ∧ ∀ v2_5 : Int, v2_5 = x2 + 1 → K4 (v1_4, v2_5)))
def jC_greatestEnd (b : Nat) (M : zM) (Φ : Int → Prop) : Prop :=
  zwh (fun K s => jC_greatestEnd_L4 b K Φ M (s.1) (s.2)) (0, 0)
def jP_findLatest_L32 (c1 : Nat) (K12 : (Int × zM) → Prop) (K32 : (Int × Int) → Prop) (Φ : zM → Prop) (x2 x3 x4 : Int) (M : zM) (x5 x6 : Int) : Prop :=
  
    ((M c1 0) ≤ x6 → 0 ≤ x4 ∧ x4 < 30 ∧ i32 (x5 - (M (c1 + 4) x4)) ∧ 0 ≤ x4 ∧ x4 < 30 ∧ ∀ M12 : zM, M12 = zup M 81 x4 (x5 - (M (c1 + 4) x4)) → 
      i32 (x3 + (-1)) ∧ ∀ v3_13 : Int, v3_13 = x3 + (-1) → K12 (v3_13, M12)) ∧
    (¬ ((M c1 0) ≤ x6) → 0 ≤ x6 ∧ x6 < 30 ∧ ∀ v7_15 : Int, v7_15 = (M 79 x6) → 
      
      jP_isPushed v7_15 x4 M (fun r16 => 
        (r16 = 0 → i32 (x6 + 1) ∧ ∀ v6_18 : Int, v6_18 = x6 + 1 → K32 (x5, v6_18)) ∧
        (¬ (r16 = 0) → 0 ≤ v7_15 ∧ v7_15 < 30 ∧ ∀ v5_21 : Int, v5_21 = (min x5 (M 81 v7_15)) → 
          i32 (x6 + 1) ∧ ∀ v6_22 : Int, v6_22 = x6 + 1 → K32 (v5_21, v6_22))))
def jP_findLatest_L12 (c1 : Nat) (K12 : (Int × zM) → Prop) (Φ : zM → Prop) (x2 : Int) (x3 : Int) (M : zM) : Prop :=
  
    (x3 < 0 → Φ M) ∧
    (¬ (x3 < 0) → 0 ≤ x3 ∧ x3 < 30 ∧ ∀ v4_6 : Int, v4_6 = (M 79 x3) → 
      i32 (x3 + 1) ∧ ∀ v6_8 : Int, v6_8 = (x3 + 1) → 
      zwh (fun K s => jP_findLatest_L32 c1 K12 K Φ x2 x3 v4_6 M (s.1) (s.2)) (x2, v6_8))
def jP_findLatest (c1 : Nat) (M : zM) (Φ : zM → Prop) : Prop :=
  
    jC_greatestEnd c1 M (fun r1 => i32 ((M c1 0) - 1) ∧ ∀ v3_4 : Int, v3_4 = ((M c1 0) - 1) → 
      zwh (fun K s => jP_findLatest_L12 c1 K Φ r1 (s.1) (s.2)) (v3_4, M))
def jB_latestOf (a1 : Int) (M : zM) (Φ : Int → zM → Prop) : Prop :=
  
    jP_read 0 M (fun M1 => 
      jP_findLatest 0 M1 (fun M2 => 0 ≤ a1 ∧ a1 < 30 ∧ Φ (M2 81 a1) M2))
def jC_arrowsFrom_L4 (b : Nat) (a1 : Int) (K4 : (Int × Int) → Prop) (Φ : Int → Prop) (M : zM) (x2 x3 : Int) : Prop :=
  
    ((M b 6) ≤ x3 → Φ x2) ∧
    (¬ ((M b 6) ≤ x3) → 0 ≤ x3 ∧ x3 < 40 ∧ 
      (¬ (M (b + 6) x3) = a1 → i32 (x2 + 0) ∧ ∀ v2_3 : Int, v2_3 = (x2 + 0) → 
        i32 (x3 + 1) ∧ ∀ v3_4 : Int, v3_4 = x3 + 1 → K4 (v2_3, v3_4)) ∧
      ((M (b + 6) x3) = a1 → i32 (x2 + 1) ∧ ∀ v2_6 : Int, v2_6 = (x2 + 1) → 
        i32 (x3 + 1) ∧ ∀ v3_7 : Int, v3_7 = x3 + 1 → K4 (v2_6, v3_7)))
def jC_arrowsFrom (b : Nat) (a1 : Int) (M : zM) (Φ : Int → Prop) : Prop :=
  zwh (fun K s => jC_arrowsFrom_L4 b a1 K Φ M (s.1) (s.2)) (0, 0)
def jC_arrowsTo_L4 (b : Nat) (a1 : Int) (K4 : (Int × Int) → Prop) (Φ : Int → Prop) (M : zM) (x2 x3 : Int) : Prop :=
  
    ((M b 6) ≤ x3 → Φ x2) ∧
    (¬ ((M b 6) ≤ x3) → 0 ≤ x3 ∧ x3 < 40 ∧ 
      (¬ (M (b + 7) x3) = a1 → i32 (x2 + 0) ∧ ∀ v2_3 : Int, v2_3 = (x2 + 0) → 
        i32 (x3 + 1) ∧ ∀ v3_4 : Int, v3_4 = x3 + 1 → K4 (v2_3, v3_4)) ∧
      ((M (b + 7) x3) = a1 → i32 (x2 + 1) ∧ ∀ v2_6 : Int, v2_6 = (x2 + 1) → 
        i32 (x3 + 1) ∧ ∀ v3_7 : Int, v3_7 = x3 + 1 → K4 (v2_6, v3_7)))
def jC_arrowsTo (b : Nat) (a1 : Int) (M : zM) (Φ : Int → Prop) : Prop :=
  zwh (fun K s => jC_arrowsTo_L4 b a1 K Φ M (s.1) (s.2)) (0, 0)
def jK_cut_J71 (c1 : Nat) (K21 : (Int × Int × zM) → Prop) (Φ : zM → Prop) (x2 x3 x4 : Int) (M : zM) : Prop :=
  0 ≤ x4 ∧ x4 < 200 ∧ i32 (x3 - (M (c1 + 8) x4)) ∧ ∀ v3_15 : Int, v3_15 = (x3 - (M (c1 + 8) x4)) → 
    i32 (x4 + 1) ∧ ∀ v4_16 : Int, v4_16 = x4 + 1 → K21 (v3_15, v4_16, M)
def jK_cut_J43 (c1 : Nat) (K21 : (Int × Int × zM) → Prop) (Φ : zM → Prop) (x2 x4 : Int) (M : zM) : Prop :=
  0 ≤ (M 85 0) ∧ (M 85 0) < 201 ∧ ∀ M9 : zM, M9 = zup M 86 (M 85 0) x4 → 
    i32 ((M9 85 0) + 1) ∧ ∀ M11 : zM, M11 = zup M9 85 0 ((M9 85 0) + 1) → 
    ∀ v3_12 : Int, v3_12 = (M11 (c1 + 9) 1) → 
    jK_cut_J71 c1 K21 Φ x2 v3_12 x4 M11
def jK_cut_L21 (c1 : Nat) (K21 : (Int × Int × zM) → Prop) (Φ : zM → Prop) (x2 : Int) (x3 x4 : Int) (M : zM) : Prop :=
  
    (x2 ≤ x4 → 0 ≤ (M 85 0) ∧ (M 85 0) < 201 ∧ ∀ M7 : zM, M7 = zup M 86 (M 85 0) x2 → 
      Φ M7) ∧
    (¬ (x2 ≤ x4) → 
      (x4 = 0 → jK_cut_J43 c1 K21 Φ x2 x4 M) ∧
      (¬ (x4 = 0) → 0 ≤ x4 ∧ x4 < 200 ∧ 
        ((M (c1 + 8) x4) ≤ x3 → jK_cut_J71 c1 K21 Φ x2 x3 x4 M) ∧
        (¬ ((M (c1 + 8) x4) ≤ x3) → jK_cut_J43 c1 K21 Φ x2 x4 M)))
def jK_cut (c1 : Nat) (M : zM) (Φ : zM → Prop) : Prop :=
  
    jC_greatestEnd c1 M (fun r1 => ∀ v2_4 : Int, v2_4 = (min 200 r1) → 
      ∀ M5 : zM, M5 = zup M 85 0 0 → 
      zwh (fun K s => jK_cut_L21 c1 K Φ v2_4 (s.1) (s.2.1) (s.2.2)) (0, 0, M5))
def jK_stripOf_L2 (a1 : Int) (K2 : Int → Prop) (Φ : Int → Prop) (M : zM) (x2 : Int) : Prop :=
  i32 ((M 85 0) - 1) ∧ 
    (((M 85 0) - 1) ≤ x2 → Φ x2) ∧
    (¬ (((M 85 0) - 1) ≤ x2) → i32 (x2 + 1) ∧ 0 ≤ (x2 + 1) ∧ (x2 + 1) < 201 ∧ 
      (a1 < (M 86 (x2 + 1)) → Φ x2) ∧
      (¬ (a1 < (M 86 (x2 + 1))) → i32 (x2 + 1) ∧ ∀ v2_4 : Int, v2_4 = x2 + 1 → K2 v2_4))
def jK_stripOf (a1 : Int) (M : zM) (Φ : Int → Prop) : Prop :=
  zwh (fun K s => jK_stripOf_L2 a1 K Φ M (s)) 0
def jB_stripOf (a1 : Int) (M : zM) (Φ : Int → zM → Prop) : Prop :=
  
    jK_cut 0 M (fun M1 => 
      jK_stripOf a1 M1 (fun r2 => Φ r2 M1))
def jC_nextInLane_J47 (b : Nat) (a1 : Int) (K4 : (Int × Int) → Prop) (Φ : Int → Prop) (x2 x3 s0 : Int) (M : zM) : Prop :=
  
    (s0 = 0 → i32 (x3 + 1) ∧ ∀ v3_5 : Int, v3_5 = x3 + 1 → K4 (x2, v3_5)) ∧
    (¬ (s0 = 0) → 
      (x2 < 0 → i32 (x3 + 1) ∧ ∀ v3_6 : Int, v3_6 = x3 + 1 → K4 (x3, v3_6)) ∧
      (¬ (x2 < 0) → 0 ≤ x3 ∧ x3 < 30 ∧ 0 ≤ x2 ∧ x2 < 30 ∧ 
        ((M (b + 3) x2) ≤ (M (b + 3) x3) → i32 (x3 + 1) ∧ ∀ v3_9 : Int, v3_9 = x3 + 1 → K4 (x2, v3_9)) ∧
        (¬ ((M (b + 3) x2) ≤ (M (b + 3) x3)) → i32 (x3 + 1) ∧ ∀ v3_10 : Int, v3_10 = x3 + 1 → K4 (x3, v3_10))))
def jC_nextInLane_J46 (b : Nat) (a1 : Int) (K4 : (Int × Int) → Prop) (Φ : Int → Prop) (x2 x3 : Int) (M : zM) : Prop :=
  jC_nextInLane_J47 b a1 K4 Φ x2 x3 0 M
def jC_nextInLane_L4 (b : Nat) (a1 : Int) (K4 : (Int × Int) → Prop) (Φ : Int → Prop) (M : zM) (x2 x3 : Int) : Prop :=
  
    ((M b 0) ≤ x3 → 
      (0 ≤ x2 → 0 ≤ x2 ∧ x2 < 30 ∧ Φ (M (b + 1) x2)) ∧
      (¬ (0 ≤ x2) → Φ (-5))) ∧
    (¬ ((M b 0) ≤ x3) → 0 ≤ x3 ∧ x3 < 30 ∧ 0 ≤ a1 ∧ a1 < 30 ∧ 
      (¬ (M (b + 2) x3) = (M (b + 2) a1) → jC_nextInLane_J46 b a1 K4 Φ x2 x3 M) ∧
      ((M (b + 2) x3) = (M (b + 2) a1) → 0 ≤ x3 ∧ x3 < 30 ∧ 0 ≤ a1 ∧ a1 < 30 ∧ 
        ((M (b + 3) x3) ≤ (M (b + 3) a1) → jC_nextInLane_J46 b a1 K4 Φ x2 x3 M) ∧
        (¬ ((M (b + 3) x3) ≤ (M (b + 3) a1)) → jC_nextInLane_J47 b a1 K4 Φ x2 x3 1 M)))
def jC_nextInLane (b : Nat) (a1 : Int) (M : zM) (Φ : Int → Prop) : Prop :=
  zwh (fun K s => jC_nextInLane_L4 b a1 K Φ M (s.1) (s.2)) ((-1), 0)
def jB_barOf (a1 a2 : Int) (M : zM) (Φ : Int → zM → Prop) : Prop :=
  
    jC_slotOf 0 a1 M (fun r1 => 
      (0 ≤ r1 → 
        (a2 = 0 → 0 ≤ r1 ∧ r1 < 30 ∧ Φ (M 2 r1) M) ∧ (¬ (a2 = 0) → 
        (a2 = 1 → 0 ≤ r1 ∧ r1 < 30 ∧ Φ (M 3 r1) M) ∧ (¬ (a2 = 1) → 
        (a2 = 2 → 0 ≤ r1 ∧ r1 < 30 ∧ Φ (M 4 r1) M) ∧ (¬ (a2 = 2) → 
        (a2 = 3 → 
          jC_endOf 0 r1 M (fun r6 => Φ r6 M)) ∧ (¬ (a2 = 3) → 
        (a2 = 4 → 0 ≤ r1 ∧ r1 < 30 ∧ 
          jC_place 0 (M 3 r1) M (fun r9 => Φ r9 M)) ∧ (¬ (a2 = 4) → 
        (a2 = 5 → 0 ≤ r1 ∧ r1 < 30 ∧ 
          jC_endOf 0 r1 M (fun r12 => 
            jC_widthBetween 0 (M 3 r1) r12 M (fun r14 => Φ r14 M))) ∧ (¬ (a2 = 5) → 
        (a2 = 6 → 
          jB_latestOf r1 M (fun r16 M17 => 0 ≤ r1 ∧ r1 < 30 ∧ i32 (r16 - (M17 3 r1)) ∧ Φ (r16 - (M17 3 r1)) M17)) ∧ (¬ (a2 = 6) → 
        (a2 = 7 → 
          jC_arrowsFrom 0 r1 M (fun r20 => Φ r20 M)) ∧ (¬ (a2 = 7) → 
        (a2 = 8 → 
          jC_arrowsTo 0 r1 M (fun r22 => Φ r22 M)) ∧ (¬ (a2 = 8) → 
        (a2 = 9 → 0 ≤ r1 ∧ r1 < 30 ∧ 
          jB_stripOf (M 3 r1) M (fun r25 M26 => Φ r25 M26)) ∧ (¬ (a2 = 9) → 
        (a2 = 10 → 
          jC_endOf 0 r1 M (fun r27 => i32 (r27 - 1) ∧ 
            jB_stripOf (r27 - 1) M (fun r30 M31 => 0 ≤ r1 ∧ r1 < 30 ∧ 
              jB_stripOf (M31 3 r1) M31 (fun r33 M34 => i32 (r30 - r33) ∧ i32 ((r30 - r33) + 1) ∧ Φ ((r30 - r33) + 1) M34)))) ∧ (¬ (a2 = 10) → 
        (a2 = 11 → 
          jC_nextInLane 0 r1 M (fun r37 => Φ r37 M)) ∧ (¬ (a2 = 11) → Φ (-2) M))))))))))))) ∧
      (¬ (0 ≤ r1) → Φ (-1) M))
def jD_freeBends_L26 (c1 : Nat) (a2 : Int) (K26 : (Int × Int) → Prop) (Φ : Int → Prop) (x4 x5 : Int) (M : zM) (x3 x6 : Int) : Prop :=
  
    (x5 < x6 → Φ x3) ∧
    (¬ (x5 < x6) → 0 ≤ x6 ∧ x6 < 200 ∧ 
      (¬ (zand (M 84 x6) x4) = 0 → i32 (x3 + 0) ∧ ∀ v3_9 : Int, v3_9 = (x3 + 0) → 
        i32 (x6 + 1) ∧ ∀ v6_10 : Int, v6_10 = x6 + 1 → K26 (v3_9, v6_10)) ∧
      ((zand (M 84 x6) x4) = 0 → i32 (x3 + 1) ∧ ∀ v3_12 : Int, v3_12 = (x3 + 1) → 
        i32 (x6 + 1) ∧ ∀ v6_13 : Int, v6_13 = x6 + 1 → K26 (v3_12, v6_13)))
def jD_freeBends (c1 : Nat) (a2 : Int) (M : zM) (Φ : Int → Prop) : Prop :=
  
    jD_lanesBetween c1 a2 M (fun r1 => 
      jD_highest c1 a2 M (fun r3 => 
        jD_lowest c1 a2 M (fun r5 => zwh (fun K s => jD_freeBends_L26 c1 a2 K Φ r1 r3 M (s.1) (s.2)) (0, r5))))
def jD_goesAlong (c1 : Nat) (a2 a3 a4 : Int) (M : zM) (Φ : Int → Prop) : Prop :=
  0 ≤ a2 ∧ a2 < 40 ∧ ∀ v5_2 : Int, v5_2 = (M (c1 + 6) a2) → 
    0 ≤ a2 ∧ a2 < 40 ∧ ∀ v6_4 : Int, v6_4 = (M (c1 + 7) a2) → 
    0 ≤ a2 ∧ a2 < 40 ∧ 
    ((M 83 a2) ≤ a4 → 0 ≤ v6_4 ∧ v6_4 < 30 ∧ 
      (¬ a3 = (M (c1 + 2) v6_4) → Φ 0) ∧
      (a3 = (M (c1 + 2) v6_4) → 0 ≤ v6_4 ∧ v6_4 < 30 ∧ 
        ((M (c1 + 3) v6_4) ≤ a4 → Φ 0) ∧
        (¬ ((M (c1 + 3) v6_4) ≤ a4) → Φ 1))) ∧
    (¬ ((M 83 a2) ≤ a4) → 0 ≤ v5_2 ∧ v5_2 < 30 ∧ 
      (¬ a3 = (M (c1 + 2) v5_2) → Φ 0) ∧
      (a3 = (M (c1 + 2) v5_2) → 
        jC_endOf c1 v5_2 M (fun r11 => 
          (a4 < r11 → Φ 0) ∧
          (¬ (a4 < r11) → Φ 1))))
def jD_passesThrough (c1 : Nat) (a2 a3 a4 : Int) (M : zM) (Φ : Int → Prop) : Prop :=
  
    jD_lanesBetween c1 a2 M (fun r1 => 
      (¬ (zand (zshr r1 a4) 1) = 1 → Φ 0) ∧
      ((zand (zshr r1 a4) 1) = 1 → 0 ≤ a2 ∧ a2 < 40 ∧ i32 ((M 83 a2) - 1) ∧ 
        jD_goesAlong c1 a3 a4 ((M 83 a2) - 1) M (fun r5 => 
          (r5 = 0 → Φ 0) ∧
          (¬ (r5 = 0) → 0 ≤ a2 ∧ a2 < 40 ∧ 
            jD_goesAlong c1 a3 a4 (M 83 a2) M (fun r8 => 
              (r8 = 0 → Φ 0) ∧
              (¬ (r8 = 0) → Φ 1))))))
def jD_crosses_J66 (c1 : Nat) (a2 a3 : Int) (Φ : Int → Prop) (M : zM) : Prop :=
  Φ 1
def jD_crosses (c1 : Nat) (a2 a3 : Int) (M : zM) (Φ : Int → Prop) : Prop :=
  0 ≤ a2 ∧ a2 < 40 ∧ 
    ((M 83 a2) = (-5) → Φ 0) ∧
    (¬ ((M 83 a2) = (-5)) → 0 ≤ a3 ∧ a3 < 40 ∧ 
      (¬ (M 83 a3) = (-5) → 0 ≤ a3 ∧ a3 < 40 ∧ 0 ≤ (M (c1 + 6) a3) ∧ (M (c1 + 6) a3) < 30 ∧ 
        jD_passesThrough c1 a2 a3 (M (c1 + 2) (M (c1 + 6) a3)) M (fun r5 => 
          (¬ r5 = 0 → jD_crosses_J66 c1 a2 a3 Φ M) ∧
          (r5 = 0 → 0 ≤ a3 ∧ a3 < 40 ∧ 0 ≤ (M (c1 + 7) a3) ∧ (M (c1 + 7) a3) < 30 ∧ 
            jD_passesThrough c1 a2 a3 (M (c1 + 2) (M (c1 + 7) a3)) M (fun r9 => 
              (r9 = 0 → Φ 0) ∧
              (¬ (r9 = 0) → jD_crosses_J66 c1 a2 a3 Φ M))))) ∧
      ((M 83 a3) = (-5) → Φ 0))
def jD_pointsOf_J31 (c1 : Nat) (a2 : Int) (K5 : (Int × Int) → Prop) (Φ : Int → Prop) (x4 s0 s1 : Int) (M : zM) : Prop :=
  i32 (s0 + s1) ∧ ∀ v3_4 : Int, v3_4 = (s0 + s1) → 
    
    jD_crosses c1 x4 a2 M (fun r5 => 
      (r5 = 0 → i32 (v3_4 + 0) ∧ ∀ v3_8 : Int, v3_8 = (v3_4 + 0) → 
        i32 (x4 + 1) ∧ ∀ v4_9 : Int, v4_9 = x4 + 1 → K5 (v3_8, v4_9)) ∧
      (¬ (r5 = 0) → i32 (v3_4 + 1) ∧ ∀ v3_11 : Int, v3_11 = (v3_4 + 1) → 
        i32 (x4 + 1) ∧ ∀ v4_12 : Int, v4_12 = x4 + 1 → K5 (v3_11, v4_12)))
def jD_pointsOf_L5 (c1 : Nat) (a2 : Int) (K5 : (Int × Int) → Prop) (Φ : Int → Prop) (M : zM) (x3 x4 : Int) : Prop :=
  
    ((M c1 6) ≤ x4 → Φ x3) ∧
    (¬ ((M c1 6) ≤ x4) → 
      jD_crosses c1 a2 x4 M (fun r1 => 
        (r1 = 0 → jD_pointsOf_J31 c1 a2 K5 Φ x4 x3 0 M) ∧
        (¬ (r1 = 0) → jD_pointsOf_J31 c1 a2 K5 Φ x4 x3 1 M)))
def jD_pointsOf (c1 : Nat) (a2 : Int) (M : zM) (Φ : Int → Prop) : Prop :=
  zwh (fun K s => jD_pointsOf_L5 c1 a2 K Φ M (s.1) (s.2)) (0, 0)
def jB_arrowOf_J45 (a1 a2 : Int) (Φ : Int → zM → Prop) (x3 s0 : Int) (M : zM) : Prop :=
  0 ≤ x3 ∧ x3 < 40 ∧ 
    jC_endOf 0 (M 6 x3) M (fun r6 => 0 ≤ x3 ∧ x3 < 40 ∧ 0 ≤ (M 7 x3) ∧ (M 7 x3) < 30 ∧ ∀ v6_10 : Int, v6_10 = (M 3 (M 7 x3)) → 
      
      (a2 = 0 → 0 ≤ x3 ∧ x3 < 40 ∧ 0 ≤ (M 6 x3) ∧ (M 6 x3) < 30 ∧ Φ (M 1 (M 6 x3)) M) ∧ (¬ (a2 = 0) → 
      (a2 = 1 → 0 ≤ x3 ∧ x3 < 40 ∧ 0 ≤ (M 7 x3) ∧ (M 7 x3) < 30 ∧ Φ (M 1 (M 7 x3)) M) ∧ (¬ (a2 = 1) → 
      (a2 = 2 → 0 ≤ x3 ∧ x3 < 40 ∧ Φ (M 83 x3) M) ∧ (¬ (a2 = 2) → 
      (a2 = 3 → 
        jC_lateBy 0 x3 M (fun r16 => Φ r16 M)) ∧ (¬ (a2 = 3) → 
      (a2 = 4 → 
        jD_freeBends 0 x3 M (fun r18 => Φ r18 M)) ∧ (¬ (a2 = 4) → 
      (a2 = 5 → 
        (s0 = 0 → Φ (-5) M) ∧
        (¬ (s0 = 0) → 
          jC_widthBetween 0 r6 v6_10 M (fun r20 => Φ r20 M))) ∧ (¬ (a2 = 5) → 
      (a2 = 6 → 
        jD_pointsOf 0 x3 M (fun r23 => Φ r23 M)) ∧ (¬ (a2 = 6) → 
      (a2 = 7 → 
        (s0 = 0 → Φ (-5) M) ∧
        (¬ (s0 = 0) → 
          jB_stripOf v6_10 M (fun r25 M26 => i32 (r6 - 1) ∧ 
            jB_stripOf (r6 - 1) M26 (fun r28 M29 => i32 (r25 - r28) ∧ Φ (r25 - r28) M29)))) ∧ (¬ (a2 = 7) → Φ (-2) M)))))))))
def jB_arrowOf (a1 a2 : Int) (M : zM) (Φ : Int → zM → Prop) : Prop :=
  
    jC_arrowSlotOf 0 a1 M (fun r1 => 
      (0 ≤ r1 → 
        jD_draw 0 M (fun M3 => 0 ≤ r1 ∧ r1 < 40 ∧ 
          ((M3 83 r1) = (-5) → jB_arrowOf_J45 a1 a2 Φ r1 0 M3) ∧
          (¬ ((M3 83 r1) = (-5)) → jB_arrowOf_J45 a1 a2 Φ r1 1 M3))) ∧
      (¬ (0 ≤ r1) → Φ (-1) M))
def jD_whyShut (c1 : Nat) (a2 a3 : Int) (M : zM) (Φ : Int → zM → Prop) : Prop :=
  0 ≤ a2 ∧ a2 < 40 ∧ 
    jC_endOf c1 (M (c1 + 6) a2) M (fun r2 => 
      (a3 < r2 → Φ 1 M) ∧
      (¬ (a3 < r2) → 0 ≤ a2 ∧ a2 < 40 ∧ 0 ≤ (M (c1 + 7) a2) ∧ (M (c1 + 7) a2) < 30 ∧ 
        (a3 ≤ (M (c1 + 3) (M (c1 + 7) a2)) → 
          jD_highest c1 a2 M (fun r6 => 
            (a3 ≤ r6 → 
              jD_lowest c1 a2 M (fun r8 => 
                (r8 ≤ a3 → 
                  jD_readBars c1 M (fun M10 => 0 ≤ a3 ∧ a3 < 200 ∧ 
                    jD_lanesBetween c1 a2 M10 (fun r12 => 
                      (¬ (zand (M10 84 a3) r12) = 0 → Φ 4 M10) ∧
                      ((zand (M10 84 a3) r12) = 0 → Φ 0 M10)))) ∧
                (¬ (r8 ≤ a3) → Φ 3 M))) ∧
            (¬ (a3 ≤ r6) → Φ 2 M))) ∧
        (¬ (a3 ≤ (M (c1 + 3) (M (c1 + 7) a2))) → Φ 1 M)))
def jB_reason (a1 a2 : Int) (M : zM) (Φ : Int → zM → Prop) : Prop :=
  
    jC_arrowSlotOf 0 a1 M (fun r1 => 
      (0 ≤ r1 → 
        jD_whyShut 0 r1 a2 M (fun r3 M4 => Φ r3 M4)) ∧
      (¬ (0 ≤ r1) → Φ (-1) M))
def jC_barAt_L2 (b : Nat) (a1 a2 : Int) (K2 : Int → Prop) (Φ : Int → Prop) (M : zM) (x3 : Int) : Prop :=
  
    ((M b 0) ≤ x3 → Φ (-5)) ∧
    (¬ ((M b 0) ≤ x3) → 0 ≤ x3 ∧ x3 < 30 ∧ 
      (¬ (M (b + 2) x3) = a1 → i32 (x3 + 1) ∧ ∀ v3_2 : Int, v3_2 = x3 + 1 → K2 v3_2) ∧
      ((M (b + 2) x3) = a1 → i32 (a2 + 1) ∧ 
        jC_sharesDays b x3 a2 (a2 + 1) M (fun r4 => 
          (r4 = 0 → i32 (x3 + 1) ∧ ∀ v3_6 : Int, v3_6 = x3 + 1 → K2 v3_6) ∧
          (¬ (r4 = 0) → 0 ≤ x3 ∧ x3 < 30 ∧ Φ (M (b + 1) x3)))))
def jC_barAt (b : Nat) (a1 a2 : Int) (M : zM) (Φ : Int → Prop) : Prop :=
  zwh (fun K s => jC_barAt_L2 b a1 a2 K Φ M (s)) 0
def jB_cell (a1 a2 : Int) (M : zM) (Φ : Int → Prop) : Prop :=
  
    jB_isLane a1 M (fun r1 => 
      (r1 = 0 → Φ (-1)) ∧
      (¬ (r1 = 0) → 
        jB_isDay a2 M (fun r3 => 
          (r3 = 0 → Φ (-1)) ∧
          (¬ (r3 = 0) → 
            jC_barAt 0 a1 a2 M (fun r5 => Φ r5)))))
def jC_barsShown_L5 (b : Nat) (a1 a2 : Int) (K5 : (Int × Int) → Prop) (Φ : Int → Prop) (M : zM) (x3 x4 : Int) : Prop :=
  
    ((M b 0) ≤ x4 → Φ x3) ∧
    (¬ ((M b 0) ≤ x4) → 
      jC_sharesDays b x4 a1 a2 M (fun r1 => 
        (r1 = 0 → i32 (x3 + 0) ∧ ∀ v3_4 : Int, v3_4 = (x3 + 0) → 
          i32 (x4 + 1) ∧ ∀ v4_5 : Int, v4_5 = x4 + 1 → K5 (v3_4, v4_5)) ∧
        (¬ (r1 = 0) → i32 (x3 + 1) ∧ ∀ v3_7 : Int, v3_7 = (x3 + 1) → 
          i32 (x4 + 1) ∧ ∀ v4_8 : Int, v4_8 = x4 + 1 → K5 (v3_7, v4_8))))
def jC_barsShown (b : Nat) (a1 a2 : Int) (M : zM) (Φ : Int → Prop) : Prop :=
  zwh (fun K s => jC_barsShown_L5 b a1 a2 K Φ M (s.1) (s.2)) (0, 0)
def jC_barsBegun_J41 (b : Nat) (a1 a2 : Int) (K5 : (Int × Int) → Prop) (Φ : Int → Prop) (x4 s0 : Int) (M : zM) : Prop :=
  i32 (s0 + 0) ∧ ∀ v3_3 : Int, v3_3 = (s0 + 0) → 
    i32 (x4 + 1) ∧ ∀ v4_4 : Int, v4_4 = x4 + 1 → K5 (v3_3, v4_4)
def jC_barsBegun_L5 (b : Nat) (a1 a2 : Int) (K5 : (Int × Int) → Prop) (Φ : Int → Prop) (M : zM) (x3 x4 : Int) : Prop :=
  
    ((M b 0) ≤ x4 → Φ x3) ∧
    (¬ ((M b 0) ≤ x4) → 0 ≤ x4 ∧ x4 < 30 ∧ 
      ((M (b + 3) x4) < a1 → jC_barsBegun_J41 b a1 a2 K5 Φ x4 x3 M) ∧
      (¬ ((M (b + 3) x4) < a1) → 0 ≤ x4 ∧ x4 < 30 ∧ 
        (a2 ≤ (M (b + 3) x4) → jC_barsBegun_J41 b a1 a2 K5 Φ x4 x3 M) ∧
        (¬ (a2 ≤ (M (b + 3) x4)) → i32 (x3 + 1) ∧ ∀ v3_7 : Int, v3_7 = (x3 + 1) → 
          i32 (x4 + 1) ∧ ∀ v4_8 : Int, v4_8 = x4 + 1 → K5 (v3_7, v4_8))))
def jC_barsBegun (b : Nat) (a1 a2 : Int) (M : zM) (Φ : Int → Prop) : Prop :=
  zwh (fun K s => jC_barsBegun_L5 b a1 a2 K Φ M (s.1) (s.2)) (0, 0)
def jB_strip (a1 a2 : Int) (M : zM) (Φ : Int → zM → Prop) : Prop :=
  
    (a1 < 0 → Φ (-2) M) ∧
    (¬ (a1 < 0) → 
      (a2 < 0 → Φ (-2) M) ∧
      (¬ (a2 < 0) → 
        (a2 ≤ 4 → 
          jK_cut 0 M (fun M1 => 
            (a1 < (M1 85 0) → 0 ≤ a1 ∧ a1 < 201 ∧ ∀ v3_3 : Int, v3_3 = (M1 86 a1) → 
              i32 (a1 + 1) ∧ 0 ≤ (a1 + 1) ∧ (a1 + 1) < 201 ∧ ∀ v4_6 : Int, v4_6 = (M1 86 (a1 + 1)) → 
              
              (a2 = 0 → Φ v3_3 M1) ∧ (¬ (a2 = 0) → 
              (a2 = 1 → i32 (v4_6 - v3_3) ∧ Φ (v4_6 - v3_3) M1) ∧ (¬ (a2 = 1) → 
              (a2 = 2 → 
                jC_widthBetween 0 v3_3 v4_6 M1 (fun r8 => Φ r8 M1)) ∧ (¬ (a2 = 2) → 
              (a2 = 3 → 
                jC_barsShown 0 v3_3 v4_6 M1 (fun r10 => Φ r10 M1)) ∧ (¬ (a2 = 3) → 
                jC_barsBegun 0 v3_3 v4_6 M1 (fun r12 => Φ r12 M1)))))) ∧
            (¬ (a1 < (M1 85 0)) → Φ (-5) M1))) ∧
        (¬ (a2 ≤ 4) → Φ (-2) M)))
def jB_undrawnArrows (M : zM) (Φ : Int → zM → Prop) : Prop :=
  
    jD_draw 0 M (fun M1 => Φ (M1 82 1) M1)
def jC_lateArrows_L4 (b : Nat) (K4 : (Int × Int) → Prop) (Φ : Int → Prop) (M : zM) (x1 x2 : Int) : Prop :=
  
    ((M b 6) ≤ x2 → Φ x1) ∧
    (¬ ((M b 6) ≤ x2) → 
      jC_lateBy b x2 M (fun r1 => 
        (r1 ≤ 0 → i32 (x1 + 0) ∧ ∀ v1_4 : Int, v1_4 = (x1 + 0) → 
          i32 (x2 + 1) ∧ ∀ v2_5 : Int, v2_5 = x2 + 1 → K4 (v1_4, v2_5)) ∧
        (¬ (r1 ≤ 0) → i32 (x1 + 1) ∧ ∀ v1_7 : Int, v1_7 = (x1 + 1) → 
          i32 (x2 + 1) ∧ ∀ v2_8 : Int, v2_8 = x2 + 1 → K4 (v1_7, v2_8))))
def jC_lateArrows (b : Nat) (M : zM) (Φ : Int → Prop) : Prop :=
  zwh (fun K s => jC_lateArrows_L4 b K Φ M (s.1) (s.2)) (0, 0)
def jD_pointsInAll_L15 (c1 : Nat) (K4 : (Int × Int) → Prop) (K15 : (Int × Int) → Prop) (Φ : Int → Prop) (x3 : Int) (M : zM) (x2 x4 : Int) : Prop :=
  
    ((M c1 6) ≤ x4 → i32 (x3 + 1) ∧ ∀ v3_1 : Int, v3_1 = x3 + 1 → K4 (x2, v3_1)) ∧
    (¬ ((M c1 6) ≤ x4) → 
      jD_crosses c1 x3 x4 M (fun r2 => 
        (r2 = 0 → i32 (x2 + 0) ∧ ∀ v2_5 : Int, v2_5 = (x2 + 0) → 
          i32 (x4 + 1) ∧ ∀ v4_6 : Int, v4_6 = x4 + 1 → K15 (v2_5, v4_6)) ∧
        (¬ (r2 = 0) → i32 (x2 + 1) ∧ ∀ v2_8 : Int, v2_8 = (x2 + 1) → 
          i32 (x4 + 1) ∧ ∀ v4_9 : Int, v4_9 = x4 + 1 → K15 (v2_8, v4_9))))
def jD_pointsInAll_L4 (c1 : Nat) (K4 : (Int × Int) → Prop) (Φ : Int → Prop) (M : zM) (x2 x3 : Int) : Prop :=
  
    ((M c1 6) ≤ x3 → Φ x2) ∧
    (¬ ((M c1 6) ≤ x3) → zwh (fun K s => jD_pointsInAll_L15 c1 K4 K Φ x3 M (s.1) (s.2)) (x2, 0))
def jD_pointsInAll (c1 : Nat) (M : zM) (Φ : Int → Prop) : Prop :=
  zwh (fun K s => jD_pointsInAll_L4 c1 K Φ M (s.1) (s.2)) (0, 0)
def jB_crossingPoints (M : zM) (Φ : Int → zM → Prop) : Prop :=
  
    jD_draw 0 M (fun M1 => 
      jD_pointsInAll 0 M1 (fun r2 => Φ r2 M1))
def jB_stripsInAll (M : zM) (Φ : Int → zM → Prop) : Prop :=
  
    jK_cut 0 M (fun M1 => Φ (M1 85 0) M1)
def jB_criticalBars_L26 (K26 : (Int × Int) → Prop) (Φ : Int → zM → Prop) (M : zM) (x1 x2 : Int) : Prop :=
  
    ((M 0 0) ≤ x2 → Φ x1 M) ∧
    (¬ ((M 0 0) ≤ x2) → 0 ≤ x2 ∧ x2 < 30 ∧ 0 ≤ x2 ∧ x2 < 30 ∧ 
      (¬ (M 81 x2) = (M 3 x2) → i32 (x2 + 1) ∧ ∀ v2_5 : Int, v2_5 = x2 + 1 → K26 (x1, v2_5)) ∧
      ((M 81 x2) = (M 3 x2) → i32 (x1 + 1) ∧ ∀ v1_6 : Int, v1_6 = x1 + 1 → i32 (x2 + 1) ∧ ∀ v2_7 : Int, v2_7 = x2 + 1 → K26 (v1_6, v2_7)))
def jB_criticalBars (M : zM) (Φ : Int → zM → Prop) : Prop :=
  
    jP_read 0 M (fun M1 => 
      jP_findLatest 0 M1 (fun M2 => zwh (fun K s => jB_criticalBars_L26 K Φ M2 (s.1) (s.2)) (0, 0)))
def jB_count (a1 : Int) (M : zM) (Φ : Int → zM → Prop) : Prop :=
  
    (a1 = 0 → Φ (M 0 0) M) ∧ (¬ (a1 = 0) → 
    (a1 = 1 → Φ (M 0 6) M) ∧ (¬ (a1 = 1) → 
    (a1 = 2 → 
      jC_lanesWithBars 0 M (fun r1 => Φ r1 M)) ∧ (¬ (a1 = 2) → 
    (a1 = 3 → 
      jB_undrawnArrows M (fun r3 M4 => Φ r3 M4)) ∧ (¬ (a1 = 3) → 
    (a1 = 4 → 
      jC_lateArrows 0 M (fun r5 => Φ r5 M)) ∧ (¬ (a1 = 4) → 
    (a1 = 5 → 
      jB_crossingPoints M (fun r7 M8 => Φ r7 M8)) ∧ (¬ (a1 = 5) → 
    (a1 = 6 → 
      jC_greatestEnd 0 M (fun r9 => Φ r9 M)) ∧ (¬ (a1 = 6) → 
    (a1 = 7 → 
      jB_stripsInAll M (fun r11 M12 => Φ r11 M12)) ∧ (¬ (a1 = 7) → 
    (a1 = 8 → 
      jC_greatestEnd 0 M (fun r13 => 
        jC_place 0 r13 M (fun r15 => Φ r15 M))) ∧ (¬ (a1 = 8) → 
    (a1 = 9 → 
      jB_criticalBars M (fun r17 M18 => Φ r17 M18)) ∧ (¬ (a1 = 9) → 
    (a1 = 10 → Φ (M 0 1) M) ∧ (¬ (a1 = 10) → 
    (a1 = 11 → Φ (M 0 7) M) ∧ (¬ (a1 = 11) → 
    (a1 = 12 → Φ (M 0 13) M) ∧ (¬ (a1 = 12) → 
    (a1 = 13 → Φ (M 71 2) M) ∧ (¬ (a1 = 13) → 
    (a1 = 14 → Φ (M 73 1) M) ∧ (¬ (a1 = 14) → 
    (a1 = 15 → Φ (M 9 0) M) ∧ (¬ (a1 = 15) → 
    (a1 = 16 → Φ (M 9 1) M) ∧ (¬ (a1 = 16) → Φ (-2) M)))))))))))))))))
def jB_latest (a1 : Int) (M : zM) (Φ : Int → zM → Prop) : Prop :=
  
    jC_slotOf 0 a1 M (fun r1 => 
      (0 ≤ r1 → 
        jB_latestOf r1 M (fun r3 M4 => Φ r3 M4)) ∧
      (¬ (0 ≤ r1) → Φ (-1) M))
def jP_longestRow_L26 (c1 : Nat) (K4 : (Int × Int × zM) → Prop) (K26 : (Int × Int) → Prop) (Φ : Int → zM → Prop) (x2 x3 x4 : Int) (M : zM) (x5 x6 : Int) : Prop :=
  
    (x3 ≤ x6 → 0 ≤ x4 ∧ x4 < 30 ∧ i32 (x5 + (M (c1 + 4) x4)) ∧ 0 ≤ x4 ∧ x4 < 30 ∧ ∀ M6 : zM, M6 = zup M 81 x4 (x5 + (M (c1 + 4) x4)) → 
      0 ≤ x4 ∧ x4 < 30 ∧ ∀ v2_9 : Int, v2_9 = (max x2 (M6 81 x4)) → 
      i32 (x3 + 1) ∧ ∀ v3_10 : Int, v3_10 = x3 + 1 → K4 (v2_9, v3_10, M6)) ∧
    (¬ (x3 ≤ x6) → 0 ≤ x6 ∧ x6 < 30 ∧ ∀ v7_12 : Int, v7_12 = (M 79 x6) → 
      
      jP_isPushed x4 v7_12 M (fun r13 => 
        (r13 = 0 → i32 (x6 + 1) ∧ ∀ v6_15 : Int, v6_15 = x6 + 1 → K26 (x5, v6_15)) ∧
        (¬ (r13 = 0) → 0 ≤ v7_12 ∧ v7_12 < 30 ∧ ∀ v5_18 : Int, v5_18 = (max x5 (M 81 v7_12)) → 
          i32 (x6 + 1) ∧ ∀ v6_19 : Int, v6_19 = x6 + 1 → K26 (v5_18, v6_19))))
def jP_longestRow_L4 (c1 : Nat) (K4 : (Int × Int × zM) → Prop) (Φ : Int → zM → Prop) (x2 x3 : Int) (M : zM) : Prop :=
  
    ((M c1 0) ≤ x3 → Φ x2 M) ∧
    (¬ ((M c1 0) ≤ x3) → 0 ≤ x3 ∧ x3 < 30 ∧ ∀ v4_2 : Int, v4_2 = (M 79 x3) → 
      zwh (fun K s => jP_longestRow_L26 c1 K4 K Φ x2 x3 v4_2 M (s.1) (s.2)) (0, 0))
def jP_longestRow (c1 : Nat) (M : zM) (Φ : Int → zM → Prop) : Prop :=
  zwh (fun K s => jP_longestRow_L4 c1 K Φ (s.1) (s.2.1) (s.2.2)) (0, 0, M)
def jB_longest (M : zM) (Φ : Int → zM → Prop) : Prop :=
  
    jP_read 0 M (fun M1 => 
      jP_longestRow 0 M1 (fun r2 M3 => Φ r2 M3))
def jB_ifSlipped (a1 a2 : Int) (M : zM) (Φ : Int → zM → Prop) : Prop :=
  
    jC_slotOf 0 a1 M (fun r1 => 
      (0 ≤ r1 → 
        (a2 < 1 → Φ (-2) M) ∧
        (¬ (a2 < 1) → 
          (a2 ≤ 30 → 
            jP_read 0 M (fun M3 => 
              jP_slipFrom 0 r1 a2 M3 (fun r4 M5 => Φ r4 M5))) ∧
          (¬ (a2 ≤ 30) → Φ (-2) M))) ∧
      (¬ (0 ≤ r1) → Φ (-1) M))
def jS_isBetter_J45 (c1 : Nat) (Φ : Int → zM → Prop) (x3 : Int) (M : zM) : Prop :=
  ∀ M4 : zM, M4 = zup M 87 2 (M 82 1) → 
    ∀ M5 : zM, M5 = zup M4 87 3 x3 → 
    Φ 1 M5
def jS_isBetter (c1 : Nat) (M : zM) (Φ : Int → zM → Prop) : Prop :=
  
    jD_draw c1 M (fun M1 => 
      ((M1 82 1) ≤ (M1 87 2) → 
        jD_pointsInAll c1 M1 (fun r2 => 
          (¬ (M1 82 1) = (M1 87 2) → jS_isBetter_J45 c1 Φ r2 M1) ∧
          ((M1 82 1) = (M1 87 2) → 
            (r2 < (M1 87 3) → jS_isBetter_J45 c1 Φ r2 M1) ∧
            (¬ (r2 < (M1 87 3)) → Φ 0 M1)))) ∧
      (¬ ((M1 82 1) ≤ (M1 87 2)) → Φ 0 M1))
def jS_find_J99 (c1 : Nat) (K27 : (Int × Int × zM) → Prop) (K40 : (Int × Int × zM) → Prop) (Φ : Int → zM → Prop) (x3 x4 x5 : Int) (M : zM) : Prop :=
  
    jC_exchangeLanes c1 x4 x5 M (fun M15 => i32 (x5 + 1) ∧ ∀ v5_16 : Int, v5_16 = x5 + 1 → K40 (x3, v5_16, M15))
def jS_find_J68 (c1 : Nat) (K27 : (Int × Int × zM) → Prop) (K40 : (Int × Int × zM) → Prop) (Φ : Int → zM → Prop) (x3 x4 x5 : Int) (M : zM) : Prop :=
  
    jC_exchangeLanes c1 x4 x5 M (fun M12 => 
      jS_isBetter c1 M12 (fun r13 M14 => 
        (r13 = 0 → jS_find_J99 c1 K27 K40 Φ x3 x4 x5 M14) ∧
        (¬ (r13 = 0) → ∀ M17 : zM, M17 = zup M14 87 0 x4 → 
          ∀ M18 : zM, M18 = zup M17 87 1 x5 → 
          jS_find_J99 c1 K27 K40 Φ 1 x4 x5 M18)))
def jS_find_L40 (c1 : Nat) (K27 : (Int × Int × zM) → Prop) (K40 : (Int × Int × zM) → Prop) (Φ : Int → zM → Prop) (x4 : Int) (x3 x5 : Int) (M : zM) : Prop :=
  
    (12 ≤ x5 → i32 (x4 + 1) ∧ ∀ v4_9 : Int, v4_9 = x4 + 1 → K27 (x3, v4_9, M)) ∧
    (¬ (12 ≤ x5) → 
      jC_hasBars c1 x4 M (fun r10 => 
        (¬ r10 = 0 → jS_find_J68 c1 K27 K40 Φ x3 x4 x5 M) ∧
        (r10 = 0 → 
          jC_hasBars c1 x5 M (fun r20 => 
            (¬ r20 = 0 → jS_find_J68 c1 K27 K40 Φ x3 x4 x5 M) ∧
            (r20 = 0 → i32 (x5 + 1) ∧ ∀ v5_22 : Int, v5_22 = x5 + 1 → K40 (x3, v5_22, M))))))
def jS_find_L27 (c1 : Nat) (K27 : (Int × Int × zM) → Prop) (Φ : Int → zM → Prop) (x3 x4 : Int) (M : zM) : Prop :=
  
    (12 ≤ x4 → (x3 = 0 ∨ x3 = 1) ∧ Φ x3 M) ∧
    (¬ (12 ≤ x4) → i32 (x4 + 1) ∧ ∀ v5_8 : Int, v5_8 = (x4 + 1) → 
      zwh (fun K s => jS_find_L40 c1 K27 K Φ x4 (s.1) (s.2.1) (s.2.2)) (x3, v5_8, M))
def jS_find (c1 : Nat) (M : zM) (Φ : Int → zM → Prop) : Prop :=
  
    jD_draw c1 M (fun M1 => ∀ M2 : zM, M2 = zup M1 87 2 (M1 82 1) → 
      
      jD_pointsInAll c1 M2 (fun r3 => ∀ M5 : zM, M5 = zup M2 87 3 r3 → 
        zwh (fun K s => jS_find_L27 c1 K Φ (s.1) (s.2.1) (s.2.2)) (0, 0, M5)))
def jB_bestSwap (a1 : Int) (M : zM) (Φ : Int → zM → Prop) : Prop :=
  
    (a1 < 0 → Φ (-2) M) ∧
    (¬ (a1 < 0) → 
      (a1 ≤ 3 → 
        jC_copyFrom 10 0 M (fun M1 => 
          jS_find 10 M1 (fun r2 M3 => 
            (¬ r2 = 0 → 
              (a1 = 0 → Φ (M3 87 0) M3) ∧ (¬ (a1 = 0) → 
              (a1 = 1 → Φ (M3 87 1) M3) ∧ (¬ (a1 = 1) → 
              (a1 = 2 → Φ (M3 87 2) M3) ∧ (¬ (a1 = 2) → Φ (M3 87 3) M3)))) ∧
            (r2 = 0 → Φ (-5) M3)))) ∧
      (¬ (a1 ≤ 3) → Φ (-2) M))
def jB_bestLane_L43 (a1 : Int) (K43 : (Int × Int × Int × zM) → Prop) (Φ : Int → zM → Prop) (x2 : Int) (x3 x4 x5 : Int) (M : zM) : Prop :=
  
    (12 ≤ x5 → Φ x3 M) ∧
    (¬ (12 ≤ x5) → 0 ≤ x2 ∧ x2 < 30 ∧ 0 ≤ x2 ∧ x2 < 30 ∧ 
      jC_hasRoom 0 x5 (M 3 x2) (M 4 x2) x2 M (fun r8 => 
        (r8 = 0 → i32 (x5 + 1) ∧ ∀ v5_10 : Int, v5_10 = x5 + 1 → K43 (x3, x4, v5_10, M)) ∧
        (¬ (r8 = 0) → 0 ≤ x2 ∧ x2 < 30 ∧ ∀ M12 : zM, M12 = zup M 12 x2 x5 → 
          
          jD_draw 10 M12 (fun M13 => 
            (x4 ≤ (M13 82 1) → i32 (x5 + 1) ∧ ∀ v5_14 : Int, v5_14 = x5 + 1 → K43 (x3, x4, v5_14, M13)) ∧
            (¬ (x4 ≤ (M13 82 1)) → ∀ v4_15 : Int, v4_15 = (M13 82 1) → 
              i32 (x5 + 1) ∧ ∀ v5_16 : Int, v5_16 = x5 + 1 → K43 (x5, v4_15, v5_16, M13))))))
def jB_bestLane (a1 : Int) (M : zM) (Φ : Int → zM → Prop) : Prop :=
  
    jC_slotOf 0 a1 M (fun r1 => 
      (0 ≤ r1 → 
        jC_copyFrom 10 0 M (fun M3 => 0 ≤ r1 ∧ r1 < 30 ∧ ∀ v3_5 : Int, v3_5 = (M3 2 r1) → 
          zwh (fun K s => jB_bestLane_L43 a1 K Φ r1 (s.1) (s.2.1) (s.2.2.1) (s.2.2.2)) (v3_5, 41, 0, M3))) ∧
      (¬ (0 ≤ r1) → Φ (-1) M))
def jL_low (a1 a2 : Int) (M : zM) (Φ : Int → Prop) : Prop :=
  0 ≤ (zand a1 2147483647) ∧ 0 < a2 ∧ Φ ((zand a1 2147483647) % a2)
def jL_bar_J64 (a2 : Int) (Φ : Int → zM → Prop) (M : zM) : Prop :=
  Φ (-1) M
def jL_bar_J51 (a2 : Int) (Φ : Int → zM → Prop) (x2 x3 : Int) (M : zM) : Prop :=
  
    (x2 = 0 → jL_bar_J64 a2 Φ M) ∧
    (¬ (x2 = 0) → 
      jB_barOf x3 0 M (fun r5 M6 => 
        (0 ≤ r5 → Φ x3 M6) ∧
        (¬ (0 ≤ r5) → jL_bar_J64 a2 Φ M6)))
def jL_bar_L24 (a2 : Int) (K24 : (Int × Int × zM) → Prop) (Φ : Int → zM → Prop) (x2 : Int) (x3 x4 : Int) (M : zM) : Prop :=
  
    (x2 ≤ x4 → jL_bar_J51 a2 Φ x2 x3 M) ∧
    (¬ (x2 ≤ x4) → 
      jB_barOf x3 0 M (fun r9 M10 => 
        (0 ≤ r9 → jL_bar_J51 a2 Φ x2 x3 M10) ∧
        (¬ (0 ≤ r9) → i32 (x3 + 1) ∧ 0 ≤ (x3 + 1) ∧ 0 < x2 ∧ ∀ v3_13 : Int, v3_13 = ((x3 + 1) % x2) → 
          i32 (x4 + 1) ∧ ∀ v4_14 : Int, v4_14 = x4 + 1 → K24 (v3_13, v4_14, M10))))
def jL_bar_J20 (a2 : Int) (Φ : Int → zM → Prop) (x2 s0 : Int) (M : zM) : Prop :=
  zwh (fun K s => jL_bar_L24 a2 K Φ x2 (s.1) (s.2.1) (s.2.2)) (s0, 0, M)
def jL_bar (a2 : Int) (M : zM) (Φ : Int → zM → Prop) : Prop :=
  
    jB_count 10 M (fun r1 M2 => 
      (¬ r1 = 0 → 
        jL_low a2 r1 M2 (fun r3 => jL_bar_J20 a2 Φ r1 r3 M2)) ∧
      (r1 = 0 → jL_bar_J20 a2 Φ r1 (-1) M2))
def jL_arrow_J64 (a2 : Int) (Φ : Int → zM → Prop) (M : zM) : Prop :=
  Φ (-1) M
def jL_arrow_J51 (a2 : Int) (Φ : Int → zM → Prop) (x2 x3 : Int) (M : zM) : Prop :=
  
    (x2 = 0 → jL_arrow_J64 a2 Φ M) ∧
    (¬ (x2 = 0) → 
      jB_arrowOf x3 0 M (fun r5 M6 => 
        (0 ≤ r5 → Φ x3 M6) ∧
        (¬ (0 ≤ r5) → jL_arrow_J64 a2 Φ M6)))
def jL_arrow_L24 (a2 : Int) (K24 : (Int × Int × zM) → Prop) (Φ : Int → zM → Prop) (x2 : Int) (x3 x4 : Int) (M : zM) : Prop :=
  
    (x2 ≤ x4 → jL_arrow_J51 a2 Φ x2 x3 M) ∧
    (¬ (x2 ≤ x4) → 
      jB_arrowOf x3 0 M (fun r9 M10 => 
        (0 ≤ r9 → jL_arrow_J51 a2 Φ x2 x3 M10) ∧
        (¬ (0 ≤ r9) → i32 (x3 + 1) ∧ 0 ≤ (x3 + 1) ∧ 0 < x2 ∧ ∀ v3_13 : Int, v3_13 = ((x3 + 1) % x2) → 
          i32 (x4 + 1) ∧ ∀ v4_14 : Int, v4_14 = x4 + 1 → K24 (v3_13, v4_14, M10))))
def jL_arrow_J20 (a2 : Int) (Φ : Int → zM → Prop) (x2 s0 : Int) (M : zM) : Prop :=
  zwh (fun K s => jL_arrow_L24 a2 K Φ x2 (s.1) (s.2.1) (s.2.2)) (s0, 0, M)
def jL_arrow (a2 : Int) (M : zM) (Φ : Int → zM → Prop) : Prop :=
  
    jB_count 11 M (fun r1 M2 => 
      (¬ r1 = 0 → 
        jL_low a2 r1 M2 (fun r3 => jL_arrow_J20 a2 Φ r1 r3 M2)) ∧
      (r1 = 0 → jL_arrow_J20 a2 Φ r1 (-1) M2))
def jL_does_J156 (a2 : Int) (Φ : Int → zM → Prop) (M : zM) : Prop :=
  Φ 0 M
def jL_does_J347 (a2 : Int) (Φ : Int → zM → Prop) (s1 s2 : Int) (M : zM) : Prop :=
  
    jB_set s1 s2 M (fun r110 M111 => Φ r110 M111)
def jL_does_J363 (a2 : Int) (Φ : Int → zM → Prop) (M : zM) : Prop :=
  
    jB_count 1 M (fun r115 M116 => 
      (r115 ≤ 6 → Φ 0 M116) ∧
      (¬ (r115 ≤ 6) → 
        jL_arrow (zshr a2 5) M116 (fun r117 M118 => 
          jB_takeArrow r117 M118 (fun r119 M120 => Φ r119 M120))))
def jL_does (a2 : Int) (M : zM) (Φ : Int → zM → Prop) : Prop :=
  
    jL_bar (zshr a2 4) M (fun r1 M2 => 
      jL_bar (zshr a2 8) M2 (fun r3 M4 => 
        ((zand a2 15) = 0 → 
          jB_count 0 M4 (fun r5 M6 => 
            (r5 ≤ 9 → 
              jL_low (zshr a2 4) 5 M6 (fun r7 => 
                jL_low (zshr a2 6) 40 M6 (fun r9 => 
                  jL_low (zshr a2 9) 8 M6 (fun r11 => i32 (1 + r11) ∧ 
                    jB_bar r7 r9 (1 + r11) M6 (fun r14 M15 => Φ r14 M15))))) ∧
            (¬ (r5 ≤ 9) → Φ 0 M6))) ∧ (¬ ((zand a2 15) = 0) → 
        ((zand a2 15) = 1 → 
          jB_count 0 M4 (fun r17 M18 => 
            (r17 ≤ 9 → 
              jL_low (zshr a2 4) 5 M18 (fun r19 => 
                jL_low (zshr a2 6) 40 M18 (fun r21 => 
                  jL_low (zshr a2 9) 8 M18 (fun r23 => i32 (1 + r23) ∧ 
                    jB_bar r19 r21 (1 + r23) M18 (fun r26 M27 => Φ r26 M27))))) ∧
            (¬ (r17 ≤ 9) → Φ 0 M18))) ∧ (¬ ((zand a2 15) = 1) → 
        ((zand a2 15) = 2 → 
          jB_count 0 M4 (fun r29 M30 => 
            (r29 ≤ 9 → 
              jL_low (zshr a2 4) 5 M30 (fun r31 => 
                jL_low (zshr a2 6) 40 M30 (fun r33 => 
                  jL_low (zshr a2 9) 8 M30 (fun r35 => i32 (1 + r35) ∧ 
                    jB_bar r31 r33 (1 + r35) M30 (fun r38 M39 => Φ r38 M39))))) ∧
            (¬ (r29 ≤ 9) → Φ 0 M30))) ∧ (¬ ((zand a2 15) = 2) → 
        ((zand a2 15) = 3 → 
          (r1 < 0 → jL_does_J156 a2 Φ M4) ∧
          (¬ (r1 < 0) → 
            jB_count 1 M4 (fun r41 M42 => 
              (r41 ≤ 11 → 
                jB_arrow r1 r3 M42 (fun r43 M44 => Φ r43 M44)) ∧
              (¬ (r41 ≤ 11) → jL_does_J156 a2 Φ M42)))) ∧ (¬ ((zand a2 15) = 3) → 
        ((zand a2 15) = 4 → 
          (r1 < 0 → jL_does_J156 a2 Φ M4) ∧
          (¬ (r1 < 0) → 
            jB_count 1 M4 (fun r47 M48 => 
              (r47 ≤ 11 → 
                jB_arrow r1 r3 M48 (fun r49 M50 => Φ r49 M50)) ∧
              (¬ (r47 ≤ 11) → jL_does_J156 a2 Φ M48)))) ∧ (¬ ((zand a2 15) = 4) → 
        ((zand a2 15) = 5 → 
          (r1 < 0 → jL_does_J156 a2 Φ M4) ∧
          (¬ (r1 < 0) → 
            jB_count 1 M4 (fun r53 M54 => 
              (r53 ≤ 11 → 
                jB_arrow r1 r3 M54 (fun r55 M56 => Φ r55 M56)) ∧
              (¬ (r53 ≤ 11) → jL_does_J156 a2 Φ M54)))) ∧ (¬ ((zand a2 15) = 5) → 
        ((zand a2 15) = 6 → 
          (0 ≤ r1 → 
            jL_low (zshr a2 5) 5 M4 (fun r59 => 
              jL_low (zshr a2 7) 50 M4 (fun r61 => 
                jB_move r1 r59 r61 M4 (fun r63 M64 => Φ r63 M64)))) ∧
          (¬ (0 ≤ r1) → Φ 0 M4)) ∧ (¬ ((zand a2 15) = 6) → 
        ((zand a2 15) = 7 → 
          (0 ≤ r1 → 
            jL_low (zshr a2 5) 5 M4 (fun r66 => 
              jL_low (zshr a2 7) 50 M4 (fun r68 => 
                jB_move r1 r66 r68 M4 (fun r70 M71 => Φ r70 M71)))) ∧
          (¬ (0 ≤ r1) → Φ 0 M4)) ∧ (¬ ((zand a2 15) = 7) → 
        ((zand a2 15) = 8 → 
          jL_low (zshr a2 4) 6 M4 (fun r73 => 
            jL_low (zshr a2 7) 6 M4 (fun r75 => 
              jB_swap r73 r75 M4 (fun r77 M78 => Φ r77 M78)))) ∧ (¬ ((zand a2 15) = 8) → 
        ((zand a2 15) = 9 → 
          (¬ (zand (zshr a2 4) 3) = 0 → Φ 0 M4) ∧
          ((zand (zshr a2 4) 3) = 0 → 
            jB_pack M4 (fun r79 M80 => Φ r79 M80))) ∧ (¬ ((zand a2 15) = 9) → 
        ((zand a2 15) = 10 → 
          (0 ≤ r1 → 
            jL_low (zshr a2 8) 12 M4 (fun r82 => i32 (1 + r82) ∧ 
              jB_slip r1 (1 + r82) M4 (fun r85 M86 => Φ r85 M86))) ∧
          (¬ (0 ≤ r1) → Φ 0 M4)) ∧ (¬ ((zand a2 15) = 10) → 
        ((zand a2 15) = 11 → 
          (0 ≤ r1 → 
            jL_low (zshr a2 8) 12 M4 (fun r88 => i32 (1 + r88) ∧ 
              jB_slip r1 (1 + r88) M4 (fun r91 M92 => Φ r91 M92))) ∧
          (¬ (0 ≤ r1) → Φ 0 M4)) ∧ (¬ ((zand a2 15) = 11) → 
        ((zand a2 15) = 12 → 
          (0 ≤ r1 → 
            jB_pull r1 M4 (fun r94 M95 => Φ r94 M95)) ∧
          (¬ (0 ≤ r1) → Φ 0 M4)) ∧ (¬ ((zand a2 15) = 12) → 
        ((zand a2 15) = 13 → 
          jL_low (zshr a2 4) 60 M4 (fun r97 => 
            jL_low (zshr a2 6) 140 M4 (fun r99 => i32 (60 + r99) ∧ 
              jL_low (zshr a2 8) 9 M4 (fun r102 => i32 (1 + r102) ∧ 
                jB_width r97 (60 + r99) (1 + r102) M4 (fun r105 M106 => Φ r105 M106))))) ∧ (¬ ((zand a2 15) = 13) → 
        ((zand a2 15) = 14 → 
          (¬ (zand (zshr a2 4) 1) = 0 → 
            jL_low (zshr a2 5) 80 M4 (fun r107 => i32 (10 + r107) ∧ jL_does_J347 a2 Φ (zand (zshr a2 4) 1) (10 + r107) M4)) ∧
          ((zand (zshr a2 4) 1) = 0 → 
            jL_low (zshr a2 5) 3 M4 (fun r112 => jL_does_J347 a2 Φ (zand (zshr a2 4) 1) r112 M4))) ∧ (¬ ((zand a2 15) = 14) → 
          (r1 < 0 → jL_does_J363 a2 Φ M4) ∧
          (¬ (r1 < 0) → 
            (¬ (zand (zshr a2 4) 1) = 0 → 
              jB_count 0 M4 (fun r122 M123 => 
                (r122 ≤ 6 → Φ 0 M123) ∧
                (¬ (r122 ≤ 6) → 
                  jB_takeBar r1 M123 (fun r124 M125 => Φ r124 M125)))) ∧
            ((zand (zshr a2 4) 1) = 0 → jL_does_J363 a2 Φ M4)))))))))))))))))))
def jL_isArrowSo_J381 (a2 : Int) (Φ : Int → zM → Prop) (M : zM) : Prop :=
  Φ 1 M
def jL_isArrowSo_J351 (a2 : Int) (Φ : Int → zM → Prop) (x6 s0 s1 : Int) (M : zM) : Prop :=
  
    (¬ s0 = s1 → Φ 0 M) ∧
    (s0 = s1 → 
      (0 ≤ x6 → jL_isArrowSo_J381 a2 Φ M) ∧
      (¬ (0 ≤ x6) → 
        jB_arrowOf a2 6 M (fun r20 M21 => 
          (¬ r20 = 0 → Φ 0 M21) ∧
          (r20 = 0 → 
            jB_arrowOf a2 7 M21 (fun r22 M23 => 
              (¬ r22 = (-5) → Φ 0 M23) ∧
              (r22 = (-5) → jL_isArrowSo_J381 a2 Φ M23))))))
def jL_isArrowSo_J341 (a2 : Int) (Φ : Int → zM → Prop) (x6 s0 : Int) (M : zM) : Prop :=
  
    (0 ≤ x6 → jL_isArrowSo_J351 a2 Φ x6 s0 0 M) ∧
    (¬ (0 ≤ x6) → jL_isArrowSo_J351 a2 Φ x6 s0 1 M)
def jL_isArrowSo_J324 (a2 : Int) (Φ : Int → zM → Prop) (x6 s0 s1 : Int) (M : zM) : Prop :=
  
    (¬ s0 = s1 → Φ 0 M) ∧
    (s0 = s1 → 
      jB_arrowOf a2 5 M (fun r18 M19 => 
        (0 ≤ r18 → jL_isArrowSo_J341 a2 Φ x6 0 M19) ∧
        (¬ (0 ≤ r18) → jL_isArrowSo_J341 a2 Φ x6 1 M19)))
def jL_isArrowSo_J319 (a2 : Int) (Φ : Int → zM → Prop) (x6 s0 : Int) (M : zM) : Prop :=
  jL_isArrowSo_J324 a2 Φ x6 s0 1 M
def jL_isArrowSo_J309 (a2 : Int) (Φ : Int → zM → Prop) (x6 x7 x10 s0 : Int) (M : zM) : Prop :=
  
    (0 < x10 → jL_isArrowSo_J319 a2 Φ x6 s0 M) ∧
    (¬ (0 < x10) → 
      (¬ x7 = 0 → jL_isArrowSo_J324 a2 Φ x6 s0 0 M) ∧
      (x7 = 0 → jL_isArrowSo_J319 a2 Φ x6 s0 M))
def jL_isArrowSo_J268 (a2 : Int) (Φ : Int → zM → Prop) (x6 x7 x8 s0 : Int) (M : zM) : Prop :=
  
    jB_arrowOf a2 3 M (fun r14 M15 => 
      (¬ r14 = s0 → Φ 0 M15) ∧
      (r14 = s0 → 
        jB_arrowOf a2 4 M15 (fun r16 M17 => 
          (¬ r16 = x7 → Φ 0 M17) ∧
          (r16 = x7 → 
            (¬ x6 = x8 → Φ 0 M17) ∧
            (x6 = x8 → 
              (0 ≤ x6 → jL_isArrowSo_J309 a2 Φ x6 x7 s0 0 M17) ∧
              (¬ (0 ≤ x6) → jL_isArrowSo_J309 a2 Φ x6 x7 s0 1 M17))))))
def jL_isArrowSo_J223 (a2 : Int) (K56 : (Int × Int × Int × Int × zM) → Prop) (Φ : Int → zM → Prop) (x4 x5 x6 x7 x9 x10 x11 x15 s0 : Int) (M : zM) : Prop :=
  
    (¬ x11 = 0 → i32 (x10 + 1) ∧ ∀ v10_52 : Int, v10_52 = x10 + 1 → K56 (x7, s0, x9, v10_52, M)) ∧
    (x11 = 0 → 
      (x9 ≤ x15 → i32 (x10 + 1) ∧ ∀ v10_53 : Int, v10_53 = x10 + 1 → K56 (x7, s0, x9, v10_53, M)) ∧
      (¬ (x9 ≤ x15) → i32 (x10 + 1) ∧ ∀ v10_54 : Int, v10_54 = x10 + 1 → K56 (x7, s0, x15, v10_54, M)))
def jL_isArrowSo_J221 (a2 : Int) (K56 : (Int × Int × Int × Int × zM) → Prop) (Φ : Int → zM → Prop) (x4 x5 x6 x7 x8 x9 x10 x11 x15 : Int) (M : zM) : Prop :=
  jL_isArrowSo_J223 a2 K56 Φ x4 x5 x6 x7 x9 x10 x11 x15 x8 M
def jL_isArrowSo_J201 (a2 : Int) (K56 : (Int × Int × Int × Int × zM) → Prop) (Φ : Int → zM → Prop) (x4 x5 x6 x8 x9 x10 x11 x15 s0 s1 : Int) (M : zM) : Prop :=
  i32 (s0 + s1) ∧ ∀ v7_51 : Int, v7_51 = (s0 + s1) → 
    
    (¬ x11 = 0 → jL_isArrowSo_J221 a2 K56 Φ x4 x5 x6 v7_51 x8 x9 x10 x11 x15 M) ∧
    (x11 = 0 → 
      (x9 ≤ x15 → jL_isArrowSo_J221 a2 K56 Φ x4 x5 x6 v7_51 x8 x9 x10 x11 x15 M) ∧
      (¬ (x9 ≤ x15) → jL_isArrowSo_J223 a2 K56 Φ x4 x5 x6 v7_51 x9 x10 x11 x15 x10 M))
def jL_isArrowSo_J187 (a2 : Int) (K56 : (Int × Int × Int × Int × zM) → Prop) (Φ : Int → zM → Prop) (x4 x5 x6 x7 x8 x9 x10 x11 s0 : Int) (M : zM) : Prop :=
  
    (¬ x11 = 0 → jL_isArrowSo_J201 a2 K56 Φ x4 x5 x6 x8 x9 x10 x11 s0 x7 0 M) ∧
    (x11 = 0 → jL_isArrowSo_J201 a2 K56 Φ x4 x5 x6 x8 x9 x10 x11 s0 x7 1 M)
def jL_isArrowSo_J108 (a2 : Int) (K56 : (Int × Int × Int × Int × zM) → Prop) (Φ : Int → zM → Prop) (x4 x5 x6 x7 x8 x9 x10 x11 s0 s1 : Int) (M : zM) : Prop :=
  
    (s0 = s1 → Φ 0 M) ∧
    (¬ (s0 = s1) → 
      (x11 < 0 → Φ 0 M) ∧
      (¬ (x11 < 0) → 
        (x11 ≤ 4 → i32 (x10 - x4) ∧ ∀ v13_42 : Int, v13_42 = (x10 - x4) → 
          i32 (x5 - x10) ∧ ∀ v14_44 : Int, v14_44 = (x5 - x10) → 
          
          jB_count 15 M (fun r45 M46 => 
            (¬ r45 = 0 → 
              jB_count 15 M46 (fun r47 M48 => 
                (¬ r47 = 1 → 
                  (v14_44 ≤ v13_42 → i32 (v13_42 - v14_44) ∧ jL_isArrowSo_J187 a2 K56 Φ x4 x5 x6 x7 x8 x9 x10 x11 (v13_42 - v14_44) M48) ∧
                  (¬ (v14_44 ≤ v13_42) → i32 (v14_44 - v13_42) ∧ jL_isArrowSo_J187 a2 K56 Φ x4 x5 x6 x7 x8 x9 x10 x11 (v14_44 - v13_42) M48)) ∧
                (r47 = 1 → jL_isArrowSo_J187 a2 K56 Φ x4 x5 x6 x7 x8 x9 x10 x11 v14_44 M48))) ∧
            (r45 = 0 → jL_isArrowSo_J187 a2 K56 Φ x4 x5 x6 x7 x8 x9 x10 x11 v13_42 M46))) ∧
        (¬ (x11 ≤ 4) → Φ 0 M)))
def jL_isArrowSo_J93 (a2 : Int) (K56 : (Int × Int × Int × Int × zM) → Prop) (Φ : Int → zM → Prop) (x4 x5 x6 x7 x8 x9 x10 x11 s0 : Int) (M : zM) : Prop :=
  
    (¬ x11 = 1 → jL_isArrowSo_J108 a2 K56 Φ x4 x5 x6 x7 x8 x9 x10 x11 s0 0 M) ∧
    (x11 = 1 → jL_isArrowSo_J108 a2 K56 Φ x4 x5 x6 x7 x8 x9 x10 x11 s0 1 M)
def jL_isArrowSo_J92 (a2 : Int) (K56 : (Int × Int × Int × Int × zM) → Prop) (Φ : Int → zM → Prop) (x4 x5 x6 x7 x8 x9 x10 x11 : Int) (M : zM) : Prop :=
  jL_isArrowSo_J93 a2 K56 Φ x4 x5 x6 x7 x8 x9 x10 x11 0 M
def jL_isArrowSo_L56 (a2 : Int) (K56 : (Int × Int × Int × Int × zM) → Prop) (Φ : Int → zM → Prop) (x4 x5 x6 : Int) (x7 x8 x9 x10 : Int) (M : zM) : Prop :=
  i32 (x5 + 1) ∧ 
    ((x5 + 1) < x10 → 
      (x4 ≤ x5 → jL_isArrowSo_J268 a2 Φ x6 x7 x8 0 M) ∧
      (¬ (x4 ≤ x5) → i32 (x4 - x5) ∧ jL_isArrowSo_J268 a2 Φ x6 x7 x8 (x4 - x5) M)) ∧
    (¬ ((x5 + 1) < x10) → 
      jB_reason a2 x10 M (fun r39 M40 => 
        (x10 < x4 → jL_isArrowSo_J92 a2 K56 Φ x4 x5 x6 x7 x8 x9 x10 r39 M40) ∧
        (¬ (x10 < x4) → 
          (x5 < x10 → jL_isArrowSo_J92 a2 K56 Φ x4 x5 x6 x7 x8 x9 x10 r39 M40) ∧
          (¬ (x5 < x10) → jL_isArrowSo_J93 a2 K56 Φ x4 x5 x6 x7 x8 x9 x10 r39 1 M40))))
def jL_isArrowSo (a2 : Int) (M : zM) (Φ : Int → zM → Prop) : Prop :=
  
    jB_arrowOf a2 0 M (fun r1 M2 => 
      jB_arrowOf a2 1 M2 (fun r3 M4 => 
        jB_barOf r1 3 M4 (fun r5 M6 => 
          jB_barOf r3 1 M6 (fun r7 M8 => 
            jB_arrowOf a2 2 M8 (fun r9 M10 => i32 (r5 - 1) ∧ ∀ v10_12 : Int, v10_12 = (r5 - 1) → 
              zwh (fun K s => jL_isArrowSo_L56 a2 K Φ r5 r7 r9 (s.1) (s.2.1) (s.2.2.1) (s.2.2.2.1) (s.2.2.2.2)) (0, (-5), 9999, v10_12, M10))))))
def jL_isChartSo_J444 (K393 : (Int × Int × Int × Int × zM) → Prop) (Φ : Int → zM → Prop) (x1 x2 x3 x4 x5 x6 x7 x8 x9 x10 x12 x13 s0 s1 : Int) (M : zM) : Prop :=
  i32 (s0 + s1) ∧ ∀ v11_49 : Int, v11_49 = (s0 + s1) → 
    
    jB_arrowOf x13 3 M (fun r50 M51 => 
      (r50 ≤ 0 → i32 (x12 + 0) ∧ ∀ v12_53 : Int, v12_53 = (x12 + 0) → 
        i32 (x13 + 1) ∧ ∀ v13_54 : Int, v13_54 = x13 + 1 → K393 (x10, v11_49, v12_53, v13_54, M51)) ∧
      (¬ (r50 ≤ 0) → i32 (x12 + 1) ∧ ∀ v12_56 : Int, v12_56 = (x12 + 1) → 
        i32 (x13 + 1) ∧ ∀ v13_57 : Int, v13_57 = x13 + 1 → K393 (x10, v11_49, v12_56, v13_57, M51)))
def jL_isChartSo_L393 (K393 : (Int × Int × Int × Int × zM) → Prop) (Φ : Int → zM → Prop) (x1 x2 x3 x4 x5 x6 x7 x8 x9 : Int) (x10 x11 x12 x13 : Int) (M : zM) : Prop :=
  
    jB_count 11 M (fun r5 M6 => 
      (r5 ≤ x13 → 
        (x5 = 0 → Φ 0 M6) ∧
        (¬ (x5 = 0) → 
          jB_count 0 M6 (fun r7 M8 => 
            (¬ x2 = r7 → Φ 0 M8) ∧
            (x2 = r7 → 
              jB_count 6 M8 (fun r9 M10 => 
                (¬ x1 = r9 → Φ 0 M10) ∧
                (x1 = r9 → 
                  (¬ x4 = x1 → Φ 0 M10) ∧
                  (x4 = x1 → 
                    jB_count 9 M10 (fun r11 M12 => 
                      (¬ x3 = r11 → Φ 0 M12) ∧
                      (x3 = r11 → 
                        (¬ x6 = x1 → Φ 0 M12) ∧
                        (x6 = x1 → 
                          jB_count 8 M12 (fun r13 M14 => 
                            (¬ x7 = r13 → Φ 0 M14) ∧
                            (x7 = r13 → 
                              (¬ x8 = x2 → Φ 0 M14) ∧
                              (x8 = x2 → 
                                jB_strip x9 0 M14 (fun r15 M16 => 
                                  (¬ r15 = (-5) → Φ 0 M16) ∧
                                  (r15 = (-5) → 
                                    jB_count 5 M16 (fun r17 M18 => i32 (2 * r17) ∧ 
                                      (¬ x10 = (2 * r17) → Φ 0 M18) ∧
                                      (x10 = (2 * r17) → 
                                        jB_count 3 M18 (fun r20 M21 => 
                                          (¬ x11 = r20 → Φ 0 M21) ∧
                                          (x11 = r20 → 
                                            jB_count 4 M21 (fun r22 M23 => 
                                              (¬ x12 = r22 → Φ 0 M23) ∧
                                              (x12 = r22 → 
                                                jB_longest M23 (fun r24 M25 => 
                                                  (x1 < r24 → Φ 0 M25) ∧
                                                  (¬ (x1 < r24) → Φ 1 M25))))))))))))))))))))))) ∧
      (¬ (r5 ≤ x13) → 
        jB_arrowOf x13 0 M6 (fun r39 M40 => 
          (r39 < 0 → i32 (x13 + 1) ∧ ∀ v13_41 : Int, v13_41 = x13 + 1 → K393 (x10, x11, x12, v13_41, M40)) ∧
          (¬ (r39 < 0) → 
            jB_arrowOf x13 6 M40 (fun r42 M43 => i32 (x10 + r42) ∧ ∀ v10_45 : Int, v10_45 = (x10 + r42) → 
              
              jB_arrowOf x13 2 M43 (fun r46 M47 => 
                (0 ≤ r46 → jL_isChartSo_J444 K393 Φ x1 x2 x3 x4 x5 x6 x7 x8 x9 v10_45 x12 x13 x11 0 M47) ∧
                (¬ (0 ≤ r46) → jL_isChartSo_J444 K393 Φ x1 x2 x3 x4 x5 x6 x7 x8 x9 v10_45 x12 x13 x11 1 M47)))))))
def jL_isChartSo_J337 (K267 : (Int × Int × Int × Int × Int × zM) → Prop) (Φ : Int → zM → Prop) (x1 x2 x3 x4 x6 x7 x8 x9 x10 s0 : Int) (M : zM) : Prop :=
  
    jB_strip x10 1 M (fun r64 M65 => i32 (x6 + r64) ∧ ∀ v6_67 : Int, v6_67 = (x6 + r64) → 
      
      jB_strip x10 2 M65 (fun r68 M69 => i32 (x7 + r68) ∧ ∀ v7_71 : Int, v7_71 = (x7 + r68) → 
        
        jB_strip x10 4 M69 (fun r72 M73 => i32 (x8 + r72) ∧ ∀ v8_75 : Int, v8_75 = (x8 + r72) → 
          i32 (x10 + 1) ∧ ∀ v10_76 : Int, v10_76 = x10 + 1 → K267 (s0, v6_67, v7_71, v8_75, v10_76, M73))))
def jL_isChartSo_J336 (K267 : (Int × Int × Int × Int × Int × zM) → Prop) (Φ : Int → zM → Prop) (x1 x2 x3 x4 x6 x7 x8 x9 x10 : Int) (M : zM) : Prop :=
  jL_isChartSo_J337 K267 Φ x1 x2 x3 x4 x6 x7 x8 x9 x10 0 M
def jL_isChartSo_J332 (K267 : (Int × Int × Int × Int × Int × zM) → Prop) (Φ : Int → zM → Prop) (x1 x2 x3 x4 x6 x7 x8 x9 x10 : Int) (M : zM) : Prop :=
  jL_isChartSo_J337 K267 Φ x1 x2 x3 x4 x6 x7 x8 x9 x10 1 M
def jL_isChartSo_L267 (K267 : (Int × Int × Int × Int × Int × zM) → Prop) (Φ : Int → zM → Prop) (x1 x2 x3 x4 x9 : Int) (x5 x6 x7 x8 x10 : Int) (M : zM) : Prop :=
  
    (x9 ≤ x10 → zwh (fun K s => jL_isChartSo_L393 K Φ x1 x2 x3 x4 x5 x6 x7 x8 x9 (s.1) (s.2.1) (s.2.2.1) (s.2.2.2.1) (s.2.2.2.2)) (0, 0, 0, 0, M)) ∧
    (¬ (x9 ≤ x10) → 
      jB_count 16 M (fun r62 M63 => 
        (x5 = 0 → jL_isChartSo_J336 K267 Φ x1 x2 x3 x4 x6 x7 x8 x9 x10 M63) ∧
        (¬ (x5 = 0) → 
          jB_strip x10 0 M63 (fun r77 M78 => 
            (¬ r77 = x6 → jL_isChartSo_J336 K267 Φ x1 x2 x3 x4 x6 x7 x8 x9 x10 M78) ∧
            (r77 = x6 → 
              jB_strip x10 1 M78 (fun r79 M80 => 
                (r79 ≤ 0 → jL_isChartSo_J336 K267 Φ x1 x2 x3 x4 x6 x7 x8 x9 x10 M80) ∧
                (¬ (r79 ≤ 0) → 
                  jB_strip x10 2 M80 (fun r81 M82 => 
                    (r81 ≤ r62 → jL_isChartSo_J332 K267 Φ x1 x2 x3 x4 x6 x7 x8 x9 x10 M82) ∧
                    (¬ (r81 ≤ r62) → 
                      jB_strip x10 1 M82 (fun r83 M84 => 
                        (¬ r83 = 1 → jL_isChartSo_J336 K267 Φ x1 x2 x3 x4 x6 x7 x8 x9 x10 M84) ∧
                        (r83 = 1 → jL_isChartSo_J332 K267 Φ x1 x2 x3 x4 x6 x7 x8 x9 x10 M84)))))))))))
def jL_isChartSo_J132 (K15 : (Int × Int × Int × Int × Int × Int × zM) → Prop) (Φ : Int → zM → Prop) (x1 x2 x3 x5 x6 x7 x8 s0 : Int) (M : zM) : Prop :=
  
    (x5 = 0 → i32 (x6 + 1) ∧ ∀ v6_108 : Int, v6_108 = x6 + 1 → K15 (x1, x2, x3, s0, 0, v6_108, M)) ∧
    (¬ (x5 = 0) → 
      jB_barOf x6 3 M (fun r109 M110 => 
        jB_barOf x6 2 M110 (fun r111 M112 => i32 (x7 + r111) ∧ 
          (¬ r109 = (x7 + r111) → i32 (x6 + 1) ∧ ∀ v6_114 : Int, v6_114 = x6 + 1 → K15 (x1, x2, x3, s0, 0, v6_114, M112)) ∧
          (r109 = (x7 + r111) → 
            jB_barOf x6 3 M112 (fun r115 M116 => 
              (200 < r115 → i32 (x6 + 1) ∧ ∀ v6_117 : Int, v6_117 = x6 + 1 → K15 (x1, x2, x3, s0, 0, v6_117, M116)) ∧
              (¬ (200 < r115) → 
                jB_latest x6 M116 (fun r118 M119 => i32 (r118 - x7) ∧ 
                  (¬ x8 = (r118 - x7) → i32 (x6 + 1) ∧ ∀ v6_121 : Int, v6_121 = x6 + 1 → K15 (x1, x2, x3, s0, 0, v6_121, M119)) ∧
                  (x8 = (r118 - x7) → 
                    (x8 < 0 → i32 (x6 + 1) ∧ ∀ v6_122 : Int, v6_122 = x6 + 1 → K15 (x1, x2, x3, s0, 0, v6_122, M119)) ∧
                    (¬ (x8 < 0) → 
                      jB_barOf x6 0 M119 (fun r123 M124 => 
                        jB_cell r123 x7 M124 (fun r125 => 
                          (¬ r125 = x6 → i32 (x6 + 1) ∧ ∀ v6_127 : Int, v6_127 = x6 + 1 → K15 (x1, x2, x3, s0, 0, v6_127, M124)) ∧
                          (r125 = x6 → 
                            jB_barOf x6 0 M124 (fun r128 M129 => 
                              jB_barOf x6 3 M129 (fun r130 M131 => i32 (r130 - 1) ∧ 
                                jB_cell r128 (r130 - 1) M131 (fun r133 => 
                                  (¬ r133 = x6 → i32 (x6 + 1) ∧ ∀ v6_135 : Int, v6_135 = x6 + 1 → K15 (x1, x2, x3, s0, 0, v6_135, M131)) ∧
                                  (r133 = x6 → i32 (x6 + 1) ∧ ∀ v6_136 : Int, v6_136 = x6 + 1 → K15 (x1, x2, x3, s0, 1, v6_136, M131)))))))))))))))))
def jL_isChartSo_J92 (K15 : (Int × Int × Int × Int × Int × Int × zM) → Prop) (Φ : Int → zM → Prop) (x1 x2 x4 x5 x6 x7 x8 s0 s1 : Int) (M : zM) : Prop :=
  i32 (s0 + s1) ∧ ∀ v3_102 : Int, v3_102 = (s0 + s1) → 
    
    jB_latest x6 M (fun r103 M104 => 
      jB_barOf x6 2 M104 (fun r105 M106 => i32 (r103 + r105) ∧ 
        ((r103 + r105) ≤ x4 → jL_isChartSo_J132 K15 Φ x1 x2 v3_102 x5 x6 x7 x8 x4 M106) ∧
        (¬ ((r103 + r105) ≤ x4) → 
          jB_latest x6 M106 (fun r144 M145 => 
            jB_barOf x6 2 M145 (fun r146 M147 => i32 (r144 + r146) ∧ jL_isChartSo_J132 K15 Φ x1 x2 v3_102 x5 x6 x7 x8 (r144 + r146) M147)))))
def jL_isChartSo_J80 (K15 : (Int × Int × Int × Int × Int × Int × zM) → Prop) (Φ : Int → zM → Prop) (x2 x3 x4 x5 x6 x7 x8 s0 : Int) (M : zM) : Prop :=
  
    (¬ x8 = 0 → jL_isChartSo_J92 K15 Φ s0 x2 x4 x5 x6 x7 x8 x3 0 M) ∧
    (x8 = 0 → jL_isChartSo_J92 K15 Φ s0 x2 x4 x5 x6 x7 x8 x3 1 M)
def jL_isChartSo_L15 (K15 : (Int × Int × Int × Int × Int × Int × zM) → Prop) (Φ : Int → zM → Prop) (x1 x2 x3 x4 x5 x6 : Int) (M : zM) : Prop :=
  
    jB_count 10 M (fun r1 M2 => 
      (r1 ≤ x6 → 
        jB_count 7 M2 (fun r3 M4 => zwh (fun K s => jL_isChartSo_L267 K Φ x1 x2 x3 x4 r3 (s.1) (s.2.1) (s.2.2.1) (s.2.2.2.1) (s.2.2.2.2.1) (s.2.2.2.2.2)) (x5, 0, 0, 0, 0, M4))) ∧
      (¬ (r1 ≤ x6) → 
        jB_barOf x6 0 M2 (fun r91 M92 => 
          (r91 < 0 → i32 (x6 + 1) ∧ ∀ v6_93 : Int, v6_93 = x6 + 1 → K15 (x1, x2, x3, x4, x5, v6_93, M92)) ∧
          (¬ (r91 < 0) → 
            jB_barOf x6 1 M92 (fun r94 M95 => 
              jB_barOf x6 6 M95 (fun r96 M97 => i32 (x2 + 1) ∧ ∀ v2_98 : Int, v2_98 = x2 + 1 → 
                jB_barOf x6 3 M97 (fun r99 M100 => 
                  (r99 ≤ x1 → jL_isChartSo_J80 K15 Φ v2_98 x3 x4 x5 x6 r94 r96 x1 M100) ∧
                  (¬ (r99 ≤ x1) → 
                    jB_barOf x6 3 M100 (fun r151 M152 => jL_isChartSo_J80 K15 Φ v2_98 x3 x4 x5 x6 r94 r96 r151 M152)))))))))
def jL_isChartSo (M : zM) (Φ : Int → zM → Prop) : Prop :=
  zwh (fun K s => jL_isChartSo_L15 K Φ (s.1) (s.2.1) (s.2.2.1) (s.2.2.2.1) (s.2.2.2.2.1) (s.2.2.2.2.2.1) (s.2.2.2.2.2.2)) (0, 0, 0, 0, 1, 0, M)
def jL_isSlipSo_J275 (a2 : Int) (Φ : Int → zM → Prop) (x6 x8 x10 s0 : Int) (M : zM) : Prop :=
  
    (x10 = 0 → Φ 0 M) ∧
    (¬ (x10 = 0) → 
      (s0 < 0 → Φ 0 M) ∧
      (¬ (s0 < 0) → 
        jB_barOf a2 1 M (fun r19 M20 => 
          (¬ r19 = x6 → Φ 0 M20) ∧
          (r19 = x6 → 
            jB_count 12 M20 (fun r21 M22 => 
              (¬ r21 = x8 → Φ 0 M22) ∧
              (r21 = x8 → Φ 1 M22))))))
def jL_isSlipSo_J253 (a2 : Int) (Φ : Int → zM → Prop) (x6 x8 x11 s0 : Int) (M : zM) : Prop :=
  
    jB_undo M (fun r17 M18 => 
      (x11 ≤ 0 → jL_isSlipSo_J275 a2 Φ x6 x8 s0 r17 M18) ∧
      (¬ (x11 ≤ 0) → 
        jB_undo M18 (fun r27 M28 => jL_isSlipSo_J275 a2 Φ x6 x8 s0 r27 M28)))
def jL_isSlipSo_J252 (a2 : Int) (Φ : Int → zM → Prop) (x6 x8 x11 : Int) (M : zM) : Prop :=
  jL_isSlipSo_J253 a2 Φ x6 x8 x11 0 M
def jL_isSlipSo_J238 (a2 : Int) (Φ : Int → zM → Prop) (x6 x8 x11 : Int) (M : zM) : Prop :=
  
    jB_pull a2 M (fun r30 M31 => 
      (¬ r30 = (-5) → jL_isSlipSo_J252 a2 Φ x6 x8 x11 M31) ∧
      (r30 = (-5) → jL_isSlipSo_J253 a2 Φ x6 x8 x11 1 M31))
def jL_isSlipSo_J231 (a2 : Int) (Φ : Int → zM → Prop) (x6 x8 x11 : Int) (M : zM) : Prop :=
  
    (¬ x11 = (-5) → jL_isSlipSo_J252 a2 Φ x6 x8 x11 M) ∧
    (x11 = (-5) → jL_isSlipSo_J238 a2 Φ x6 x8 x11 M)
def jL_isSlipSo_J195 (a2 : Int) (Φ : Int → zM → Prop) (x4 x6 x8 s0 : Int) (M : zM) : Prop :=
  
    jB_pull a2 M (fun r15 M16 => 
      (s0 = 0 → jL_isSlipSo_J252 a2 Φ x6 x8 r15 M16) ∧
      (¬ (s0 = 0) → 
        (r15 ≤ 0 → jL_isSlipSo_J231 a2 Φ x6 x8 r15 M16) ∧
        (¬ (r15 ≤ 0) → 
          jB_barOf a2 1 M16 (fun r34 M35 => i32 (x6 + x4) ∧ i32 ((x6 + x4) - r15) ∧ 
            (r34 = ((x6 + x4) - r15) → jL_isSlipSo_J238 a2 Φ x6 x8 r15 M35) ∧
            (¬ (r34 = ((x6 + x4) - r15)) → jL_isSlipSo_J231 a2 Φ x6 x8 r15 M35)))))
def jL_isSlipSo_J194 (a2 : Int) (Φ : Int → zM → Prop) (x4 x6 x8 : Int) (M : zM) : Prop :=
  jL_isSlipSo_J195 a2 Φ x4 x6 x8 0 M
def jL_isSlipSo_J149 (a2 : Int) (Φ : Int → zM → Prop) (x4 x6 x7 x8 s0 s1 : Int) (M : zM) : Prop :=
  
    (¬ s0 = s1 → jL_isSlipSo_J194 a2 Φ x4 x6 x8 M) ∧
    (s0 = s1 → 
      jB_barOf a2 1 M (fun r43 M44 => i32 (x6 + x4) ∧ 
        (¬ r43 = (x6 + x4) → jL_isSlipSo_J194 a2 Φ x4 x6 x8 M44) ∧
        (r43 = (x6 + x4) → 
          jB_count 4 M44 (fun r46 M47 => 
            (x7 < r46 → jL_isSlipSo_J194 a2 Φ x4 x6 x8 M47) ∧
            (¬ (x7 < r46) → 
              jB_count 12 M47 (fun r48 M49 => i32 (x8 + x4) ∧ 
                (r48 < (x8 + x4) → jL_isSlipSo_J194 a2 Φ x4 x6 x8 M49) ∧
                (¬ (r48 < (x8 + x4)) → jL_isSlipSo_J195 a2 Φ x4 x6 x8 1 M49)))))))
def jL_isSlipSo_J138 (a2 : Int) (Φ : Int → zM → Prop) (x3 x4 x6 x7 x8 s0 : Int) (M : zM) : Prop :=
  
    (x3 < x4 → jL_isSlipSo_J149 a2 Φ x4 x6 x7 x8 s0 0 M) ∧
    (¬ (x3 < x4) → jL_isSlipSo_J149 a2 Φ x4 x6 x7 x8 s0 1 M)
def jL_isSlipSo_J36 (a2 : Int) (Φ : Int → zM → Prop) (x2 x3 s0 : Int) (M : zM) : Prop :=
  
    jB_ifSlipped a2 s0 M (fun r5 M6 => 
      jB_barOf a2 1 M6 (fun r7 M8 => 
        jB_count 4 M8 (fun r9 M10 => 
          jB_count 12 M10 (fun r11 M12 => 
            jB_slip a2 s0 M12 (fun r13 M14 => 
              (r5 ≤ 200 → 
                (r13 ≤ 0 → jL_isSlipSo_J194 a2 Φ s0 r7 r11 M14) ∧
                (¬ (r13 ≤ 0) → 
                  jB_count 6 M14 (fun r41 M42 => 
                    (¬ r41 = r5 → jL_isSlipSo_J194 a2 Φ s0 r7 r11 M42) ∧
                    (r41 = r5 → 
                      (¬ r5 = x2 → jL_isSlipSo_J138 a2 Φ x3 s0 r7 r9 r11 0 M42) ∧
                      (r5 = x2 → jL_isSlipSo_J138 a2 Φ x3 s0 r7 r9 r11 1 M42))))) ∧
              (¬ (r5 ≤ 200) → 
                (¬ r13 = (-4) → Φ 0 M14) ∧
                (r13 = (-4) → 
                  jB_barOf a2 1 M14 (fun r59 M60 => 
                    (¬ r59 = r7 → Φ 0 M60) ∧
                    (r59 = r7 → Φ 1 M60)))))))))
def jL_isSlipSo (a2 : Int) (M : zM) (Φ : Int → zM → Prop) : Prop :=
  
    jB_count 6 M (fun r1 M2 => 
      jB_barOf a2 6 M2 (fun r3 M4 => 
        (1 ≤ r3 → 
          (r3 ≤ 30 → jL_isSlipSo_J36 a2 Φ r1 r3 r3 M4) ∧
          (¬ (r3 ≤ 30) → jL_isSlipSo_J36 a2 Φ r1 r3 30 M4)) ∧
        (¬ (1 ≤ r3) → jL_isSlipSo_J36 a2 Φ r1 r3 1 M4)))
def jL_areBestSo_J409 (a2 a3 : Int) (K355 : (Int × Int × zM) → Prop) (Φ : Int → zM → Prop) (x5 x13 x14 x15 x16 x17 s0 : Int) (M : zM) : Prop :=
  
    jB_undo M (fun r35 M36 => i32 (x17 + 1) ∧ ∀ v17_37 : Int, v17_37 = x17 + 1 → K355 (s0, v17_37, M36))
def jL_areBestSo_J408 (a2 a3 : Int) (K355 : (Int × Int × zM) → Prop) (Φ : Int → zM → Prop) (x5 x13 x14 x15 x16 x17 : Int) (M : zM) : Prop :=
  jL_areBestSo_J409 a2 a3 K355 Φ x5 x13 x14 x15 x16 x17 0 M
def jL_areBestSo_J404 (a2 a3 : Int) (K355 : (Int × Int × zM) → Prop) (Φ : Int → zM → Prop) (x5 x13 x14 x15 x16 x17 : Int) (M : zM) : Prop :=
  jL_areBestSo_J409 a2 a3 K355 Φ x5 x13 x14 x15 x16 x17 1 M
def jL_areBestSo_L355 (a2 a3 : Int) (K355 : (Int × Int × zM) → Prop) (Φ : Int → zM → Prop) (x5 x13 x14 x15 x16 : Int) (x11 x17 : Int) (M : zM) : Prop :=
  
    (12 ≤ x17 → 
      (x11 = 0 → Φ 0 M) ∧
      (¬ (x11 = 0) → 
        jB_barOf a2 0 M (fun r25 M26 => 
          (¬ r25 = x14 → Φ 0 M26) ∧
          (r25 = x14 → 
            jB_count 3 M26 (fun r27 M28 => 
              (¬ r27 = x5 → Φ 0 M28) ∧
              (r27 = x5 → Φ 1 M28)))))) ∧
    (¬ (12 ≤ x17) → 
      jB_move a2 x17 x15 M (fun r32 M33 => 
        (r32 < 0 → i32 (x17 + 1) ∧ ∀ v17_34 : Int, v17_34 = x17 + 1 → K355 (x11, v17_34, M33)) ∧
        (¬ (r32 < 0) → 
          (x11 = 0 → jL_areBestSo_J408 a2 a3 K355 Φ x5 x13 x14 x15 x16 x17 M33) ∧
          (¬ (x11 = 0) → 
            (x16 < r32 → jL_areBestSo_J404 a2 a3 K355 Φ x5 x13 x14 x15 x16 x17 M33) ∧
            (¬ (x16 < r32) → 
              (¬ r32 = x16 → jL_areBestSo_J408 a2 a3 K355 Φ x5 x13 x14 x15 x16 x17 M33) ∧
              (r32 = x16 → 
                (x17 < x13 → jL_areBestSo_J408 a2 a3 K355 Φ x5 x13 x14 x15 x16 x17 M33) ∧
                (¬ (x17 < x13) → jL_areBestSo_J404 a2 a3 K355 Φ x5 x13 x14 x15 x16 x17 M33)))))))
def jL_areBestSo_J352 (a2 a3 : Int) (Φ : Int → zM → Prop) (x5 x11 x13 x14 x15 x16 : Int) (M : zM) : Prop :=
  zwh (fun K s => jL_areBestSo_L355 a2 a3 K Φ x5 x13 x14 x15 x16 (s.1) (s.2.1) (s.2.2)) (x11, 0, M)
def jL_areBestSo_J344 (a2 a3 : Int) (Φ : Int → zM → Prop) (x5 x13 x14 x15 x16 s0 : Int) (M : zM) : Prop :=
  
    jB_undo M (fun r46 M47 => jL_areBestSo_J352 a2 a3 Φ x5 s0 x13 x14 x15 x16 M47)
def jL_areBestSo_J343 (a2 a3 : Int) (Φ : Int → zM → Prop) (x5 x13 x14 x15 x16 : Int) (M : zM) : Prop :=
  jL_areBestSo_J344 a2 a3 Φ x5 x13 x14 x15 x16 0 M
def jL_areBestSo_J339 (a2 a3 : Int) (Φ : Int → zM → Prop) (x5 x13 x14 x15 x16 : Int) (M : zM) : Prop :=
  jL_areBestSo_J344 a2 a3 Φ x5 x13 x14 x15 x16 1 M
def jL_areBestSo_J259 (a2 a3 : Int) (Φ : Int → zM → Prop) (x5 x11 : Int) (M : zM) : Prop :=
  
    jB_bestLane a2 M (fun r19 M20 => 
      jB_barOf a2 0 M20 (fun r21 M22 => 
        jB_barOf a2 1 M22 (fun r23 M24 => 
          (r19 = r21 → jL_areBestSo_J352 a2 a3 Φ x5 x11 r19 r21 r23 x5 M24) ∧
          (¬ (r19 = r21) → 
            jB_move a2 r19 r23 M24 (fun r44 M45 => 
              (x11 = 0 → jL_areBestSo_J343 a2 a3 Φ x5 r19 r21 r23 r44 M45) ∧
              (¬ (x11 = 0) → 
                (r44 < 0 → jL_areBestSo_J343 a2 a3 Φ x5 r19 r21 r23 r44 M45) ∧
                (¬ (r44 < 0) → 
                  (r44 < x5 → jL_areBestSo_J339 a2 a3 Φ x5 r19 r21 r23 r44 M45) ∧
                  (¬ (r44 < x5) → 
                    (¬ r44 = x5 → jL_areBestSo_J343 a2 a3 Φ x5 r19 r21 r23 r44 M45) ∧
                    (r44 = x5 → 
                      (r21 ≤ r19 → jL_areBestSo_J343 a2 a3 Φ x5 r19 r21 r23 r44 M45) ∧
                      (¬ (r21 ≤ r19) → jL_areBestSo_J339 a2 a3 Φ x5 r19 r21 r23 r44 M45))))))))))
def jL_areBestSo_J251 (a2 a3 : Int) (Φ : Int → zM → Prop) (x5 s0 : Int) (M : zM) : Prop :=
  
    jB_undo M (fun r56 M57 => jL_areBestSo_J259 a2 a3 Φ x5 s0 M57)
def jL_areBestSo_J250 (a2 a3 : Int) (Φ : Int → zM → Prop) (x5 : Int) (M : zM) : Prop :=
  jL_areBestSo_J251 a2 a3 Φ x5 0 M
def jL_areBestSo_J205 (a2 a3 : Int) (Φ : Int → zM → Prop) (x3 x4 x5 x7 x8 x11 : Int) (M : zM) : Prop :=
  
    (x3 < 0 → jL_areBestSo_J259 a2 a3 Φ x5 x11 M) ∧
    (¬ (x3 < 0) → 
      jB_swap x3 x4 M (fun r54 M55 => 
        (x11 = 0 → jL_areBestSo_J250 a2 a3 Φ x5 M55) ∧
        (¬ (x11 = 0) → 
          (¬ r54 = x7 → jL_areBestSo_J250 a2 a3 Φ x5 M55) ∧
          (r54 = x7 → 
            jB_count 5 M55 (fun r58 M59 => 
              (¬ r58 = x8 → jL_areBestSo_J250 a2 a3 Φ x5 M59) ∧
              (r58 = x8 → 
                (x4 ≤ x3 → jL_areBestSo_J250 a2 a3 Φ x5 M59) ∧
                (¬ (x4 ≤ x3) → jL_areBestSo_J251 a2 a3 Φ x5 1 M59)))))))
def jL_areBestSo_J191 (a2 a3 : Int) (Φ : Int → zM → Prop) (x3 x4 x5 x7 x8 s0 : Int) (M : zM) : Prop :=
  
    jB_undo M (fun r65 M66 => 
      jB_undo M66 (fun r67 M68 => jL_areBestSo_J205 a2 a3 Φ x3 x4 x5 x7 x8 s0 M68))
def jL_areBestSo_J190 (a2 a3 : Int) (Φ : Int → zM → Prop) (x3 x4 x5 x7 x8 : Int) (M : zM) : Prop :=
  jL_areBestSo_J191 a2 a3 Φ x3 x4 x5 x7 x8 0 M
def jL_areBestSo_J163 (a2 a3 : Int) (Φ : Int → zM → Prop) (x3 x4 x5 x6 x7 x8 x9 x10 : Int) (M : zM) : Prop :=
  
    jB_swap x10 x9 M (fun r71 M72 => 
      (¬ r71 = x5 → jL_areBestSo_J190 a2 a3 Φ x3 x4 x5 x7 x8 M72) ∧
      (r71 = x5 → 
        jB_count 5 M72 (fun r73 M74 => 
          (¬ r73 = x6 → jL_areBestSo_J190 a2 a3 Φ x3 x4 x5 x7 x8 M74) ∧
          (r73 = x6 → jL_areBestSo_J191 a2 a3 Φ x3 x4 x5 x7 x8 1 M74))))
def jL_areBestSo_J107 (a2 a3 : Int) (Φ : Int → zM → Prop) (x3 x4 x5 x6 x7 x8 x9 x10 s0 : Int) (M : zM) : Prop :=
  
    jB_swap x9 x10 M (fun r17 M18 => 
      (r17 < 0 → jL_areBestSo_J205 a2 a3 Φ x3 x4 x5 x7 x8 s0 M18) ∧
      (¬ (r17 < 0) → 
        (s0 = 0 → jL_areBestSo_J190 a2 a3 Φ x3 x4 x5 x7 x8 M18) ∧
        (¬ (s0 = 0) → 
          jB_count 3 M18 (fun r69 M70 => 
            (¬ r17 = r69 → jL_areBestSo_J190 a2 a3 Φ x3 x4 x5 x7 x8 M70) ∧
            (r17 = r69 → 
              (x7 < r17 → jL_areBestSo_J163 a2 a3 Φ x3 x4 x5 x6 x7 x8 x9 x10 M70) ∧
              (¬ (x7 < r17) → 
                (¬ r17 = x7 → jL_areBestSo_J190 a2 a3 Φ x3 x4 x5 x7 x8 M70) ∧
                (r17 = x7 → 
                  jB_count 5 M70 (fun r77 M78 => 
                    (r77 < x8 → jL_areBestSo_J190 a2 a3 Φ x3 x4 x5 x7 x8 M78) ∧
                    (¬ (r77 < x8) → jL_areBestSo_J163 a2 a3 Φ x3 x4 x5 x6 x7 x8 x9 x10 M78)))))))))
def jL_areBestSo_J102 (a2 a3 : Int) (Φ : Int → zM → Prop) (x3 x4 x5 x6 x7 x8 x9 x10 : Int) (M : zM) : Prop :=
  jL_areBestSo_J107 a2 a3 Φ x3 x4 x5 x6 x7 x8 x9 x10 1 M
def jL_areBestSo_J106 (a2 a3 : Int) (Φ : Int → zM → Prop) (x3 x4 x5 x6 x7 x8 x9 x10 : Int) (M : zM) : Prop :=
  jL_areBestSo_J107 a2 a3 Φ x3 x4 x5 x6 x7 x8 x9 x10 0 M
def jL_areBestSo_J57 (a2 a3 : Int) (Φ : Int → zM → Prop) (x3 x4 x5 x6 x7 s0 : Int) (M : zM) : Prop :=
  
    jL_low a3 6 M (fun r13 => 
      jL_low (zshr a3 3) 6 M (fun r15 => 
        (x3 < 0 → jL_areBestSo_J102 a2 a3 Φ x3 x4 x5 x6 x7 s0 r13 r15 M) ∧
        (¬ (x3 < 0) → 
          (x7 < x5 → jL_areBestSo_J102 a2 a3 Φ x3 x4 x5 x6 x7 s0 r13 r15 M) ∧
          (¬ (x7 < x5) → 
            (¬ x7 = x5 → jL_areBestSo_J106 a2 a3 Φ x3 x4 x5 x6 x7 s0 r13 r15 M) ∧
            (x7 = x5 → 
              (x6 ≤ s0 → jL_areBestSo_J106 a2 a3 Φ x3 x4 x5 x6 x7 s0 r13 r15 M) ∧
              (¬ (x6 ≤ s0) → jL_areBestSo_J102 a2 a3 Φ x3 x4 x5 x6 x7 s0 r13 r15 M))))))
def jL_areBestSo_J41 (a2 a3 : Int) (Φ : Int → zM → Prop) (x3 x4 x5 x6 s0 : Int) (M : zM) : Prop :=
  
    (0 ≤ x3 → 
      jB_bestSwap 3 M (fun r11 M12 => jL_areBestSo_J57 a2 a3 Φ x3 x4 x5 x6 s0 r11 M12)) ∧
    (¬ (0 ≤ x3) → jL_areBestSo_J57 a2 a3 Φ x3 x4 x5 x6 s0 x6 M)
def jL_areBestSo (a2 a3 : Int) (M : zM) (Φ : Int → zM → Prop) : Prop :=
  
    jB_bestSwap 0 M (fun r1 M2 => 
      jB_bestSwap 1 M2 (fun r3 M4 => 
        jB_count 3 M4 (fun r5 M6 => 
          jB_count 5 M6 (fun r7 M8 => 
            (0 ≤ r1 → 
              jB_bestSwap 2 M8 (fun r9 M10 => jL_areBestSo_J41 a2 a3 Φ r1 r3 r5 r7 r9 M10)) ∧
            (¬ (0 ≤ r1) → jL_areBestSo_J41 a2 a3 Φ r1 r3 r5 r7 r5 M8)))))

-- X3_clear
def fX3_clear_2_b (L : Nat → Nat) (o : Nat) (self2 : Int32 → Mem → Option Mem) (v1 : Int32) (μ : Mem) : Option Mem :=
  (if (nI (L (o + 1))) ≤ v1 then some μ else ast L μ (o + 1) v1 (0 : Int32) (fun μ1 => lt' (v1 + 1) (fun a2 => self2 a2 μ1)))
def fX3_clear_2 (L : Nat → Nat) (o : Nat) : Nat → Int32 → Mem → Option Mem
  | 0, _, _ => none
  | k + 1, v1, μ => fX3_clear_2_b L o (fX3_clear_2 L o k) v1 μ
def fX3_clear (L : Nat → Nat) (o : Nat) (μ : Mem) : Option Mem :=
  fX3_clear_2 L o FU (0 : Int32) μ
-- X0_clear
def fX0_clear (L : Nat → Nat) (o : Nat) (μ : Mem) : Option Mem :=
  pu μ o 4 (0 : Int32) (fun μ1 => pu μ1 o 5 (0 : Int32) (fun μ2 => pu μ2 o 6 (20 : Int32) (fun μ3 => bv (fX3_clear L (o + 7) μ3) (fun μ4 => some μ4))))
-- X3_get
def fX3_get (L : Nat → Nat) (o : Nat) (v1 : Int32) (μ : Mem) : Option (Int32 × Mem) :=
  (if v1 < 0 then some ((0 : Int32), μ) else (if (nI (L (o + 1))) ≤ v1 then some ((0 : Int32), μ) else ald L μ (o + 1) v1 (fun a1 => some (a1, μ))))
-- X3_takeFrom
def fX3_takeFrom_2_b (L : Nat → Nat) (o : Nat) (r1 : Nat) (self2 : Int32 → Mem → Option Mem) (v2 : Int32) (μ : Mem) : Option Mem :=
  (if (nI (L (o + 1))) ≤ v2 then some μ else bd (fX3_get L r1 v2 μ) (fun b2 μ1 => ast L μ1 (o + 1) v2 b2 (fun μ3 => lt' (v2 + 1) (fun a4 => self2 a4 μ3))))
def fX3_takeFrom_2 (L : Nat → Nat) (o : Nat) (r1 : Nat) : Nat → Int32 → Mem → Option Mem
  | 0, _, _ => none
  | k + 1, v2, μ => fX3_takeFrom_2_b L o r1 (fX3_takeFrom_2 L o r1 k) v2 μ
def fX3_takeFrom (L : Nat → Nat) (o : Nat) (r1 : Nat) (μ : Mem) : Option Mem :=
  fX3_takeFrom_2 L o r1 FU (0 : Int32) μ
-- X0_takeAll
def fX0_takeAll (L : Nat → Nat) (o : Nat) (r1 : Nat) (μ : Mem) : Option Mem :=
  pu μ o 4 (μ r1 4) (fun μ1 => pu μ1 o 5 (μ1 r1 5) (fun μ2 => pu μ2 o 6 (μ2 r1 6) (fun μ3 => bv (fX3_takeFrom L (o + 1) (r1 + 1) μ3) (fun μ4 => bv (fX3_takeFrom L (o + 3) (r1 + 3) μ4) (fun μ5 => bv (fX3_takeFrom L (o + 5) (r1 + 5) μ5) (fun μ6 => bv (fX3_takeFrom L (o + 7) (r1 + 7) μ6) (fun μ7 => some μ7)))))))
-- X0_tellTop
def fX0_tellTop (L : Nat → Nat) (o : Nat) (v1 : Int32) (μ : Mem) : Option (Int32 × Mem) :=
  (if v1 < (1 : Int32) then some ((0 : Int32), μ) else (if v1 ≤ (99 : Int32) then pu μ o 6 v1 (fun μ1 => some ((1 : Int32), μ1)) else some ((0 : Int32), μ)))
-- X3_set
def fX3_set (L : Nat → Nat) (o : Nat) (v1 v2 : Int32) (μ : Mem) : Option Mem :=
  (if v1 < 0 then some μ else (if (nI (L (o + 1))) ≤ v1 then some μ else ast L μ (o + 1) v1 v2 (fun μ1 => some μ1)))
-- X0_addName
def fX0_addName (L : Nat → Nat) (o : Nat) (v1 : Int32) (μ : Mem) : Option (Int32 × Mem) :=
  (if (6 : Int32) ≤ (μ o 4) then some ((0 : Int32), μ) else (if v1 < (2 : Int32) then some ((0 : Int32), μ) else (if v1 ≤ (4 : Int32) then bv (fX3_set L (o + 1) (μ o 4) v1 μ) (fun μ1 => pu μ1 o 4 ((μ1 o 4) + (1 : Int32)) (fun μ2 => some ((1 : Int32), μ2))) else some ((0 : Int32), μ))))
-- X0_hasValue
def fX0_hasValue (L : Nat → Nat) (o : Nat) (v1 v2 : Int32) (μ : Mem) : Option (Int32 × Mem) :=
  (if v1 < 0 then some ((0 : Int32), μ) else (if (μ o 4) ≤ v1 then some ((0 : Int32), μ) else (if v2 < 0 then some ((0 : Int32), μ) else bd (fX3_get L (o + 1) v1 μ) (fun b2 μ1 => (if b2 ≤ v2 then some ((0 : Int32), μ1) else some ((1 : Int32), μ1))))))
-- X0_singleAt
def fX0_singleAt (L : Nat → Nat) (v0 v1 : Int32) (μ : Mem) : Option (Int32 × Mem) :=
  some ((((1 : Int32) + ((4 : Int32) * v0)) + v1), μ)
-- X0_setSingle
def fX0_setSingle (L : Nat → Nat) (o : Nat) (v1 v2 v3 : Int32) (μ : Mem) : Option Mem :=
  bd (fX0_singleAt L v1 v2 μ) (fun b2 μ1 => bv (fX3_set L (o + 7) b2 v3 μ1) (fun μ3 => some μ3))
-- X0_tellSingle
def fX0_tellSingle (L : Nat → Nat) (o : Nat) (v1 v2 v3 : Int32) (μ : Mem) : Option (Int32 × Mem) :=
  bd (fX0_hasValue L o v1 v2 μ) (fun b2 μ1 => (if b2 = 0 then some ((0 : Int32), μ1) else bv (fX0_setSingle L o v1 v2 v3 μ1) (fun μ3 => some ((1 : Int32), μ3))))
-- X0_hasName
def fX0_hasName (L : Nat → Nat) (o : Nat) (v1 : Int32) (μ : Mem) : Option (Int32 × Mem) :=
  (if v1 < 0 then some ((0 : Int32), μ) else (if (μ o 4) ≤ v1 then some ((0 : Int32), μ) else some ((1 : Int32), μ)))
-- X0_nameOn
def fX0_nameOn (L : Nat → Nat) (o : Nat) (v1 v2 : Int32) (μ : Mem) : Option (Int32 × Mem) :=
  (if v2 = 0 then bd (fX3_get L (o + 3) v1 μ) (fun b4 μ3 => some (b4, μ3)) else bd (fX3_get L (o + 5) v1 μ) (fun b2 μ1 => some (b2, μ1)))
-- X0_isJoined
def fX0_isJoined_32 (L : Nat → Nat) (o : Nat) (self2 : Int32 → Int32 → Int32 → Mem → Option (Int32 × Mem)) (v1 v2 v3 : Int32) (μ : Mem) : Option (Int32 × Mem) :=
  lt' (v3 + 1) (fun a1 => self2 v1 v2 a1 μ)
def fX0_isJoined_2_b (L : Nat → Nat) (o : Nat) (self2 : Int32 → Int32 → Int32 → Mem → Option (Int32 × Mem)) (v1 v2 v3 : Int32) (μ : Mem) : Option (Int32 × Mem) :=
  (if (μ o 5) ≤ v3 then some ((0 : Int32), μ) else bd (fX0_nameOn L o v3 (0 : Int32) μ) (fun b3 μ2 => (if b3 = v1 then bd (fX0_nameOn L o v3 (1 : Int32) μ2) (fun b5 μ4 => (if b5 = v2 then some ((1 : Int32), μ4) else fX0_isJoined_32 L o self2 v1 v2 v3 μ4)) else fX0_isJoined_32 L o self2 v1 v2 v3 μ2)))
def fX0_isJoined_2 (L : Nat → Nat) (o : Nat) : Nat → Int32 → Int32 → Int32 → Mem → Option (Int32 × Mem)
  | 0, _, _, _, _ => none
  | k + 1, v1, v2, v3, μ => fX0_isJoined_2_b L o (fX0_isJoined_2 L o k) v1 v2 v3 μ
def fX0_isJoined (L : Nat → Nat) (o : Nat) (v1 v2 : Int32) (μ : Mem) : Option (Int32 × Mem) :=
  fX0_isJoined_2 L o FU v1 v2 (0 : Int32) μ
-- X0_valuesOf
def fX0_valuesOf (L : Nat → Nat) (o : Nat) (v1 : Int32) (μ : Mem) : Option (Int32 × Mem) :=
  bd (fX3_get L (o + 1) v1 μ) (fun b2 μ1 => some (b2, μ1))
-- X0_pairAt
def fX0_pairAt (L : Nat → Nat) (v0 v1 v2 : Int32) (μ : Mem) : Option (Int32 × Mem) :=
  some (((((25 : Int32) + ((16 : Int32) * v0)) + ((4 : Int32) * v1)) + v2), μ)
-- X0_setPair
def fX0_setPair (L : Nat → Nat) (o : Nat) (v1 v2 v3 v4 : Int32) (μ : Mem) : Option Mem :=
  bd (fX0_pairAt L v1 v2 v3 μ) (fun b2 μ1 => bv (fX3_set L (o + 7) b2 v4 μ1) (fun μ3 => some μ3))
-- X0_addTable
def fX0_addTable_80_b (L : Nat → Nat) (o : Nat) (self80 : Int32 → Int32 → Int32 → Int32 → Int32 → Mem → Option (Int32 × Mem)) (v1 v2 v3 v4 v5 : Int32) (μ : Mem) : Option (Int32 × Mem) :=
  bd (fX0_valuesOf L o v1 μ) (fun b2 μ1 => bd (fX0_valuesOf L o v2 μ1) (fun b4 μ3 => lt' (if b4 < b2 then b4 else b2) (fun a5 => (if a5 ≤ v5 then some ((1 : Int32), μ3) else bv (fX0_setPair L o v4 v5 v5 v3 μ3) (fun μ6 => lt' (v5 + 1) (fun a7 => self80 v1 v2 v3 v4 a7 μ6))))))
def fX0_addTable_80 (L : Nat → Nat) (o : Nat) : Nat → Int32 → Int32 → Int32 → Int32 → Int32 → Mem → Option (Int32 × Mem)
  | 0, _, _, _, _, _, _ => none
  | k + 1, v1, v2, v3, v4, v5, μ => fX0_addTable_80_b L o (fX0_addTable_80 L o k) v1 v2 v3 v4 v5 μ
def fX0_addTable (L : Nat → Nat) (o : Nat) (v1 v2 v3 : Int32) (μ : Mem) : Option (Int32 × Mem) :=
  (if (9 : Int32) ≤ (μ o 5) then some ((0 : Int32), μ) else bd (fX0_hasName L o v1 μ) (fun b9 μ8 => (if b9 = 0 then some ((0 : Int32), μ8) else bd (fX0_hasName L o v2 μ8) (fun b11 μ10 => (if b11 = 0 then some ((0 : Int32), μ10) else (if v2 ≤ v1 then some ((0 : Int32), μ10) else bd (fX0_isJoined L o v1 v2 μ10) (fun b13 μ12 => (if b13 = 0 then lt' (μ12 o 5) (fun a14 => bv (fX3_set L (o + 3) a14 v1 μ12) (fun μ15 => bv (fX3_set L (o + 5) a14 v2 μ15) (fun μ16 => pu μ16 o 5 ((μ16 o 5) + (1 : Int32)) (fun μ17 => fX0_addTable_80 L o FU v1 v2 v3 a14 (0 : Int32) μ17)))) else some ((0 : Int32), μ12)))))))))
-- X0_hasTable
def fX0_hasTable (L : Nat → Nat) (o : Nat) (v1 : Int32) (μ : Mem) : Option (Int32 × Mem) :=
  (if v1 < 0 then some ((0 : Int32), μ) else (if (μ o 5) ≤ v1 then some ((0 : Int32), μ) else some ((1 : Int32), μ)))
-- X0_valuesOn
def fX0_valuesOn_27 (L : Nat → Nat) (o : Nat) (s0 : Int32) (μ : Mem) : Option (Int32 × Mem) :=
  bd (fX3_get L (o + 1) s0 μ) (fun b2 μ1 => some (b2, μ1))
def fX0_valuesOn (L : Nat → Nat) (o : Nat) (v1 v2 : Int32) (μ : Mem) : Option (Int32 × Mem) :=
  (if v2 = 0 then bd (fX3_get L (o + 3) v1 μ) (fun b6 μ5 => fX0_valuesOn_27 L o b6 μ5) else bd (fX3_get L (o + 5) v1 μ) (fun b4 μ3 => fX0_valuesOn_27 L o b4 μ3))
-- X0_hasPair
def fX0_hasPair (L : Nat → Nat) (o : Nat) (v1 v2 v3 : Int32) (μ : Mem) : Option (Int32 × Mem) :=
  bd (fX0_hasTable L o v1 μ) (fun b2 μ1 => (if b2 = 0 then some ((0 : Int32), μ1) else (if v2 < 0 then some ((0 : Int32), μ1) else bd (fX0_valuesOn L o v1 (0 : Int32) μ1) (fun b4 μ3 => (if b4 ≤ v2 then some ((0 : Int32), μ3) else (if v3 < 0 then some ((0 : Int32), μ3) else bd (fX0_valuesOn L o v1 (1 : Int32) μ3) (fun b6 μ5 => (if b6 ≤ v3 then some ((0 : Int32), μ5) else some ((1 : Int32), μ5)))))))))
-- X0_tellPair
def fX0_tellPair (L : Nat → Nat) (o : Nat) (v1 v2 v3 v4 : Int32) (μ : Mem) : Option (Int32 × Mem) :=
  bd (fX0_hasPair L o v1 v2 v3 μ) (fun b2 μ1 => (if b2 = 0 then some ((0 : Int32), μ1) else bv (fX0_setPair L o v1 v2 v3 v4 μ1) (fun μ3 => some ((1 : Int32), μ3))))
-- X0_keepToTop
def fX0_keepToTop_2_b (L : Nat → Nat) (o : Nat) (self2 : Int32 → Mem → Option Mem) (v1 : Int32) (μ : Mem) : Option Mem :=
  (if (169 : Int32) ≤ v1 then some μ else bd (fX3_get L (o + 7) v1 μ) (fun b2 μ1 => lt' (if b2 < (μ o 6) then b2 else (μ o 6)) (fun a3 => bv (fX3_set L (o + 7) v1 a3 μ1) (fun μ4 => lt' (v1 + 1) (fun a5 => self2 a5 μ4)))))
def fX0_keepToTop_2 (L : Nat → Nat) (o : Nat) : Nat → Int32 → Mem → Option Mem
  | 0, _, _ => none
  | k + 1, v1, μ => fX0_keepToTop_2_b L o (fX0_keepToTop_2 L o k) v1 μ
def fX0_keepToTop (L : Nat → Nat) (o : Nat) (μ : Mem) : Option Mem :=
  fX0_keepToTop_2 L o FU (0 : Int32) μ
-- X0_names
def fX0_names (L : Nat → Nat) (o : Nat) (μ : Mem) : Option (Int32 × Mem) :=
  some ((μ o 4), μ)
-- X0_tables
def fX0_tables (L : Nat → Nat) (o : Nat) (μ : Mem) : Option (Int32 × Mem) :=
  some ((μ o 5), μ)
-- X0_top
def fX0_top (L : Nat → Nat) (o : Nat) (μ : Mem) : Option (Int32 × Mem) :=
  some ((μ o 6), μ)
-- X0_hasValueOn
def fX0_hasValueOn_17 (L : Nat → Nat) (o : Nat) (v1 v2 v3 : Int32) (μ : Mem) : Option (Int32 × Mem) :=
  (if v3 < 0 then some ((0 : Int32), μ) else bd (fX0_valuesOn L o v1 v2 μ) (fun b2 μ1 => (if b2 ≤ v3 then some ((0 : Int32), μ1) else some ((1 : Int32), μ1))))
def fX0_hasValueOn (L : Nat → Nat) (o : Nat) (v1 v2 v3 : Int32) (μ : Mem) : Option (Int32 × Mem) :=
  bd (fX0_hasTable L o v1 μ) (fun b4 μ3 => (if b4 = 0 then some ((0 : Int32), μ3) else (if v2 = 0 then fX0_hasValueOn_17 L o v1 v2 v3 μ3 else (if v2 = (1 : Int32) then fX0_hasValueOn_17 L o v1 v2 v3 μ3 else some ((0 : Int32), μ3)))))
-- X0_tablesOf
def fX0_tablesOf_38 (L : Nat → Nat) (o : Nat) (self4 : Int32 → Int32 → Int32 → Mem → Option (Int32 × Mem)) (v1 v2 v3 : Int32) (μ : Mem) : Option (Int32 × Mem) :=
  lt' (v3 + 1) (fun a1 => self4 v1 v2 a1 μ)
def fX0_tablesOf_32 (L : Nat → Nat) (o : Nat) (self4 : Int32 → Int32 → Int32 → Mem → Option (Int32 × Mem)) (v1 v2 v3 : Int32) (μ : Mem) : Option (Int32 × Mem) :=
  lt' (v2 ||| ((1 : Int32) <<< (v3 &&& 31))) (fun a2 => fX0_tablesOf_38 L o self4 v1 a2 v3 μ)
def fX0_tablesOf_4_b (L : Nat → Nat) (o : Nat) (self4 : Int32 → Int32 → Int32 → Mem → Option (Int32 × Mem)) (v1 v2 v3 : Int32) (μ : Mem) : Option (Int32 × Mem) :=
  (if (μ o 5) ≤ v3 then some (v2, μ) else bd (fX0_nameOn L o v3 (0 : Int32) μ) (fun b4 μ3 => (if b4 = v1 then fX0_tablesOf_32 L o self4 v1 v2 v3 μ3 else bd (fX0_nameOn L o v3 (1 : Int32) μ3) (fun b6 μ5 => (if b6 = v1 then fX0_tablesOf_32 L o self4 v1 v2 v3 μ5 else fX0_tablesOf_38 L o self4 v1 v2 v3 μ5)))))
def fX0_tablesOf_4 (L : Nat → Nat) (o : Nat) : Nat → Int32 → Int32 → Int32 → Mem → Option (Int32 × Mem)
  | 0, _, _, _, _ => none
  | k + 1, v1, v2, v3, μ => fX0_tablesOf_4_b L o (fX0_tablesOf_4 L o k) v1 v2 v3 μ
def fX0_tablesOf (L : Nat → Nat) (o : Nat) (v1 : Int32) (μ : Mem) : Option (Int32 × Mem) :=
  fX0_tablesOf_4 L o FU v1 (0 : Int32) (0 : Int32) μ
-- X0_constant
def fX0_constant (L : Nat → Nat) (o : Nat) (μ : Mem) : Option (Int32 × Mem) :=
  bd (fX3_get L (o + 7) (0 : Int32) μ) (fun b2 μ1 => some (b2, μ1))
-- X0_singleCost
def fX0_singleCost (L : Nat → Nat) (o : Nat) (v1 v2 : Int32) (μ : Mem) : Option (Int32 × Mem) :=
  bd (fX0_singleAt L v1 v2 μ) (fun b2 μ1 => bd (fX3_get L (o + 7) b2 μ1) (fun b4 μ3 => some (b4, μ3)))
-- X0_pairCost
def fX0_pairCost (L : Nat → Nat) (o : Nat) (v1 v2 v3 : Int32) (μ : Mem) : Option (Int32 × Mem) :=
  bd (fX0_pairAt L v1 v2 v3 μ) (fun b2 μ1 => bd (fX3_get L (o + 7) b2 μ1) (fun b4 μ3 => some (b4, μ3)))
-- X0_pairFrom
def fX0_pairFrom (L : Nat → Nat) (v0 v1 v2 v3 : Int32) (μ : Mem) : Option (Int32 × Mem) :=
  (if v1 = 0 then bd (fX0_pairAt L v0 v2 v3 μ) (fun b4 μ3 => some (b4, μ3)) else bd (fX0_pairAt L v0 v3 v2 μ) (fun b2 μ1 => some (b2, μ1)))
-- X0_acrossFrom
def fX0_acrossFrom (L : Nat → Nat) (v0 : Int32) (μ : Mem) : Option (Int32 × Mem) :=
  (if v0 = 0 then some ((1 : Int32), μ) else some ((0 : Int32), μ))
-- X0_leastSingle
def fX0_leastSingle_7_b (L : Nat → Nat) (o : Nat) (self7 : Int32 → Int32 → Int32 → Mem → Option (Int32 × Mem)) (v1 v2 v3 : Int32) (μ : Mem) : Option (Int32 × Mem) :=
  bd (fX0_valuesOf L o v1 μ) (fun b2 μ1 => (if b2 ≤ v3 then some (v2, μ1) else bd (fX0_singleCost L o v1 v3 μ1) (fun b4 μ3 => lt' (if b4 < v2 then b4 else v2) (fun a5 => lt' (v3 + 1) (fun a6 => self7 v1 a5 a6 μ3)))))
def fX0_leastSingle_7 (L : Nat → Nat) (o : Nat) : Nat → Int32 → Int32 → Int32 → Mem → Option (Int32 × Mem)
  | 0, _, _, _, _ => none
  | k + 1, v1, v2, v3, μ => fX0_leastSingle_7_b L o (fX0_leastSingle_7 L o k) v1 v2 v3 μ
def fX0_leastSingle (L : Nat → Nat) (o : Nat) (v1 : Int32) (μ : Mem) : Option (Int32 × Mem) :=
  lt' (μ o 6) (fun a7 => fX0_leastSingle_7 L o FU v1 a7 (0 : Int32) μ)
-- X0_leastPairOf
def fX0_leastPairOf_20_b (L : Nat → Nat) (o : Nat) (self20 : Int32 → Int32 → Int32 → Int32 → Int32 → Int32 → Mem → Option (Int32 × Mem)) (v1 v2 v3 v4 v5 v6 : Int32) (μ : Mem) : Option (Int32 × Mem) :=
  (if v5 ≤ v6 then some (v4, μ) else bd (fX0_pairFrom L v1 v2 v3 v6 μ) (fun b2 μ1 => bd (fX3_get L (o + 7) b2 μ1) (fun b4 μ3 => lt' (if b4 < v4 then b4 else v4) (fun a5 => lt' (v6 + 1) (fun a6 => self20 v1 v2 v3 a5 v5 a6 μ3)))))
def fX0_leastPairOf_20 (L : Nat → Nat) (o : Nat) : Nat → Int32 → Int32 → Int32 → Int32 → Int32 → Int32 → Mem → Option (Int32 × Mem)
  | 0, _, _, _, _, _, _, _ => none
  | k + 1, v1, v2, v3, v4, v5, v6, μ => fX0_leastPairOf_20_b L o (fX0_leastPairOf_20 L o k) v1 v2 v3 v4 v5 v6 μ
def fX0_leastPairOf (L : Nat → Nat) (o : Nat) (v1 v2 v3 : Int32) (μ : Mem) : Option (Int32 × Mem) :=
  lt' (μ o 6) (fun a7 => bd (fX0_acrossFrom L v2 μ) (fun b9 μ8 => bd (fX0_valuesOn L o v1 b9 μ8) (fun b11 μ10 => fX0_leastPairOf_20 L o FU v1 v2 v3 a7 b11 (0 : Int32) μ10)))
-- X0_leastOfTable
def fX0_leastOfTable_7_b (L : Nat → Nat) (o : Nat) (self7 : Int32 → Int32 → Int32 → Mem → Option (Int32 × Mem)) (v1 v2 v3 : Int32) (μ : Mem) : Option (Int32 × Mem) :=
  bd (fX0_valuesOn L o v1 (0 : Int32) μ) (fun b2 μ1 => (if b2 ≤ v3 then some (v2, μ1) else bd (fX0_leastPairOf L o v1 (0 : Int32) v3 μ1) (fun b4 μ3 => lt' (if b4 < v2 then b4 else v2) (fun a5 => lt' (v3 + 1) (fun a6 => self7 v1 a5 a6 μ3)))))
def fX0_leastOfTable_7 (L : Nat → Nat) (o : Nat) : Nat → Int32 → Int32 → Int32 → Mem → Option (Int32 × Mem)
  | 0, _, _, _, _ => none
  | k + 1, v1, v2, v3, μ => fX0_leastOfTable_7_b L o (fX0_leastOfTable_7 L o k) v1 v2 v3 μ
def fX0_leastOfTable (L : Nat → Nat) (o : Nat) (v1 : Int32) (μ : Mem) : Option (Int32 × Mem) :=
  lt' (μ o 6) (fun a7 => fX0_leastOfTable_7 L o FU v1 a7 (0 : Int32) μ)
-- X0_greatestOfTable
def fX0_greatestOfTable_17_b (L : Nat → Nat) (o : Nat) (self4 : Int32 → Int32 → Int32 → Mem → Option (Int32 × Mem)) (self17 : Int32 → Int32 → Int32 → Int32 → Mem → Option (Int32 × Mem)) (v1 v2 v3 v4 : Int32) (μ : Mem) : Option (Int32 × Mem) :=
  bd (fX0_valuesOn L o v1 (1 : Int32) μ) (fun b2 μ1 => (if b2 ≤ v4 then lt' (v3 + 1) (fun a3 => self4 v1 v2 a3 μ1) else bd (fX0_pairCost L o v1 v3 v4 μ1) (fun b5 μ4 => lt' (if v2 < b5 then b5 else v2) (fun a6 => lt' (v4 + 1) (fun a7 => self17 v1 a6 v3 a7 μ4)))))
def fX0_greatestOfTable_17 (L : Nat → Nat) (o : Nat) (self4 : Int32 → Int32 → Int32 → Mem → Option (Int32 × Mem)) : Nat → Int32 → Int32 → Int32 → Int32 → Mem → Option (Int32 × Mem)
  | 0, _, _, _, _, _ => none
  | k + 1, v1, v2, v3, v4, μ => fX0_greatestOfTable_17_b L o self4 (fX0_greatestOfTable_17 L o self4 k) v1 v2 v3 v4 μ
def fX0_greatestOfTable_4_b (L : Nat → Nat) (o : Nat) (self4 : Int32 → Int32 → Int32 → Mem → Option (Int32 × Mem)) (v1 v2 v3 : Int32) (μ : Mem) : Option (Int32 × Mem) :=
  bd (fX0_valuesOn L o v1 (0 : Int32) μ) (fun b9 μ8 => (if b9 ≤ v3 then some (v2, μ8) else fX0_greatestOfTable_17 L o self4 FU v1 v2 v3 (0 : Int32) μ8))
def fX0_greatestOfTable_4 (L : Nat → Nat) (o : Nat) : Nat → Int32 → Int32 → Int32 → Mem → Option (Int32 × Mem)
  | 0, _, _, _, _ => none
  | k + 1, v1, v2, v3, μ => fX0_greatestOfTable_4_b L o (fX0_greatestOfTable_4 L o k) v1 v2 v3 μ
def fX0_greatestOfTable (L : Nat → Nat) (o : Nat) (v1 : Int32) (μ : Mem) : Option (Int32 × Mem) :=
  fX0_greatestOfTable_4 L o FU v1 (0 : Int32) (0 : Int32) μ
-- X0_sum
def fX0_sum (L : Nat → Nat) (o : Nat) (v1 v2 : Int32) (μ : Mem) : Option (Int32 × Mem) :=
  lt' (v1 + v2) (fun a1 => (if (μ o 6) ≤ a1 then some ((μ o 6), μ) else some (a1, μ)))
-- X0_isShut
def fX0_isShut (L : Nat → Nat) (o : Nat) (v1 v2 : Int32) (μ : Mem) : Option (Int32 × Mem) :=
  bd (fX0_constant L o μ) (fun b2 μ1 => bd (fX0_singleCost L o v1 v2 μ1) (fun b4 μ3 => bd (fX0_sum L o b2 b4 μ3) (fun b6 μ5 => (if b6 = (μ5 o 6) then some ((1 : Int32), μ5) else some ((0 : Int32), μ5)))))
-- X0_shutOf
def fX0_shutOf_28 (L : Nat → Nat) (o : Nat) (self4 : Int32 → Int32 → Int32 → Mem → Option (Int32 × Mem)) (v1 v2 v3 : Int32) (μ : Mem) : Option (Int32 × Mem) :=
  lt' (v3 + 1) (fun a1 => self4 v1 v2 a1 μ)
def fX0_shutOf_4_b (L : Nat → Nat) (o : Nat) (self4 : Int32 → Int32 → Int32 → Mem → Option (Int32 × Mem)) (v1 v2 v3 : Int32) (μ : Mem) : Option (Int32 × Mem) :=
  bd (fX0_valuesOf L o v1 μ) (fun b3 μ2 => (if b3 ≤ v3 then some (v2, μ2) else bd (fX0_isShut L o v1 v3 μ2) (fun b5 μ4 => (if b5 = 0 then fX0_shutOf_28 L o self4 v1 v2 v3 μ4 else lt' (v2 ||| ((1 : Int32) <<< (v3 &&& 31))) (fun a6 => fX0_shutOf_28 L o self4 v1 a6 v3 μ4)))))
def fX0_shutOf_4 (L : Nat → Nat) (o : Nat) : Nat → Int32 → Int32 → Int32 → Mem → Option (Int32 × Mem)
  | 0, _, _, _, _ => none
  | k + 1, v1, v2, v3, μ => fX0_shutOf_4_b L o (fX0_shutOf_4 L o k) v1 v2 v3 μ
def fX0_shutOf (L : Nat → Nat) (o : Nat) (v1 : Int32) (μ : Mem) : Option (Int32 × Mem) :=
  fX0_shutOf_4 L o FU v1 (0 : Int32) (0 : Int32) μ
-- J6_bitCount_0f7a4
def fJ6_bitCount_0f7a4 (L : Nat → Nat) (v0 : Int32) (μ : Mem) : Option (Int32 × Mem) :=
  lt' (v0 - ((v0.toUInt32 >>> ((1 : Int32).toUInt32 &&& Int32.toUInt32 31)).toInt32 &&& (1431655765 : Int32))) (fun a1 => lt' ((a1 &&& (858993459 : Int32)) + ((a1.toUInt32 >>> ((2 : Int32).toUInt32 &&& Int32.toUInt32 31)).toInt32 &&& (858993459 : Int32))) (fun a2 => lt' ((a2 + (a2.toUInt32 >>> ((4 : Int32).toUInt32 &&& Int32.toUInt32 31)).toInt32) &&& (252645135 : Int32)) (fun a3 => lt' (a3 + (a3.toUInt32 >>> ((8 : Int32).toUInt32 &&& Int32.toUInt32 31)).toInt32) (fun a4 => lt' (a4 + (a4.toUInt32 >>> ((16 : Int32).toUInt32 &&& Int32.toUInt32 31)).toInt32) (fun a5 => some ((a5 &&& (63 : Int32)), μ))))))
-- X0_shutInAll
def fX0_shutInAll_4_b (L : Nat → Nat) (o : Nat) (self4 : Int32 → Int32 → Mem → Option (Int32 × Mem)) (v1 v2 : Int32) (μ : Mem) : Option (Int32 × Mem) :=
  (if (μ o 4) ≤ v2 then some (v1, μ) else bd (fX0_shutOf L o v2 μ) (fun b2 μ1 => bd (fJ6_bitCount_0f7a4 L b2 μ1) (fun b4 μ3 => lt' (v1 + b4) (fun a5 => lt' (v2 + 1) (fun a6 => self4 a5 a6 μ3)))))
def fX0_shutInAll_4 (L : Nat → Nat) (o : Nat) : Nat → Int32 → Int32 → Mem → Option (Int32 × Mem)
  | 0, _, _, _ => none
  | k + 1, v1, v2, μ => fX0_shutInAll_4_b L o (fX0_shutInAll_4 L o k) v1 v2 μ
def fX0_shutInAll (L : Nat → Nat) (o : Nat) (μ : Mem) : Option (Int32 × Mem) :=
  fX0_shutInAll_4 L o FU (0 : Int32) (0 : Int32) μ
-- X0_costBeside
def fX0_costBeside_92 (L : Nat → Nat) (o : Nat) (r1 : Nat) (self18 : Int32 → Int32 → Int32 → Int32 → Int32 → Int32 → Mem → Option (Int32 × Mem)) (v2 v3 v4 v5 v6 v7 : Int32) (μ : Mem) : Option (Int32 × Mem) :=
  lt' (v7 + 1) (fun a1 => self18 v2 v3 v4 v5 v6 a1 μ)
def fX0_costBeside_18_b (L : Nat → Nat) (o : Nat) (r1 : Nat) (self18 : Int32 → Int32 → Int32 → Int32 → Int32 → Int32 → Mem → Option (Int32 × Mem)) (v2 v3 v4 v5 v6 v7 : Int32) (μ : Mem) : Option (Int32 × Mem) :=
  (if (μ o 5) ≤ v7 then some (v6, μ) else bd (fX3_get L (o + 3) v7 μ) (fun b3 μ2 => bd (fX3_get L (o + 5) v7 μ2) (fun b5 μ4 => (if b5 = v3 then (if v2 ≤ b3 then fX0_costBeside_92 L o r1 self18 v2 v3 v4 v5 v6 v7 μ4 else (if v7 = v5 then fX0_costBeside_92 L o r1 self18 v2 v3 v4 v5 v6 v7 μ4 else bd (fX3_get L r1 b3 μ4) (fun b7 μ6 => bd (fX0_pairAt L v7 b7 v4 μ6) (fun b9 μ8 => bd (fX3_get L (o + 7) b9 μ8) (fun b11 μ10 => bd (fX0_sum L o v6 b11 μ10) (fun b13 μ12 => fX0_costBeside_92 L o r1 self18 v2 v3 v4 v5 b13 v7 μ12)))))) else fX0_costBeside_92 L o r1 self18 v2 v3 v4 v5 v6 v7 μ4))))
def fX0_costBeside_18 (L : Nat → Nat) (o : Nat) (r1 : Nat) : Nat → Int32 → Int32 → Int32 → Int32 → Int32 → Int32 → Mem → Option (Int32 × Mem)
  | 0, _, _, _, _, _, _, _ => none
  | k + 1, v2, v3, v4, v5, v6, v7, μ => fX0_costBeside_18_b L o r1 (fX0_costBeside_18 L o r1 k) v2 v3 v4 v5 v6 v7 μ
def fX0_costBeside (L : Nat → Nat) (o : Nat) (r1 : Nat) (v2 v3 v4 v5 : Int32) (μ : Mem) : Option (Int32 × Mem) :=
  bd (fX0_singleAt L v3 v4 μ) (fun b15 μ14 => bd (fX3_get L (o + 7) b15 μ14) (fun b17 μ16 => fX0_costBeside_18 L o r1 FU v2 v3 v4 v5 b17 (0 : Int32) μ16))
-- X0_totalOf
def fX0_totalOf_7_b (L : Nat → Nat) (o : Nat) (r1 : Nat) (self7 : Int32 → Int32 → Mem → Option (Int32 × Mem)) (v2 v3 : Int32) (μ : Mem) : Option (Int32 × Mem) :=
  (if (μ o 4) ≤ v3 then some (v2, μ) else bd (fX3_get L r1 v3 μ) (fun b2 μ1 => bd (fX0_costBeside L o r1 v3 v3 b2 (-1 : Int32) μ1) (fun b4 μ3 => bd (fX0_sum L o v2 b4 μ3) (fun b6 μ5 => lt' (v3 + 1) (fun a7 => self7 b6 a7 μ5)))))
def fX0_totalOf_7 (L : Nat → Nat) (o : Nat) (r1 : Nat) : Nat → Int32 → Int32 → Mem → Option (Int32 × Mem)
  | 0, _, _, _ => none
  | k + 1, v2, v3, μ => fX0_totalOf_7_b L o r1 (fX0_totalOf_7 L o r1 k) v2 v3 μ
def fX0_totalOf (L : Nat → Nat) (o : Nat) (r1 : Nat) (μ : Mem) : Option (Int32 × Mem) :=
  bd (fX0_constant L o μ) (fun b9 μ8 => fX0_totalOf_7 L o r1 FU b9 (0 : Int32) μ8)
-- X0_copyTo
def fX0_copyTo (L : Nat → Nat) (o : Nat) (r1 : Nat) (μ : Mem) : Option Mem :=
  bv (fX3_takeFrom L r1 (o + 7) μ) (fun μ1 => some μ1)
-- X0_copyFrom
def fX0_copyFrom (L : Nat → Nat) (o : Nat) (r1 : Nat) (μ : Mem) : Option Mem :=
  bv (fX3_takeFrom L (o + 7) r1 μ) (fun μ1 => some μ1)
-- X3_isLike
def fX3_isLike_2_b (L : Nat → Nat) (o : Nat) (r1 : Nat) (self2 : Int32 → Mem → Option (Int32 × Mem)) (v2 : Int32) (μ : Mem) : Option (Int32 × Mem) :=
  (if (nI (L (o + 1))) ≤ v2 then some ((1 : Int32), μ) else ald L μ (o + 1) v2 (fun a1 => bd (fX3_get L r1 v2 μ) (fun b3 μ2 => (if a1 = b3 then lt' (v2 + 1) (fun a4 => self2 a4 μ2) else some ((0 : Int32), μ2)))))
def fX3_isLike_2 (L : Nat → Nat) (o : Nat) (r1 : Nat) : Nat → Int32 → Mem → Option (Int32 × Mem)
  | 0, _, _ => none
  | k + 1, v2, μ => fX3_isLike_2_b L o r1 (fX3_isLike_2 L o r1 k) v2 μ
def fX3_isLike (L : Nat → Nat) (o : Nat) (r1 : Nat) (μ : Mem) : Option (Int32 × Mem) :=
  fX3_isLike_2 L o r1 FU (0 : Int32) μ
-- X0_areAs
def fX0_areAs (L : Nat → Nat) (o : Nat) (r1 : Nat) (μ : Mem) : Option (Int32 × Mem) :=
  bd (fX3_isLike L (o + 7) r1 μ) (fun b2 μ1 => zr b2 μ1)
-- X0_lessen
def fX0_lessen_29 (L : Nat → Nat) (o : Nat) (s0 s1 : Int32) (μ : Mem) : Option Mem :=
  bv (fX3_set L (o + 7) s1 s0 μ) (fun μ1 => some μ1)
def fX0_lessen (L : Nat → Nat) (o : Nat) (v1 v2 : Int32) (μ : Mem) : Option Mem :=
  bd (fX3_get L (o + 7) v1 μ) (fun b3 μ2 => (if b3 = (μ2 o 6) then fX0_lessen_29 L o b3 v1 μ2 else fX0_lessen_29 L o (b3 - v2) v1 μ2))
-- X0_enlarge
def fX0_enlarge (L : Nat → Nat) (o : Nat) (v1 v2 : Int32) (μ : Mem) : Option Mem :=
  bd (fX3_get L (o + 7) v1 μ) (fun b2 μ1 => bd (fX0_sum L o b2 v2 μ1) (fun b4 μ3 => bv (fX3_set L (o + 7) v1 b4 μ3) (fun μ5 => some μ5)))
-- X0_growSingle
def fX0_growSingle (L : Nat → Nat) (o : Nat) (v1 v2 v3 : Int32) (μ : Mem) : Option Mem :=
  bd (fX0_singleAt L v1 v2 μ) (fun b2 μ1 => bv (fX0_enlarge L o b2 v3 μ1) (fun μ3 => some μ3))
-- X0_moveToValue
def fX0_moveToValue_14_b (L : Nat → Nat) (o : Nat) (self14 : Int32 → Int32 → Int32 → Int32 → Int32 → Int32 → Mem → Option Mem) (v1 v2 v3 v4 v5 v6 : Int32) (μ : Mem) : Option Mem :=
  (if v5 ≤ v6 then bd (fX0_nameOn L o v1 v2 μ) (fun b2 μ1 => bd (fX0_singleAt L b2 v3 μ1) (fun b4 μ3 => bv (fX0_enlarge L o b4 v4 μ3) (fun μ5 => some μ5))) else bd (fX0_pairFrom L v1 v2 v3 v6 μ) (fun b7 μ6 => bv (fX0_lessen L o b7 v4 μ6) (fun μ8 => lt' (v6 + 1) (fun a9 => self14 v1 v2 v3 v4 v5 a9 μ8))))
def fX0_moveToValue_14 (L : Nat → Nat) (o : Nat) : Nat → Int32 → Int32 → Int32 → Int32 → Int32 → Int32 → Mem → Option Mem
  | 0, _, _, _, _, _, _, _ => none
  | k + 1, v1, v2, v3, v4, v5, v6, μ => fX0_moveToValue_14_b L o (fX0_moveToValue_14 L o k) v1 v2 v3 v4 v5 v6 μ
def fX0_moveToValue (L : Nat → Nat) (o : Nat) (v1 v2 v3 v4 : Int32) (μ : Mem) : Option Mem :=
  bd (fX0_acrossFrom L v2 μ) (fun b11 μ10 => bd (fX0_valuesOn L o v1 b11 μ10) (fun b13 μ12 => fX0_moveToValue_14 L o FU v1 v2 v3 v4 b13 (0 : Int32) μ12))
-- X0_moveToTable
def fX0_moveToTable_30_b (L : Nat → Nat) (o : Nat) (self30 : Int32 → Int32 → Int32 → Int32 → Int32 → Int32 → Mem → Option Mem) (v1 v2 v3 v4 v5 v6 : Int32) (μ : Mem) : Option Mem :=
  (if v5 ≤ v6 then some μ else bd (fX0_pairFrom L v1 v2 v3 v6 μ) (fun b2 μ1 => bv (fX0_enlarge L o b2 v4 μ1) (fun μ3 => lt' (v6 + 1) (fun a4 => self30 v1 v2 v3 v4 v5 a4 μ3))))
def fX0_moveToTable_30 (L : Nat → Nat) (o : Nat) : Nat → Int32 → Int32 → Int32 → Int32 → Int32 → Int32 → Mem → Option Mem
  | 0, _, _, _, _, _, _, _ => none
  | k + 1, v1, v2, v3, v4, v5, v6, μ => fX0_moveToTable_30_b L o (fX0_moveToTable_30 L o k) v1 v2 v3 v4 v5 v6 μ
def fX0_moveToTable (L : Nat → Nat) (o : Nat) (v1 v2 v3 v4 : Int32) (μ : Mem) : Option Mem :=
  bd (fX0_nameOn L o v1 v2 μ) (fun b6 μ5 => bd (fX0_singleAt L b6 v3 μ5) (fun b8 μ7 => bv (fX0_lessen L o b8 v4 μ7) (fun μ9 => bd (fX0_acrossFrom L v2 μ9) (fun b11 μ10 => bd (fX0_valuesOn L o v1 b11 μ10) (fun b13 μ12 => fX0_moveToTable_30 L o FU v1 v2 v3 v4 b13 (0 : Int32) μ12)))))
-- X0_moveToConstant
def fX0_moveToConstant_2_b (L : Nat → Nat) (o : Nat) (self2 : Int32 → Int32 → Int32 → Mem → Option Mem) (v1 v2 v3 : Int32) (μ : Mem) : Option Mem :=
  bd (fX0_valuesOf L o v1 μ) (fun b2 μ1 => (if b2 ≤ v3 then bv (fX0_enlarge L o (0 : Int32) v2 μ1) (fun μ3 => some μ3) else bd (fX0_singleAt L v1 v3 μ1) (fun b5 μ4 => bv (fX0_lessen L o b5 v2 μ4) (fun μ6 => lt' (v3 + 1) (fun a7 => self2 v1 v2 a7 μ6)))))
def fX0_moveToConstant_2 (L : Nat → Nat) (o : Nat) : Nat → Int32 → Int32 → Int32 → Mem → Option Mem
  | 0, _, _, _, _ => none
  | k + 1, v1, v2, v3, μ => fX0_moveToConstant_2_b L o (fX0_moveToConstant_2 L o k) v1 v2 v3 μ
def fX0_moveToConstant (L : Nat → Nat) (o : Nat) (v1 v2 : Int32) (μ : Mem) : Option Mem :=
  fX0_moveToConstant_2 L o FU v1 v2 (0 : Int32) μ
-- X0_topShutSingles
def fX0_topShutSingles_30 (L : Nat → Nat) (o : Nat) (self2 : Int32 → Int32 → Mem → Option Mem) (v1 v2 : Int32) (μ : Mem) : Option Mem :=
  lt' (v2 + 1) (fun a1 => self2 v1 a1 μ)
def fX0_topShutSingles_2_b (L : Nat → Nat) (o : Nat) (self2 : Int32 → Int32 → Mem → Option Mem) (v1 v2 : Int32) (μ : Mem) : Option Mem :=
  bd (fX0_valuesOf L o v1 μ) (fun b3 μ2 => (if b3 ≤ v2 then some μ2 else bd (fX0_isShut L o v1 v2 μ2) (fun b5 μ4 => (if b5 = 0 then fX0_topShutSingles_30 L o self2 v1 v2 μ4 else bv (fX0_setSingle L o v1 v2 (μ4 o 6) μ4) (fun μ6 => fX0_topShutSingles_30 L o self2 v1 v2 μ6)))))
def fX0_topShutSingles_2 (L : Nat → Nat) (o : Nat) : Nat → Int32 → Int32 → Mem → Option Mem
  | 0, _, _, _ => none
  | k + 1, v1, v2, μ => fX0_topShutSingles_2_b L o (fX0_topShutSingles_2 L o k) v1 v2 μ
def fX0_topShutSingles (L : Nat → Nat) (o : Nat) (v1 : Int32) (μ : Mem) : Option Mem :=
  fX0_topShutSingles_2 L o FU v1 (0 : Int32) μ
-- X0_topPairsOfTopSingles
def fX0_topPairsOfTopSingles_81 (L : Nat → Nat) (o : Nat) (self30 : Int32 → Int32 → Int32 → Int32 → Int32 → Mem → Option Mem) (v1 v2 v3 v4 v5 : Int32) (μ : Mem) : Option Mem :=
  lt' (v5 + 1) (fun a1 => self30 v1 v2 v3 v4 a1 μ)
def fX0_topPairsOfTopSingles_68 (L : Nat → Nat) (o : Nat) (self30 : Int32 → Int32 → Int32 → Int32 → Int32 → Mem → Option Mem) (v1 v2 v3 v4 v5 : Int32) (μ : Mem) : Option Mem :=
  bv (fX0_setPair L o v1 v4 v5 (μ o 6) μ) (fun μ2 => fX0_topPairsOfTopSingles_81 L o self30 v1 v2 v3 v4 v5 μ2)
def fX0_topPairsOfTopSingles_30_b (L : Nat → Nat) (o : Nat) (self17 : Int32 → Int32 → Int32 → Int32 → Mem → Option Mem) (self30 : Int32 → Int32 → Int32 → Int32 → Int32 → Mem → Option Mem) (v1 v2 v3 v4 v5 : Int32) (μ : Mem) : Option Mem :=
  bd (fX0_valuesOf L o v3 μ) (fun b4 μ3 => (if b4 ≤ v5 then lt' (v4 + 1) (fun a5 => self17 v1 v2 v3 a5 μ3) else bd (fX0_singleCost L o v2 v4 μ3) (fun b7 μ6 => (if b7 = (μ6 o 6) then fX0_topPairsOfTopSingles_68 L o self30 v1 v2 v3 v4 v5 μ6 else bd (fX0_singleCost L o v3 v5 μ6) (fun b9 μ8 => (if b9 = (μ8 o 6) then fX0_topPairsOfTopSingles_68 L o self30 v1 v2 v3 v4 v5 μ8 else fX0_topPairsOfTopSingles_81 L o self30 v1 v2 v3 v4 v5 μ8))))))
def fX0_topPairsOfTopSingles_30 (L : Nat → Nat) (o : Nat) (self17 : Int32 → Int32 → Int32 → Int32 → Mem → Option Mem) : Nat → Int32 → Int32 → Int32 → Int32 → Int32 → Mem → Option Mem
  | 0, _, _, _, _, _, _ => none
  | k + 1, v1, v2, v3, v4, v5, μ => fX0_topPairsOfTopSingles_30_b L o self17 (fX0_topPairsOfTopSingles_30 L o self17 k) v1 v2 v3 v4 v5 μ
def fX0_topPairsOfTopSingles_17_b (L : Nat → Nat) (o : Nat) (self17 : Int32 → Int32 → Int32 → Int32 → Mem → Option Mem) (v1 v2 v3 v4 : Int32) (μ : Mem) : Option Mem :=
  bd (fX0_valuesOf L o v2 μ) (fun b11 μ10 => (if b11 ≤ v4 then some μ10 else fX0_topPairsOfTopSingles_30 L o self17 FU v1 v2 v3 v4 (0 : Int32) μ10))
def fX0_topPairsOfTopSingles_17 (L : Nat → Nat) (o : Nat) : Nat → Int32 → Int32 → Int32 → Int32 → Mem → Option Mem
  | 0, _, _, _, _, _ => none
  | k + 1, v1, v2, v3, v4, μ => fX0_topPairsOfTopSingles_17_b L o (fX0_topPairsOfTopSingles_17 L o k) v1 v2 v3 v4 μ
def fX0_topPairsOfTopSingles (L : Nat → Nat) (o : Nat) (v1 : Int32) (μ : Mem) : Option Mem :=
  bd (fX0_nameOn L o v1 (0 : Int32) μ) (fun b13 μ12 => bd (fX0_nameOn L o v1 (1 : Int32) μ12) (fun b15 μ14 => fX0_topPairsOfTopSingles_17 L o FU v1 b13 b15 (0 : Int32) μ14))
-- X1_size
def fX1_size (L : Nat → Nat) (o : Nat) (μ : Mem) : Option (Int32 × Mem) :=
  some ((μ o 2), μ)
-- X1_clear
def fX1_clear (L : Nat → Nat) (o : Nat) (μ : Mem) : Option Mem :=
  pu μ o 2 (0 : Int32) (fun μ1 => some μ1)
-- X1_keep
def fX1_keep_70 (L : Nat → Nat) (o : Nat) (r1 : Nat) (s0 : Int32) (μ : Mem) : Option Mem :=
  pu μ o 1 s0 (fun μ1 => lt' (if ((μ1 o 2) + (1 : Int32)) < (nI (L (o + 1))) then ((μ1 o 2) + (1 : Int32)) else (nI (L (o + 1)))) (fun a2 => pu μ1 o 2 a2 (fun μ3 => some μ3)))
def fX1_keep (L : Nat → Nat) (o : Nat) (r1 : Nat) (μ : Mem) : Option Mem :=
  (if (μ o 1) < 0 then some μ else (if (nI (L (o + 1))) ≤ (μ o 1) then some μ else aaq L (o + 1) (μ o 1) (aaq L (o + 1) (μ o 1) (bv (fX0_copyTo L r1 ((o + 1) + 1 + 2 * (μ o 1).toNatClampNeg) μ) (fun μ6 => (if (nI (L (o + 1))) ≤ ((μ6 o 1) + (1 : Int32)) then fX1_keep_70 L o r1 (0 : Int32) μ6 else fX1_keep_70 L o r1 ((μ6 o 1) + (1 : Int32)) μ6))))))
-- X1_giveBack
def fX1_giveBack_23 (L : Nat → Nat) (o : Nat) (r1 : Nat) (s0 : Int32) (μ : Mem) : Option (Int32 × Mem) :=
  (if (μ o 2) = 0 then some ((0 : Int32), μ) else (if s0 < 0 then some ((0 : Int32), μ) else (if (nI (L (o + 1))) ≤ s0 then some ((0 : Int32), μ) else aaq L (o + 1) s0 (aaq L (o + 1) s0 (bv (fX0_copyFrom L r1 ((o + 1) + 1 + 2 * s0.toNatClampNeg) μ) (fun μ3 => pu μ3 o 1 s0 (fun μ4 => pu μ4 o 2 ((μ4 o 2) - (1 : Int32)) (fun μ5 => some ((1 : Int32), μ5)))))))))
def fX1_giveBack (L : Nat → Nat) (o : Nat) (r1 : Nat) (μ : Mem) : Option (Int32 × Mem) :=
  (if (μ o 1) ≤ 0 then fX1_giveBack_23 L o r1 ((nI (L (o + 1))) - (1 : Int32)) μ else fX1_giveBack_23 L o r1 ((μ o 1) - (1 : Int32)) μ)
-- X6_length
def fX6_length (L : Nat → Nat) (o : Nat) (μ : Mem) : Option (Int32 × Mem) :=
  some ((μ o 1), μ)
-- X6_letterAt
def fX6_letterAt (L : Nat → Nat) (o : Nat) (v1 : Int32) (μ : Mem) : Option (Int32 × Mem) :=
  (if v1 < 0 then some ((-1 : Int32), μ) else (if (μ o 1) ≤ v1 then some ((-1 : Int32), μ) else bd (fX3_get L (o + 1) v1 μ) (fun b2 μ1 => some (b2, μ1))))
-- X2_numbersOf
def fX2_numbersOf (L : Nat → Nat) (v0 : Int32) (μ : Mem) : Option (Int32 × Mem) :=
  (if v0 = (98 : Int32) then some ((3 : Int32), μ) else (if v0 = (99 : Int32) then some ((4 : Int32), μ) else (if v0 = (116 : Int32) then some ((1 : Int32), μ) else (if v0 = (117 : Int32) then some ((3 : Int32), μ) else (if v0 = (118 : Int32) then some ((1 : Int32), μ) else some ((0 : Int32), μ))))))
-- X2_isFigure
def fX2_isFigure (L : Nat → Nat) (v0 : Int32) (μ : Mem) : Option (Int32 × Mem) :=
  (if v0 < (48 : Int32) then some ((0 : Int32), μ) else (if (57 : Int32) < v0 then some ((0 : Int32), μ) else some ((1 : Int32), μ)))
-- X2_readNumber
def fX2_readNumber_79 (L : Nat → Nat) (o : Nat) (r1 : Nat) (v2 v3 : Int32) (μ : Mem) : Option (Int32 × Mem) :=
  bv (fX3_set L (o + 1) v2 v3 μ) (fun μ1 => some ((1 : Int32), μ1))
def fX2_readNumber (L : Nat → Nat) (o : Nat) (r1 : Nat) (v2 : Int32) (μ : Mem) : Option (Int32 × Mem) :=
  bd (fX6_letterAt L r1 (μ o 1) μ) (fun b3 μ2 => bd (fX2_isFigure L b3 μ2) (fun b5 μ4 => (if b5 = 0 then some ((0 : Int32), μ4) else bd (fX6_letterAt L r1 (μ4 o 1) μ4) (fun b7 μ6 => lt' (b7 - (48 : Int32)) (fun a8 => pu μ6 o 1 ((μ6 o 1) + (1 : Int32)) (fun μ9 => bd (fX6_letterAt L r1 (μ9 o 1) μ9) (fun b11 μ10 => bd (fX2_isFigure L b11 μ10) (fun b13 μ12 => (if b13 = 0 then fX2_readNumber_79 L o r1 v2 a8 μ12 else bd (fX6_letterAt L r1 (μ12 o 1) μ12) (fun b15 μ14 => lt' ((((10 : Int32) * a8) + b15) - (48 : Int32)) (fun a16 => pu μ14 o 1 ((μ14 o 1) + (1 : Int32)) (fun μ17 => fX2_readNumber_79 L o r1 v2 a16 μ17))))))))))))
-- X2_readNumbers
def fX2_readNumbers_21 (L : Nat → Nat) (o : Nat) (r1 : Nat) (self2 : Int32 → Int32 → Mem → Option (Int32 × Mem)) (v2 v3 s0 : Int32) (μ : Mem) : Option (Int32 × Mem) :=
  bd (fX2_readNumber L o r1 v3 μ) (fun b2 μ1 => (if b2 = 0 then some ((0 : Int32), μ1) else bd (fX6_letterAt L r1 (μ1 o 1) μ1) (fun b4 μ3 => (if b4 = s0 then pu μ3 o 1 ((μ3 o 1) + (1 : Int32)) (fun μ5 => lt' (v3 + 1) (fun a6 => self2 v2 a6 μ5)) else some ((0 : Int32), μ3)))))
def fX2_readNumbers_2_b (L : Nat → Nat) (o : Nat) (r1 : Nat) (self2 : Int32 → Int32 → Mem → Option (Int32 × Mem)) (v2 v3 : Int32) (μ : Mem) : Option (Int32 × Mem) :=
  (if v2 ≤ v3 then some ((1 : Int32), μ) else (if v3 = (v2 - (1 : Int32)) then fX2_readNumbers_21 L o r1 self2 v2 v3 (59 : Int32) μ else fX2_readNumbers_21 L o r1 self2 v2 v3 (44 : Int32) μ))
def fX2_readNumbers_2 (L : Nat → Nat) (o : Nat) (r1 : Nat) : Nat → Int32 → Int32 → Mem → Option (Int32 × Mem)
  | 0, _, _, _ => none
  | k + 1, v2, v3, μ => fX2_readNumbers_2_b L o r1 (fX2_readNumbers_2 L o r1 k) v2 v3 μ
def fX2_readNumbers (L : Nat → Nat) (o : Nat) (r1 : Nat) (v2 : Int32) (μ : Mem) : Option (Int32 × Mem) :=
  fX2_readNumbers_2 L o r1 FU v2 (0 : Int32) μ
-- X2_tell
def fX2_tell (L : Nat → Nat) (o : Nat) (r2 : Nat) (v1 : Int32) (μ : Mem) : Option (Int32 × Mem) :=
  bd (fX3_get L (o + 1) (0 : Int32) μ) (fun b2 μ1 => bd (fX3_get L (o + 1) (1 : Int32) μ1) (fun b4 μ3 => bd (fX3_get L (o + 1) (2 : Int32) μ3) (fun b6 μ5 => (if v1 = (98 : Int32) then bd (fX0_addTable L r2 b2 b4 b6 μ5) (fun b8 μ7 => zr b8 μ7) else (if v1 = (99 : Int32) then bd (fX3_get L (o + 1) (3 : Int32) μ5) (fun b10 μ9 => bd (fX0_tellPair L r2 b2 b4 b6 b10 μ9) (fun b12 μ11 => zr b12 μ11)) else (if v1 = (116 : Int32) then bd (fX0_tellTop L r2 b2 μ5) (fun b14 μ13 => zr b14 μ13) else (if v1 = (117 : Int32) then bd (fX0_tellSingle L r2 b2 b4 b6 μ5) (fun b16 μ15 => zr b16 μ15) else (if v1 = (118 : Int32) then bd (fX0_addName L r2 b2 μ5) (fun b18 μ17 => zr b18 μ17) else some ((0 : Int32), μ5)))))))))
-- X2_readItem
def fX2_readItem (L : Nat → Nat) (o : Nat) (r1 : Nat) (r2 : Nat) (μ : Mem) : Option (Int32 × Mem) :=
  bd (fX6_letterAt L r1 (μ o 1) μ) (fun b2 μ1 => pu μ1 o 1 ((μ1 o 1) + (1 : Int32)) (fun μ3 => bd (fX2_numbersOf L b2 μ3) (fun b5 μ4 => (if b5 ≤ 0 then some ((0 : Int32), μ4) else bd (fX2_readNumbers L o r1 b5 μ4) (fun b7 μ6 => (if b7 = 0 then some ((0 : Int32), μ6) else bd (fX2_tell L o r2 b2 μ6) (fun b9 μ8 => (if b9 = 0 then some ((0 : Int32), μ8) else some ((1 : Int32), μ8)))))))))
-- X2_readAll
def fX2_readAll_53 (L : Nat → Nat) (o : Nat) (r1 : Nat) (r2 : Nat) (μ : Mem) : Option (Int32 × Mem) :=
  bv (fX0_keepToTop L r2 μ) (fun μ1 => some ((-4 : Int32), μ1))
def fX2_readAll_11_b (L : Nat → Nat) (o : Nat) (r1 : Nat) (r2 : Nat) (self11 : Int32 → Mem → Option (Int32 × Mem)) (v3 : Int32) (μ : Mem) : Option (Int32 × Mem) :=
  (if (200 : Int32) ≤ v3 then fX2_readAll_53 L o r1 r2 μ else bd (fX6_length L r1 μ) (fun b3 μ2 => (if b3 ≤ (μ o 1) then fX2_readAll_53 L o r1 r2 μ2 else lt' (μ2 o 1) (fun a4 => bd (fX2_readItem L o r1 r2 μ2) (fun b6 μ5 => (if b6 = 0 then some (a4, μ5) else lt' (v3 + 1) (fun a7 => self11 a7 μ5)))))))
def fX2_readAll_11 (L : Nat → Nat) (o : Nat) (r1 : Nat) (r2 : Nat) : Nat → Int32 → Mem → Option (Int32 × Mem)
  | 0, _, _ => none
  | k + 1, v3, μ => fX2_readAll_11_b L o r1 r2 (fX2_readAll_11 L o r1 r2 k) v3 μ
def fX2_readAll (L : Nat → Nat) (o : Nat) (r1 : Nat) (r2 : Nat) (μ : Mem) : Option (Int32 × Mem) :=
  bv (fX0_clear L r2 μ) (fun μ8 => pu μ8 o 1 (0 : Int32) (fun μ9 => fX2_readAll_11 L o r1 r2 FU (0 : Int32) μ9))
-- X4_chosenBits
def fX4_chosenBits_4_b (L : Nat → Nat) (o : Nat) (self4 : Int32 → Int32 → Int32 → Mem → Option (Int32 × Mem)) (v1 v2 v3 : Int32) (μ : Mem) : Option (Int32 × Mem) :=
  (if v1 ≤ v3 then some (v2, μ) else bd (fX3_get L (o + 1) v3 μ) (fun b2 μ1 => lt' (v2 ||| ((1 : Int32) <<< ((((4 : Int32) * v3) + b2) &&& 31))) (fun a3 => lt' (v3 + 1) (fun a4 => self4 v1 a3 a4 μ1))))
def fX4_chosenBits_4 (L : Nat → Nat) (o : Nat) : Nat → Int32 → Int32 → Int32 → Mem → Option (Int32 × Mem)
  | 0, _, _, _, _ => none
  | k + 1, v1, v2, v3, μ => fX4_chosenBits_4_b L o (fX4_chosenBits_4 L o k) v1 v2 v3 μ
def fX4_chosenBits (L : Nat → Nat) (o : Nat) (v1 : Int32) (μ : Mem) : Option (Int32 × Mem) :=
  fX4_chosenBits_4 L o FU v1 (0 : Int32) (0 : Int32) μ
-- X4_note
def fX4_note (L : Nat → Nat) (o : Nat) (r1 : Nat) (v2 : Int32) (μ : Mem) : Option Mem :=
  bd (fX0_names L r1 μ) (fun b2 μ1 => bd (fX4_chosenBits L o b2 μ1) (fun b4 μ3 => pu μ3 o 9 ((μ3 o 9) + (1 : Int32)) (fun μ5 => (if (μ5 o 6) ≤ v2 then (if v2 = (μ5 o 6) then pu μ5 o 8 ((μ5 o 8) + (1 : Int32)) (fun μ8 => pu μ8 o 10 ((μ8 o 10) &&& b4) (fun μ9 => some μ9)) else lt' (if v2 < (μ5 o 7) then v2 else (μ5 o 7)) (fun a6 => pu μ5 o 7 a6 (fun μ7 => some μ7))) else pu μ5 o 7 (μ5 o 6) (fun μ10 => pu μ10 o 6 v2 (fun μ11 => pu μ11 o 8 (1 : Int32) (fun μ12 => pu μ12 o 10 b4 (fun μ13 => bv (fX3_takeFrom L (o + 3) (o + 1) μ13) (fun μ14 => some μ14)))))))))
-- X4_take
def fX4_take_0 (L : Nat → Nat) (go : Int32 → Int32 → Mem → Option Mem) (o : Nat) (r1 : Nat) (v2 v3 v4 : Int32) (μ : Mem) : Option Mem :=
  bv (fX3_set L (o + 1) v2 v3 μ) (fun μ1 => bd (fX0_costBeside L r1 (o + 1) v2 v2 v3 (μ1 o 4) μ1) (fun b3 μ2 => bd (fX0_sum L r1 v4 b3 μ2) (fun b5 μ4 => bv (go (v2 + (1 : Int32)) b5 μ4) (fun μ6 => some μ6))))
abbrev fX4_take (L : Nat → Nat) (go : Int32 → Int32 → Mem → Option Mem) (o : Nat) (r1 : Nat) (v2 v3 v4 : Int32) (μ : Mem) : Option Mem := fX4_take_0 L go o r1 v2 v3 v4 μ
-- X4_goOn
def fX4_goOn_69 (L : Nat → Nat) (go : Int32 → Int32 → Mem → Option Mem) (o : Nat) (r1 : Nat) (self33 : Int32 → Int32 → Int32 → Mem → Option Mem) (v2 v3 v4 : Int32) (μ : Mem) : Option Mem :=
  lt' (v4 + 1) (fun a1 => self33 v2 v3 a1 μ)
def fX4_goOn_60 (L : Nat → Nat) (go : Int32 → Int32 → Mem → Option Mem) (o : Nat) (r1 : Nat) (self33 : Int32 → Int32 → Int32 → Mem → Option Mem) (v2 v3 v4 : Int32) (μ : Mem) : Option Mem :=
  bv (fX4_take L go o r1 v2 v4 v3 μ) (fun μ2 => fX4_goOn_69 L go o r1 self33 v2 v3 v4 μ2)
def fX4_goOn_33_b (L : Nat → Nat) (go : Int32 → Int32 → Mem → Option Mem) (o : Nat) (r1 : Nat) (self33 : Int32 → Int32 → Int32 → Mem → Option Mem) (v2 v3 v4 : Int32) (μ : Mem) : Option Mem :=
  bd (fX0_valuesOf L r1 v2 μ) (fun b4 μ3 => (if b4 ≤ v4 then some μ3 else (if v2 = (μ3 o 2) then (if v4 = (μ3 o 3) then fX4_goOn_60 L go o r1 self33 v2 v3 v4 μ3 else fX4_goOn_69 L go o r1 self33 v2 v3 v4 μ3) else fX4_goOn_60 L go o r1 self33 v2 v3 v4 μ3)))
def fX4_goOn_33 (L : Nat → Nat) (go : Int32 → Int32 → Mem → Option Mem) (o : Nat) (r1 : Nat) : Nat → Int32 → Int32 → Int32 → Mem → Option Mem
  | 0, _, _, _, _ => none
  | k + 1, v2, v3, v4, μ => fX4_goOn_33_b L go o r1 (fX4_goOn_33 L go o r1 k) v2 v3 v4 μ
def fX4_goOn_0 (L : Nat → Nat) (go : Int32 → Int32 → Mem → Option Mem) (o : Nat) (r1 : Nat) (v2 v3 : Int32) (μ : Mem) : Option Mem :=
  (if (μ o 5) ≤ v3 then some μ else (if v2 ≤ (6 : Int32) then bd (fX0_names L r1 μ) (fun b6 μ5 => (if v2 < b6 then fX4_goOn_33 L go o r1 FU v2 v3 (0 : Int32) μ5 else bv (fX4_note L o r1 v3 μ5) (fun μ7 => some μ7))) else some μ))
def fX4_goOn : Nat → (Nat → Nat) → Nat → Nat → Int32 → Int32 → Mem → Option Mem
  | 0, _, _, _, _, _, _ => none
  | d + 1, L, o, r1, v2, v3, μ => fX4_goOn_0 L (fX4_goOn d L o r1) o r1 v2 v3 μ
-- X4_goThrough
def fX4_goThrough (L : Nat → Nat) (o : Nat) (r1 : Nat) (v2 v3 v4 : Int32) (μ : Mem) : Option Mem :=
  pu μ o 2 v2 (fun μ1 => pu μ1 o 3 v3 (fun μ2 => pu μ2 o 4 v4 (fun μ3 => bd (fX0_top L r1 μ3) (fun b5 μ4 => pu μ4 o 5 b5 (fun μ6 => pu μ6 o 6 (μ6 o 5) (fun μ7 => pu μ7 o 7 (μ7 o 5) (fun μ8 => pu μ8 o 8 (0 : Int32) (fun μ9 => pu μ9 o 9 (0 : Int32) (fun μ10 => pu μ10 o 10 (0 : Int32) (fun μ11 => bd (fX0_constant L r1 μ11) (fun b13 μ12 => bv (fX4_goOn 8 L o r1 (0 : Int32) b13 μ12) (fun μ14 => some μ14))))))))))))
-- X4_hasFound
def fX4_hasFound (L : Nat → Nat) (o : Nat) (μ : Mem) : Option (Int32 × Mem) :=
  (if (μ o 8) ≤ 0 then some ((0 : Int32), μ) else some ((1 : Int32), μ))
-- X4_hasSecond
def fX4_hasSecond (L : Nat → Nat) (o : Nat) (μ : Mem) : Option (Int32 × Mem) :=
  (if (μ o 5) ≤ (μ o 7) then some ((0 : Int32), μ) else some ((1 : Int32), μ))
-- X4_leastTotal
def fX4_leastTotal (L : Nat → Nat) (o : Nat) (μ : Mem) : Option (Int32 × Mem) :=
  some ((μ o 6), μ)
-- X4_waysOfLeast
def fX4_waysOfLeast (L : Nat → Nat) (o : Nat) (μ : Mem) : Option (Int32 × Mem) :=
  some ((μ o 8), μ)
-- X4_secondTotal
def fX4_secondTotal (L : Nat → Nat) (o : Nat) (μ : Mem) : Option (Int32 × Mem) :=
  some ((μ o 7), μ)
-- X4_choicesBelowTop
def fX4_choicesBelowTop (L : Nat → Nat) (o : Nat) (μ : Mem) : Option (Int32 × Mem) :=
  some ((μ o 9), μ)
-- X4_commonValues
def fX4_commonValues (L : Nat → Nat) (o : Nat) (μ : Mem) : Option (Int32 × Mem) :=
  some ((μ o 10), μ)
-- X4_firstValueOf
def fX4_firstValueOf (L : Nat → Nat) (o : Nat) (v1 : Int32) (μ : Mem) : Option (Int32 × Mem) :=
  bd (fX3_get L (o + 3) v1 μ) (fun b2 μ1 => some (b2, μ1))
-- X5_projectLeasts
def fX5_projectLeasts_35 (L : Nat → Nat) (r0 : Nat) (self2 : Int32 → Int32 → Int32 → Mem → Option Mem) (v1 v2 v3 : Int32) (μ : Mem) : Option Mem :=
  lt' (v3 + 1) (fun a1 => self2 v1 v2 a1 μ)
def fX5_projectLeasts_2_b (L : Nat → Nat) (r0 : Nat) (self2 : Int32 → Int32 → Int32 → Mem → Option Mem) (v1 v2 v3 : Int32) (μ : Mem) : Option Mem :=
  bd (fX0_valuesOn L r0 v1 v2 μ) (fun b3 μ2 => (if b3 ≤ v3 then some μ2 else bd (fX0_leastPairOf L r0 v1 v2 v3 μ2) (fun b5 μ4 => (if b5 ≤ 0 then fX5_projectLeasts_35 L r0 self2 v1 v2 v3 μ4 else bv (fX0_moveToValue L r0 v1 v2 v3 b5 μ4) (fun μ6 => fX5_projectLeasts_35 L r0 self2 v1 v2 v3 μ6)))))
def fX5_projectLeasts_2 (L : Nat → Nat) (r0 : Nat) : Nat → Int32 → Int32 → Int32 → Mem → Option Mem
  | 0, _, _, _, _ => none
  | k + 1, v1, v2, v3, μ => fX5_projectLeasts_2_b L r0 (fX5_projectLeasts_2 L r0 k) v1 v2 v3 μ
def fX5_projectLeasts (L : Nat → Nat) (r0 : Nat) (v1 v2 : Int32) (μ : Mem) : Option Mem :=
  fX5_projectLeasts_2 L r0 FU v1 v2 (0 : Int32) μ
-- X5_doArcs
def fX5_doArcs_2_b (L : Nat → Nat) (r0 : Nat) (self2 : Int32 → Mem → Option Mem) (v1 : Int32) (μ : Mem) : Option Mem :=
  bd (fX0_tables L r0 μ) (fun b2 μ1 => (if b2 ≤ v1 then some μ1 else bv (fX0_topPairsOfTopSingles L r0 v1 μ1) (fun μ3 => bv (fX5_projectLeasts L r0 v1 (0 : Int32) μ3) (fun μ4 => bv (fX5_projectLeasts L r0 v1 (1 : Int32) μ4) (fun μ5 => lt' (v1 + 1) (fun a6 => self2 a6 μ5))))))
def fX5_doArcs_2 (L : Nat → Nat) (r0 : Nat) : Nat → Int32 → Mem → Option Mem
  | 0, _, _ => none
  | k + 1, v1, μ => fX5_doArcs_2_b L r0 (fX5_doArcs_2 L r0 k) v1 μ
def fX5_doArcs (L : Nat → Nat) (r0 : Nat) (μ : Mem) : Option Mem :=
  fX5_doArcs_2 L r0 FU (0 : Int32) μ
-- X5_reachOf
def fX5_reachOf_16_b (L : Nat → Nat) (r0 : Nat) (self16 : Int32 → Int32 → Int32 → Int32 → Int32 → Mem → Option (Int32 × Mem)) (v1 v2 v3 v4 v5 : Int32) (μ : Mem) : Option (Int32 × Mem) :=
  bd (fX0_valuesOf L r0 v3 μ) (fun b2 μ1 => (if b2 ≤ v5 then some (v4, μ1) else bd (fX0_pairCost L r0 v1 v2 v5 μ1) (fun b4 μ3 => bd (fX0_singleCost L r0 v3 v5 μ3) (fun b6 μ5 => bd (fX0_sum L r0 b4 b6 μ5) (fun b8 μ7 => lt' (if b8 < v4 then b8 else v4) (fun a9 => lt' (v5 + 1) (fun a10 => self16 v1 v2 v3 a9 a10 μ7)))))))
def fX5_reachOf_16 (L : Nat → Nat) (r0 : Nat) : Nat → Int32 → Int32 → Int32 → Int32 → Int32 → Mem → Option (Int32 × Mem)
  | 0, _, _, _, _, _, _ => none
  | k + 1, v1, v2, v3, v4, v5, μ => fX5_reachOf_16_b L r0 (fX5_reachOf_16 L r0 k) v1 v2 v3 v4 v5 μ
def fX5_reachOf (L : Nat → Nat) (r0 : Nat) (v1 v2 : Int32) (μ : Mem) : Option (Int32 × Mem) :=
  bd (fX0_nameOn L r0 v1 (1 : Int32) μ) (fun b12 μ11 => bd (fX0_top L r0 μ11) (fun b14 μ13 => fX5_reachOf_16 L r0 FU v1 v2 b12 b14 (0 : Int32) μ13))
-- X5_needOf
def fX5_needOf_6_b (L : Nat → Nat) (o : Nat) (r1 : Nat) (self6 : Int32 → Int32 → Int32 → Int32 → Mem → Option (Int32 × Mem)) (v2 v3 v4 v5 : Int32) (μ : Mem) : Option (Int32 × Mem) :=
  bd (fX0_valuesOn L r1 v2 (0 : Int32) μ) (fun b2 μ1 => (if b2 ≤ v5 then some (v4, μ1) else bd (fX3_get L (o + 3) v5 μ1) (fun b4 μ3 => bd (fX0_pairCost L r1 v2 v5 v3 μ3) (fun b6 μ5 => lt' (if v4 < (b4 - b6) then (b4 - b6) else v4) (fun a7 => lt' (v5 + 1) (fun a8 => self6 v2 v3 a7 a8 μ5))))))
def fX5_needOf_6 (L : Nat → Nat) (o : Nat) (r1 : Nat) : Nat → Int32 → Int32 → Int32 → Int32 → Mem → Option (Int32 × Mem)
  | 0, _, _, _, _, _ => none
  | k + 1, v2, v3, v4, v5, μ => fX5_needOf_6_b L o r1 (fX5_needOf_6 L o r1 k) v2 v3 v4 v5 μ
def fX5_needOf (L : Nat → Nat) (o : Nat) (r1 : Nat) (v2 v3 : Int32) (μ : Mem) : Option (Int32 × Mem) :=
  fX5_needOf_6 L o r1 FU v2 v3 (0 : Int32) (0 : Int32) μ
-- X5_direct
def fX5_direct_167 (L : Nat → Nat) (o : Nat) (r1 : Nat) (self132 : Int32 → Int32 → Int32 → Mem → Option Mem) (v2 v3 v5 : Int32) (μ : Mem) : Option Mem :=
  lt' (v5 + 1) (fun a1 => self132 v2 v3 a1 μ)
def fX5_direct_132_b (L : Nat → Nat) (o : Nat) (r1 : Nat) (self132 : Int32 → Int32 → Int32 → Mem → Option Mem) (v2 v3 v5 : Int32) (μ : Mem) : Option Mem :=
  (if v3 ≤ v5 then some μ else bd (fX3_get L (o + 3) v5 μ) (fun b3 μ2 => (if b3 ≤ 0 then fX5_direct_167 L o r1 self132 v2 v3 v5 μ2 else bd (fX3_get L (o + 3) v5 μ2) (fun b5 μ4 => bv (fX0_moveToValue L r1 v2 (0 : Int32) v5 b5 μ4) (fun μ6 => fX5_direct_167 L o r1 self132 v2 v3 v5 μ6)))))
def fX5_direct_132 (L : Nat → Nat) (o : Nat) (r1 : Nat) : Nat → Int32 → Int32 → Int32 → Mem → Option Mem
  | 0, _, _, _, _ => none
  | k + 1, v2, v3, v5, μ => fX5_direct_132_b L o r1 (fX5_direct_132 L o r1 k) v2 v3 v5 μ
def fX5_direct_123 (L : Nat → Nat) (o : Nat) (r1 : Nat) (self87 : Int32 → Int32 → Int32 → Int32 → Mem → Option Mem) (v2 v3 v4 v5 : Int32) (μ : Mem) : Option Mem :=
  lt' (v5 + 1) (fun a7 => self87 v2 v3 v4 a7 μ)
def fX5_direct_87_b (L : Nat → Nat) (o : Nat) (r1 : Nat) (self87 : Int32 → Int32 → Int32 → Int32 → Mem → Option Mem) (v2 v3 v4 v5 : Int32) (μ : Mem) : Option Mem :=
  (if v4 ≤ v5 then fX5_direct_132 L o r1 FU v2 v3 (0 : Int32) μ else bd (fX3_get L (o + 5) v5 μ) (fun b9 μ8 => (if b9 ≤ 0 then fX5_direct_123 L o r1 self87 v2 v3 v4 v5 μ8 else bd (fX3_get L (o + 5) v5 μ8) (fun b11 μ10 => bv (fX0_moveToTable L r1 v2 (1 : Int32) v5 b11 μ10) (fun μ12 => fX5_direct_123 L o r1 self87 v2 v3 v4 v5 μ12)))))
def fX5_direct_87 (L : Nat → Nat) (o : Nat) (r1 : Nat) : Nat → Int32 → Int32 → Int32 → Int32 → Mem → Option Mem
  | 0, _, _, _, _, _ => none
  | k + 1, v2, v3, v4, v5, μ => fX5_direct_87_b L o r1 (fX5_direct_87 L o r1 k) v2 v3 v4 v5 μ
def fX5_direct_54_b (L : Nat → Nat) (o : Nat) (r1 : Nat) (self54 : Int32 → Int32 → Int32 → Int32 → Mem → Option Mem) (v2 v3 v4 v5 : Int32) (μ : Mem) : Option Mem :=
  (if v4 ≤ v5 then fX5_direct_87 L o r1 FU v2 v3 v4 (0 : Int32) μ else bd (fX5_needOf L o r1 v2 v5 μ) (fun b14 μ13 => bv (fX3_set L (o + 5) v5 b14 μ13) (fun μ15 => lt' (v5 + 1) (fun a16 => self54 v2 v3 v4 a16 μ15))))
def fX5_direct_54 (L : Nat → Nat) (o : Nat) (r1 : Nat) : Nat → Int32 → Int32 → Int32 → Int32 → Mem → Option Mem
  | 0, _, _, _, _, _ => none
  | k + 1, v2, v3, v4, v5, μ => fX5_direct_54_b L o r1 (fX5_direct_54 L o r1 k) v2 v3 v4 v5 μ
def fX5_direct_23_b (L : Nat → Nat) (o : Nat) (r1 : Nat) (self23 : Int32 → Int32 → Int32 → Int32 → Mem → Option Mem) (v2 v3 v4 v5 : Int32) (μ : Mem) : Option Mem :=
  (if v3 ≤ v5 then fX5_direct_54 L o r1 FU v2 v3 v4 (0 : Int32) μ else bd (fX5_reachOf L r1 v2 v5 μ) (fun b18 μ17 => bv (fX3_set L (o + 3) v5 b18 μ17) (fun μ19 => lt' (v5 + 1) (fun a20 => self23 v2 v3 v4 a20 μ19))))
def fX5_direct_23 (L : Nat → Nat) (o : Nat) (r1 : Nat) : Nat → Int32 → Int32 → Int32 → Int32 → Mem → Option Mem
  | 0, _, _, _, _, _ => none
  | k + 1, v2, v3, v4, v5, μ => fX5_direct_23_b L o r1 (fX5_direct_23 L o r1 k) v2 v3 v4 v5 μ
def fX5_direct (L : Nat → Nat) (o : Nat) (r1 : Nat) (v2 : Int32) (μ : Mem) : Option Mem :=
  bd (fX0_valuesOn L r1 v2 (0 : Int32) μ) (fun b22 μ21 => bd (fX0_valuesOn L r1 v2 (1 : Int32) μ21) (fun b24 μ23 => bv (fX0_topPairsOfTopSingles L r1 v2 μ23) (fun μ25 => fX5_direct_23 L o r1 FU v2 b22 b24 (0 : Int32) μ25)))
-- X5_doDirected
def fX5_doDirected_37 (L : Nat → Nat) (o : Nat) (r1 : Nat) (self13 : Int32 → Int32 → Mem → Option Mem) (v2 v3 : Int32) (μ : Mem) : Option Mem :=
  lt' (v3 + 1) (fun a1 => self13 v2 a1 μ)
def fX5_doDirected_13_b (L : Nat → Nat) (o : Nat) (r1 : Nat) (self7 : Int32 → Mem → Option Mem) (self13 : Int32 → Int32 → Mem → Option Mem) (v2 v3 : Int32) (μ : Mem) : Option Mem :=
  bd (fX0_tables L r1 μ) (fun b3 μ2 => (if b3 ≤ v3 then lt' (v2 + (-1)) (fun a4 => self7 a4 μ2) else bd (fX0_nameOn L r1 v3 (1 : Int32) μ2) (fun b6 μ5 => (if b6 = v2 then bv (fX5_direct L o r1 v3 μ5) (fun μ7 => fX5_doDirected_37 L o r1 self13 v2 v3 μ7) else fX5_doDirected_37 L o r1 self13 v2 v3 μ5))))
def fX5_doDirected_13 (L : Nat → Nat) (o : Nat) (r1 : Nat) (self7 : Int32 → Mem → Option Mem) : Nat → Int32 → Int32 → Mem → Option Mem
  | 0, _, _, _ => none
  | k + 1, v2, v3, μ => fX5_doDirected_13_b L o r1 self7 (fX5_doDirected_13 L o r1 self7 k) v2 v3 μ
def fX5_doDirected_7_b (L : Nat → Nat) (o : Nat) (r1 : Nat) (self7 : Int32 → Mem → Option Mem) (v2 : Int32) (μ : Mem) : Option Mem :=
  (if v2 < 0 then some μ else fX5_doDirected_13 L o r1 self7 FU v2 (0 : Int32) μ)
def fX5_doDirected_7 (L : Nat → Nat) (o : Nat) (r1 : Nat) : Nat → Int32 → Mem → Option Mem
  | 0, _, _ => none
  | k + 1, v2, μ => fX5_doDirected_7_b L o r1 (fX5_doDirected_7 L o r1 k) v2 μ
def fX5_doDirected (L : Nat → Nat) (o : Nat) (r1 : Nat) (μ : Mem) : Option Mem :=
  bd (fX0_names L r1 μ) (fun b9 μ8 => lt' (b9 - (1 : Int32)) (fun a10 => fX5_doDirected_7 L o r1 FU a10 μ8))
-- X5_doNodes
def fX5_doNodes_26 (L : Nat → Nat) (r0 : Nat) (self2 : Int32 → Mem → Option Mem) (v1 : Int32) (μ : Mem) : Option Mem :=
  bv (fX0_topShutSingles L r0 v1 μ) (fun μ1 => lt' (v1 + 1) (fun a2 => self2 a2 μ1))
def fX5_doNodes_2_b (L : Nat → Nat) (r0 : Nat) (self2 : Int32 → Mem → Option Mem) (v1 : Int32) (μ : Mem) : Option Mem :=
  bd (fX0_names L r0 μ) (fun b4 μ3 => (if b4 ≤ v1 then some μ3 else bd (fX0_leastSingle L r0 v1 μ3) (fun b6 μ5 => (if b6 ≤ 0 then fX5_doNodes_26 L r0 self2 v1 μ5 else bv (fX0_moveToConstant L r0 v1 b6 μ5) (fun μ7 => fX5_doNodes_26 L r0 self2 v1 μ7)))))
def fX5_doNodes_2 (L : Nat → Nat) (r0 : Nat) : Nat → Int32 → Mem → Option Mem
  | 0, _, _ => none
  | k + 1, v1, μ => fX5_doNodes_2_b L r0 (fX5_doNodes_2 L r0 k) v1 μ
def fX5_doNodes (L : Nat → Nat) (r0 : Nat) (μ : Mem) : Option Mem :=
  fX5_doNodes_2 L r0 FU (0 : Int32) μ
-- X5_doOne
def fX5_doOne_22 (L : Nat → Nat) (o : Nat) (r1 : Nat) (μ : Mem) : Option Mem :=
  bv (fX5_doNodes L r1 μ) (fun μ1 => some μ1)
def fX5_doOne (L : Nat → Nat) (o : Nat) (r1 : Nat) (v2 : Int32) (μ : Mem) : Option Mem :=
  (if v2 = (1 : Int32) then bv (fX5_doArcs L r1 μ) (fun μ3 => fX5_doOne_22 L o r1 μ3) else (if v2 = (2 : Int32) then bv (fX5_doDirected L o r1 μ) (fun μ2 => fX5_doOne_22 L o r1 μ2) else fX5_doOne_22 L o r1 μ))
-- X5_doTillSettled
def fX5_doTillSettled_2_b (L : Nat → Nat) (o : Nat) (r1 : Nat) (self2 : Int32 → Int32 → Mem → Option (Int32 × Mem)) (v2 v3 : Int32) (μ : Mem) : Option (Int32 × Mem) :=
  (if (20 : Int32) ≤ v3 then some ((20 : Int32), μ) else bv (fX0_copyTo L r1 (o + 1) μ) (fun μ1 => bv (fX5_doOne L o r1 v2 μ1) (fun μ2 => bd (fX0_areAs L r1 (o + 1) μ2) (fun b4 μ3 => (if b4 = 0 then lt' (v3 + 1) (fun a5 => self2 v2 a5 μ3) else some (v3, μ3))))))
def fX5_doTillSettled_2 (L : Nat → Nat) (o : Nat) (r1 : Nat) : Nat → Int32 → Int32 → Mem → Option (Int32 × Mem)
  | 0, _, _, _ => none
  | k + 1, v2, v3, μ => fX5_doTillSettled_2_b L o r1 (fX5_doTillSettled_2 L o r1 k) v2 v3 μ
def fX5_doTillSettled (L : Nat → Nat) (o : Nat) (r1 : Nat) (v2 : Int32) (μ : Mem) : Option (Int32 × Mem) :=
  fX5_doTillSettled_2 L o r1 FU v2 (0 : Int32) μ
-- X6_clear
def fX6_clear (L : Nat → Nat) (o : Nat) (μ : Mem) : Option Mem :=
  pu μ o 1 (0 : Int32) (fun μ1 => some μ1)
-- X6_add
def fX6_add (L : Nat → Nat) (o : Nat) (v1 : Int32) (μ : Mem) : Option (Int32 × Mem) :=
  (if (μ o 1) < (200 : Int32) then bv (fX3_set L (o + 1) (μ o 1) v1 μ) (fun μ1 => pu μ1 o 1 ((μ1 o 1) + (1 : Int32)) (fun μ2 => some ((1 : Int32), μ2))) else some ((0 : Int32), μ))
-- X7_leastBeside
def fX7_leastBeside_9_b (L : Nat → Nat) (o : Nat) (r1 : Nat) (self9 : Int32 → Int32 → Int32 → Int32 → Mem → Option (Int32 × Mem)) (v2 v3 v4 v5 : Int32) (μ : Mem) : Option (Int32 × Mem) :=
  bd (fX0_valuesOf L r1 v3 μ) (fun b2 μ1 => (if b2 ≤ v5 then some (v4, μ1) else bd (fX0_costBeside L r1 (o + 1) (v2 + (1 : Int32)) v3 v5 (-1 : Int32) μ1) (fun b4 μ3 => lt' (if b4 < v4 then b4 else v4) (fun a5 => lt' (v5 + 1) (fun a6 => self9 v2 v3 a5 a6 μ3)))))
def fX7_leastBeside_9 (L : Nat → Nat) (o : Nat) (r1 : Nat) : Nat → Int32 → Int32 → Int32 → Int32 → Mem → Option (Int32 × Mem)
  | 0, _, _, _, _, _ => none
  | k + 1, v2, v3, v4, v5, μ => fX7_leastBeside_9_b L o r1 (fX7_leastBeside_9 L o r1 k) v2 v3 v4 v5 μ
def fX7_leastBeside (L : Nat → Nat) (o : Nat) (r1 : Nat) (v2 v3 : Int32) (μ : Mem) : Option (Int32 × Mem) :=
  bd (fX0_top L r1 μ) (fun b8 μ7 => fX7_leastBeside_9 L o r1 FU v2 v3 b8 (0 : Int32) μ7)
-- X7_lowOf
def fX7_lowOf_8_b (L : Nat → Nat) (o : Nat) (r1 : Nat) (self8 : Int32 → Int32 → Int32 → Mem → Option (Int32 × Mem)) (v2 v4 v5 : Int32) (μ : Mem) : Option (Int32 × Mem) :=
  bd (fX0_names L r1 μ) (fun b2 μ1 => (if b2 ≤ v5 then some (v4, μ1) else bd (fX7_leastBeside L o r1 v2 v5 μ1) (fun b4 μ3 => bd (fX0_sum L r1 v4 b4 μ3) (fun b6 μ5 => lt' (v5 + 1) (fun a7 => self8 v2 b6 a7 μ5)))))
def fX7_lowOf_8 (L : Nat → Nat) (o : Nat) (r1 : Nat) : Nat → Int32 → Int32 → Int32 → Mem → Option (Int32 × Mem)
  | 0, _, _, _, _ => none
  | k + 1, v2, v4, v5, μ => fX7_lowOf_8_b L o r1 (fX7_lowOf_8 L o r1 k) v2 v4 v5 μ
def fX7_lowOf (L : Nat → Nat) (o : Nat) (r1 : Nat) (v2 v3 : Int32) (μ : Mem) : Option (Int32 × Mem) :=
  lt' (v2 + (1 : Int32)) (fun a8 => fX7_lowOf_8 L o r1 FU v2 v3 a8 μ)
-- X7_tryValue
def fX7_tryValue_0 (L : Nat → Nat) (go : Int32 → Int32 → Mem → Option Mem) (o : Nat) (r1 : Nat) (v2 v3 v4 : Int32) (μ : Mem) : Option Mem :=
  bv (fX3_set L (o + 1) v2 v3 μ) (fun μ1 => pu μ1 o 2 ((μ1 o 2) + (1 : Int32)) (fun μ2 => bd (fX0_costBeside L r1 (o + 1) v2 v2 v3 (-1 : Int32) μ2) (fun b4 μ3 => bd (fX0_sum L r1 v4 b4 μ3) (fun b6 μ5 => bd (fX7_lowOf L o r1 v2 b6 μ5) (fun b8 μ7 => (if b8 < (μ7 o 1) then bd (fX0_names L r1 μ7) (fun b10 μ9 => (if (v2 + (1 : Int32)) = b10 then pu μ9 o 1 b8 (fun μ12 => some μ12) else bv (go (v2 + (1 : Int32)) b6 μ9) (fun μ11 => some μ11))) else some μ7))))))
abbrev fX7_tryValue (L : Nat → Nat) (go : Int32 → Int32 → Mem → Option Mem) (o : Nat) (r1 : Nat) (v2 v3 v4 : Int32) (μ : Mem) : Option Mem := fX7_tryValue_0 L go o r1 v2 v3 v4 μ
-- X7_goOn
def fX7_goOn_18_b (L : Nat → Nat) (go : Int32 → Int32 → Mem → Option Mem) (o : Nat) (r1 : Nat) (self18 : Int32 → Int32 → Int32 → Mem → Option Mem) (v2 v3 v4 : Int32) (μ : Mem) : Option Mem :=
  bd (fX0_valuesOf L r1 v2 μ) (fun b2 μ1 => (if b2 ≤ v4 then some μ1 else bv (fX7_tryValue L go o r1 v2 v4 v3 μ1) (fun μ3 => lt' (v4 + 1) (fun a4 => self18 v2 v3 a4 μ3))))
def fX7_goOn_18 (L : Nat → Nat) (go : Int32 → Int32 → Mem → Option Mem) (o : Nat) (r1 : Nat) : Nat → Int32 → Int32 → Int32 → Mem → Option Mem
  | 0, _, _, _, _ => none
  | k + 1, v2, v3, v4, μ => fX7_goOn_18_b L go o r1 (fX7_goOn_18 L go o r1 k) v2 v3 v4 μ
def fX7_goOn_0 (L : Nat → Nat) (go : Int32 → Int32 → Mem → Option Mem) (o : Nat) (r1 : Nat) (v2 v3 : Int32) (μ : Mem) : Option Mem :=
  bd (fX0_names L r1 μ) (fun b6 μ5 => (if b6 ≤ v2 then some μ5 else (if v2 < (6 : Int32) then fX7_goOn_18 L go o r1 FU v2 v3 (0 : Int32) μ5 else some μ5)))
def fX7_goOn : Nat → (Nat → Nat) → Nat → Nat → Int32 → Int32 → Mem → Option Mem
  | 0, _, _, _, _, _, _ => none
  | d + 1, L, o, r1, v2, v3, μ => fX7_goOn_0 L (fX7_goOn d L o r1) o r1 v2 v3 μ
-- X7_countTries
def fX7_countTries (L : Nat → Nat) (o : Nat) (r1 : Nat) (μ : Mem) : Option (Int32 × Mem) :=
  bd (fX0_top L r1 μ) (fun b2 μ1 => pu μ1 o 1 b2 (fun μ3 => pu μ3 o 2 (0 : Int32) (fun μ4 => bd (fX0_constant L r1 μ4) (fun b6 μ5 => bv (fX7_goOn 8 L o r1 (0 : Int32) b6 μ5) (fun μ7 => some ((μ7 o 2), μ7))))))
-- X8_write
def fX8_write (L : Nat → Nat) (o : Nat) (v1 : Int32) (μ : Mem) : Option (Int32 × Mem) :=
  (if v1 < (32 : Int32) then some ((-1 : Int32), μ) else (if v1 ≤ (126 : Int32) then bd (fX6_add L (o + 1) v1 μ) (fun b2 μ1 => (if b2 = 0 then some ((-3 : Int32), μ1) else bd (fX6_length L (o + 1) μ1) (fun b4 μ3 => some (b4, μ3)))) else some ((-1 : Int32), μ)))
-- X8_wipe
def fX8_wipe (L : Nat → Nat) (o : Nat) (μ : Mem) : Option (Int32 × Mem) :=
  bd (fX6_length L (o + 1) μ) (fun b2 μ1 => bv (fX6_clear L (o + 1) μ1) (fun μ3 => some (b2, μ3)))
-- X8_fault
def fX8_fault (L : Nat → Nat) (o : Nat) (μ : Mem) : Option (Int32 × Mem) :=
  bd (fX2_readAll L (o + 4) (o + 1) (o + 16) μ) (fun b2 μ1 => some (b2, μ1))
-- X8_lay
def fX8_lay (L : Nat → Nat) (o : Nat) (μ : Mem) : Option (Int32 × Mem) :=
  bd (fX2_readAll L (o + 4) (o + 1) (o + 16) μ) (fun b2 μ1 => (if b2 = (-4 : Int32) then bd (fX0_names L (o + 16) μ1) (fun b4 μ3 => (if b4 = 0 then some ((-2 : Int32), μ3) else bv (fX0_takeAll L (o + 7) (o + 16) μ3) (fun μ5 => bv (fX3_clear L (o + 25) μ5) (fun μ6 => bv (fX1_clear L (o + 34) μ6) (fun μ7 => bd (fX0_names L (o + 7) μ7) (fun b9 μ8 => some (b9, μ8))))))) else some ((-2 : Int32), μ1)))
-- X8_name
def fX8_name (L : Nat → Nat) (o : Nat) (v1 v2 : Int32) (μ : Mem) : Option (Int32 × Mem) :=
  bd (fX0_hasName L (o + 7) v1 μ) (fun b2 μ1 => (if b2 = 0 then some ((-1 : Int32), μ1) else (if v2 = (0 : Int32) then bd (fX0_valuesOf L (o + 7) v1 μ1) (fun b4 μ3 => some (b4, μ3)) else (if v2 = (1 : Int32) then bd (fX0_tablesOf L (o + 7) v1 μ1) (fun b6 μ5 => some (b6, μ5)) else (if v2 = (2 : Int32) then bd (fX0_shutOf L (o + 7) v1 μ1) (fun b8 μ7 => some (b8, μ7)) else (if v2 = (3 : Int32) then bd (fX0_leastSingle L (o + 7) v1 μ1) (fun b10 μ9 => some (b10, μ9)) else some ((-1 : Int32), μ1)))))))
-- X8_single
def fX8_single (L : Nat → Nat) (o : Nat) (v1 v2 : Int32) (μ : Mem) : Option (Int32 × Mem) :=
  bd (fX0_hasValue L (o + 7) v1 v2 μ) (fun b2 μ1 => (if b2 = 0 then some ((-1 : Int32), μ1) else bd (fX0_singleCost L (o + 7) v1 v2 μ1) (fun b4 μ3 => some (b4, μ3))))
-- X8_table
def fX8_table (L : Nat → Nat) (o : Nat) (v1 v2 : Int32) (μ : Mem) : Option (Int32 × Mem) :=
  bd (fX0_hasTable L (o + 7) v1 μ) (fun b2 μ1 => (if b2 = 0 then some ((-1 : Int32), μ1) else (if v2 = (0 : Int32) then bd (fX0_nameOn L (o + 7) v1 (0 : Int32) μ1) (fun b4 μ3 => some (b4, μ3)) else (if v2 = (1 : Int32) then bd (fX0_nameOn L (o + 7) v1 (1 : Int32) μ1) (fun b6 μ5 => some (b6, μ5)) else (if v2 = (2 : Int32) then bd (fX0_leastOfTable L (o + 7) v1 μ1) (fun b8 μ7 => some (b8, μ7)) else (if v2 = (3 : Int32) then bd (fX0_greatestOfTable L (o + 7) v1 μ1) (fun b10 μ9 => some (b10, μ9)) else some ((-1 : Int32), μ1)))))))
-- X8_pair
def fX8_pair (L : Nat → Nat) (o : Nat) (v1 v2 v3 : Int32) (μ : Mem) : Option (Int32 × Mem) :=
  bd (fX0_hasPair L (o + 7) v1 v2 v3 μ) (fun b2 μ1 => (if b2 = 0 then some ((-1 : Int32), μ1) else bd (fX0_pairCost L (o + 7) v1 v2 v3 μ1) (fun b4 μ3 => some (b4, μ3))))
-- X8_isStep
def fX8_isStep (L : Nat → Nat) (v0 : Int32) (μ : Mem) : Option (Int32 × Mem) :=
  (if v0 < (1 : Int32) then some ((0 : Int32), μ) else (if (99 : Int32) < v0 then some ((0 : Int32), μ) else some ((1 : Int32), μ)))
-- X8_grow
def fX8_grow (L : Nat → Nat) (o : Nat) (v1 v2 v3 : Int32) (μ : Mem) : Option (Int32 × Mem) :=
  bd (fX0_hasValue L (o + 7) v1 v2 μ) (fun b2 μ1 => (if b2 = 0 then some ((-1 : Int32), μ1) else bd (fX8_isStep L v3 μ1) (fun b4 μ3 => (if b4 = 0 then some ((-1 : Int32), μ3) else bv (fX1_keep L (o + 34) (o + 7) μ3) (fun μ5 => bv (fX0_growSingle L (o + 7) v1 v2 v3 μ5) (fun μ6 => bd (fX0_singleCost L (o + 7) v1 v2 μ6) (fun b8 μ7 => some (b8, μ7))))))))
-- X8_choose
def fX8_choose (L : Nat → Nat) (o : Nat) (v1 v2 : Int32) (μ : Mem) : Option (Int32 × Mem) :=
  bd (fX0_hasValue L (o + 7) v1 v2 μ) (fun b2 μ1 => (if b2 = 0 then some ((-1 : Int32), μ1) else bd (fX3_get L (o + 25) v1 μ1) (fun b4 μ3 => (if b4 = v2 then some ((-2 : Int32), μ3) else bv (fX3_set L (o + 25) v1 v2 μ3) (fun μ5 => some (b4, μ5))))))
-- X8_total
def fX8_total (L : Nat → Nat) (o : Nat) (μ : Mem) : Option (Int32 × Mem) :=
  bd (fX0_totalOf L (o + 7) (o + 25) μ) (fun b2 μ1 => some (b2, μ1))
-- X8_project
def fX8_project (L : Nat → Nat) (o : Nat) (v1 v2 v3 v4 : Int32) (μ : Mem) : Option (Int32 × Mem) :=
  bd (fX0_hasValueOn L (o + 7) v1 v2 v3 μ) (fun b2 μ1 => (if b2 = 0 then some ((-1 : Int32), μ1) else bd (fX8_isStep L v4 μ1) (fun b4 μ3 => (if b4 = 0 then some ((-1 : Int32), μ3) else bd (fX0_leastPairOf L (o + 7) v1 v2 v3 μ3) (fun b6 μ5 => (if v4 ≤ b6 then bv (fX1_keep L (o + 34) (o + 7) μ5) (fun μ7 => bv (fX0_moveToValue L (o + 7) v1 v2 v3 v4 μ7) (fun μ8 => bd (fX0_nameOn L (o + 7) v1 v2 μ8) (fun b10 μ9 => bd (fX0_singleCost L (o + 7) b10 v3 μ9) (fun b12 μ11 => some (b12, μ11))))) else some ((-2 : Int32), μ5)))))))
-- X8_extend
def fX8_extend (L : Nat → Nat) (o : Nat) (v1 v2 v3 v4 : Int32) (μ : Mem) : Option (Int32 × Mem) :=
  bd (fX0_hasValueOn L (o + 7) v1 v2 v3 μ) (fun b2 μ1 => (if b2 = 0 then some ((-1 : Int32), μ1) else bd (fX8_isStep L v4 μ1) (fun b4 μ3 => (if b4 = 0 then some ((-1 : Int32), μ3) else bd (fX0_nameOn L (o + 7) v1 v2 μ3) (fun b6 μ5 => bd (fX0_singleCost L (o + 7) b6 v3 μ5) (fun b8 μ7 => (if v4 ≤ b8 then bv (fX1_keep L (o + 34) (o + 7) μ7) (fun μ9 => bv (fX0_moveToTable L (o + 7) v1 v2 v3 v4 μ9) (fun μ10 => bd (fX0_singleCost L (o + 7) b6 v3 μ10) (fun b12 μ11 => some (b12, μ11)))) else some ((-2 : Int32), μ7))))))))
-- X8_raise
def fX8_raise (L : Nat → Nat) (o : Nat) (v1 v2 : Int32) (μ : Mem) : Option (Int32 × Mem) :=
  bd (fX0_hasName L (o + 7) v1 μ) (fun b2 μ1 => (if b2 = 0 then some ((-1 : Int32), μ1) else bd (fX8_isStep L v2 μ1) (fun b4 μ3 => (if b4 = 0 then some ((-1 : Int32), μ3) else bd (fX0_leastSingle L (o + 7) v1 μ3) (fun b6 μ5 => (if v2 ≤ b6 then bv (fX1_keep L (o + 34) (o + 7) μ5) (fun μ7 => bv (fX0_moveToConstant L (o + 7) v1 v2 μ7) (fun μ8 => bd (fX0_constant L (o + 7) μ8) (fun b10 μ9 => some (b10, μ9)))) else some ((-2 : Int32), μ5)))))))
-- X8_isSweep
def fX8_isSweep (L : Nat → Nat) (v0 : Int32) (μ : Mem) : Option (Int32 × Mem) :=
  (if v0 < 0 then some ((0 : Int32), μ) else (if (2 : Int32) < v0 then some ((0 : Int32), μ) else some ((1 : Int32), μ)))
-- X8_sweep
def fX8_sweep_33_b (L : Nat → Nat) (o : Nat) (self33 : Int32 → Int32 → Int32 → Mem → Option (Int32 × Mem)) (v1 v2 v3 : Int32) (μ : Mem) : Option (Int32 × Mem) :=
  (if v2 ≤ v3 then bd (fX0_constant L (o + 7) μ) (fun b2 μ1 => some (b2, μ1)) else bv (fX5_doOne L (o + 27) (o + 7) v1 μ) (fun μ3 => lt' (v3 + 1) (fun a4 => self33 v1 v2 a4 μ3)))
def fX8_sweep_33 (L : Nat → Nat) (o : Nat) : Nat → Int32 → Int32 → Int32 → Mem → Option (Int32 × Mem)
  | 0, _, _, _, _ => none
  | k + 1, v1, v2, v3, μ => fX8_sweep_33_b L o (fX8_sweep_33 L o k) v1 v2 v3 μ
def fX8_sweep (L : Nat → Nat) (o : Nat) (v1 v2 : Int32) (μ : Mem) : Option (Int32 × Mem) :=
  bd (fX8_isSweep L v1 μ) (fun b6 μ5 => (if b6 = 0 then some ((-1 : Int32), μ5) else (if v2 < (1 : Int32) then some ((-1 : Int32), μ5) else (if v2 ≤ (9 : Int32) then bv (fX1_keep L (o + 34) (o + 7) μ5) (fun μ7 => fX8_sweep_33 L o FU v1 v2 (0 : Int32) μ7) else some ((-1 : Int32), μ5)))))
-- X8_settle
def fX8_settle (L : Nat → Nat) (o : Nat) (v1 : Int32) (μ : Mem) : Option (Int32 × Mem) :=
  bd (fX8_isSweep L v1 μ) (fun b2 μ1 => (if b2 = 0 then some ((-1 : Int32), μ1) else bv (fX1_keep L (o + 34) (o + 7) μ1) (fun μ3 => bd (fX5_doTillSettled L (o + 27) (o + 7) v1 μ3) (fun b5 μ4 => some (b5, μ4)))))
-- X8_bound
def fX8_bound (L : Nat → Nat) (o : Nat) (v1 : Int32) (μ : Mem) : Option (Int32 × Mem) :=
  bd (fX8_isSweep L v1 μ) (fun b2 μ1 => (if b2 = 0 then some ((-1 : Int32), μ1) else bv (fX0_takeAll L (o + 16) (o + 7) μ1) (fun μ3 => bd (fX5_doTillSettled L (o + 27) (o + 16) v1 μ3) (fun b5 μ4 => bd (fX0_constant L (o + 16) μ4) (fun b7 μ6 => some (b7, μ6))))))
-- X8_undo
def fX8_undo (L : Nat → Nat) (o : Nat) (μ : Mem) : Option (Int32 × Mem) :=
  bd (fX1_giveBack L (o + 34) (o + 7) μ) (fun b2 μ1 => (if b2 = 0 then some ((-2 : Int32), μ1) else bd (fX1_size L (o + 34) μ1) (fun b4 μ3 => some (b4, μ3))))
-- X8_best
def fX8_best_24 (L : Nat → Nat) (o : Nat) (v1 : Int32) (μ : Mem) : Option (Int32 × Mem) :=
  bv (fX4_goThrough L (o + 48) (o + 7) (-1 : Int32) (0 : Int32) (-1 : Int32) μ) (fun μ1 => bd (fX4_hasFound L (o + 48) μ1) (fun b3 μ2 => (if b3 = 0 then some ((-4 : Int32), μ2) else (if v1 = (-2 : Int32) then bd (fX4_waysOfLeast L (o + 48) μ2) (fun b5 μ4 => some (b5, μ4)) else (if v1 = (-1 : Int32) then bd (fX4_leastTotal L (o + 48) μ2) (fun b7 μ6 => some (b7, μ6)) else bd (fX4_firstValueOf L (o + 48) v1 μ2) (fun b9 μ8 => some (b9, μ8)))))))
def fX8_best (L : Nat → Nat) (o : Nat) (v1 : Int32) (μ : Mem) : Option (Int32 × Mem) :=
  (if v1 = (-1 : Int32) then fX8_best_24 L o v1 μ else (if v1 = (-2 : Int32) then fX8_best_24 L o v1 μ else bd (fX0_hasName L (o + 7) v1 μ) (fun b11 μ10 => (if b11 = 0 then some ((-1 : Int32), μ10) else fX8_best_24 L o v1 μ10))))
-- X8_next
def fX8_next_11 (L : Nat → Nat) (o : Nat) (v1 : Int32) (μ : Mem) : Option (Int32 × Mem) :=
  bv (fX4_goThrough L (o + 48) (o + 7) (-1 : Int32) (0 : Int32) (-1 : Int32) μ) (fun μ1 => (if v1 = (1 : Int32) then bd (fX4_choicesBelowTop L (o + 48) μ1) (fun b7 μ6 => some (b7, μ6)) else bd (fX4_hasSecond L (o + 48) μ1) (fun b3 μ2 => (if b3 = 0 then some ((-4 : Int32), μ2) else bd (fX4_secondTotal L (o + 48) μ2) (fun b5 μ4 => some (b5, μ4))))))
def fX8_next (L : Nat → Nat) (o : Nat) (v1 : Int32) (μ : Mem) : Option (Int32 × Mem) :=
  (if v1 = 0 then fX8_next_11 L o v1 μ else (if v1 = (1 : Int32) then fX8_next_11 L o v1 μ else some ((-1 : Int32), μ)))
-- X8_backbone
def fX8_backbone (L : Nat → Nat) (o : Nat) (μ : Mem) : Option (Int32 × Mem) :=
  bv (fX4_goThrough L (o + 48) (o + 7) (-1 : Int32) (0 : Int32) (-1 : Int32) μ) (fun μ1 => bd (fX4_hasFound L (o + 48) μ1) (fun b3 μ2 => (if b3 = 0 then some ((-4 : Int32), μ2) else bd (fX4_commonValues L (o + 48) μ2) (fun b5 μ4 => some (b5, μ4)))))
-- X8_with
def fX8_with (L : Nat → Nat) (o : Nat) (v1 v2 : Int32) (μ : Mem) : Option (Int32 × Mem) :=
  bd (fX0_hasValue L (o + 7) v1 v2 μ) (fun b2 μ1 => (if b2 = 0 then some ((-1 : Int32), μ1) else bv (fX4_goThrough L (o + 48) (o + 7) v1 v2 (-1 : Int32) μ1) (fun μ3 => bd (fX4_hasFound L (o + 48) μ3) (fun b5 μ4 => (if b5 = 0 then some ((-4 : Int32), μ4) else bd (fX4_leastTotal L (o + 48) μ4) (fun b7 μ6 => some (b7, μ6)))))))
-- X8_without
def fX8_without (L : Nat → Nat) (o : Nat) (v1 : Int32) (μ : Mem) : Option (Int32 × Mem) :=
  bd (fX0_hasTable L (o + 7) v1 μ) (fun b2 μ1 => (if b2 = 0 then some ((-1 : Int32), μ1) else bv (fX4_goThrough L (o + 48) (o + 7) (-1 : Int32) (0 : Int32) v1 μ1) (fun μ3 => bd (fX4_hasFound L (o + 48) μ3) (fun b5 μ4 => (if b5 = 0 then some ((-4 : Int32), μ4) else bd (fX4_leastTotal L (o + 48) μ4) (fun b7 μ6 => some (b7, μ6)))))))
-- X8_tries
def fX8_tries (L : Nat → Nat) (o : Nat) (μ : Mem) : Option (Int32 × Mem) :=
  bd (fX7_countTries L (o + 53) (o + 7) μ) (fun b2 μ1 => some (b2, μ1))
-- X8_count
def fX8_count (L : Nat → Nat) (o : Nat) (v1 : Int32) (μ : Mem) : Option (Int32 × Mem) :=
  (if v1 = (0 : Int32) then bd (fX0_names L (o + 7) μ) (fun b2 μ1 => some (b2, μ1)) else (if v1 = (1 : Int32) then bd (fX0_tables L (o + 7) μ) (fun b4 μ3 => some (b4, μ3)) else (if v1 = (2 : Int32) then bd (fX0_top L (o + 7) μ) (fun b6 μ5 => some (b6, μ5)) else (if v1 = (3 : Int32) then bd (fX0_constant L (o + 7) μ) (fun b8 μ7 => some (b8, μ7)) else (if v1 = (4 : Int32) then bd (fX0_shutInAll L (o + 7) μ) (fun b10 μ9 => some (b10, μ9)) else (if v1 = (5 : Int32) then bd (fX1_size L (o + 34) μ) (fun b12 μ11 => some (b12, μ11)) else (if v1 = (6 : Int32) then bd (fX6_length L (o + 1) μ) (fun b14 μ13 => some (b14, μ13)) else some ((-1 : Int32), μ))))))))
-- X9_begins
def fX9_begins_67 (L : Nat → Nat) (o : Nat) (self17 : Int32 → Int32 → Int32 → Int32 → Int32 → Mem → Option Mem) (v1 v2 v3 v4 v5 s0 s1 : Int32) (μ : Mem) : Option Mem :=
  ast L μ (o + 6) s1 s0 (fun μ1 => lt' (v5 + 1) (fun a2 => self17 v1 v2 v3 v4 a2 μ1))
def fX9_begins_66 (L : Nat → Nat) (o : Nat) (self17 : Int32 → Int32 → Int32 → Int32 → Int32 → Mem → Option Mem) (v1 v2 v3 v4 v5 s0 : Int32) (μ : Mem) : Option Mem :=
  fX9_begins_67 L o self17 v1 v2 v3 v4 v5 (0 : Int32) s0 μ
def fX9_begins_17_b (L : Nat → Nat) (o : Nat) (self17 : Int32 → Int32 → Int32 → Int32 → Int32 → Mem → Option Mem) (v1 v2 v3 v4 v5 : Int32) (μ : Mem) : Option Mem :=
  (if (4 : Int32) ≤ v5 then some μ else ald L μ (o + 2) v2 (fun a3 => (if a3 ≤ v5 then fX9_begins_66 L o self17 v1 v2 v3 v4 v5 (((24 : Int32) + ((16 : Int32) * v1)) + ((5 : Int32) * v5)) μ else ald L μ (o + 2) v3 (fun a4 => (if a4 ≤ v5 then fX9_begins_66 L o self17 v1 v2 v3 v4 v5 (((24 : Int32) + ((16 : Int32) * v1)) + ((5 : Int32) * v5)) μ else fX9_begins_67 L o self17 v1 v2 v3 v4 v5 v4 (((24 : Int32) + ((16 : Int32) * v1)) + ((5 : Int32) * v5)) μ)))))
def fX9_begins_17 (L : Nat → Nat) (o : Nat) : Nat → Int32 → Int32 → Int32 → Int32 → Int32 → Mem → Option Mem
  | 0, _, _, _, _, _, _ => none
  | k + 1, v1, v2, v3, v4, v5, μ => fX9_begins_17_b L o (fX9_begins_17 L o k) v1 v2 v3 v4 v5 μ
def fX9_begins (L : Nat → Nat) (o : Nat) (v1 v2 v3 v4 : Int32) (μ : Mem) : Option Mem :=
  ast L μ (o + 3) v1 v2 (fun μ5 => ast L μ5 (o + 4) v1 v3 (fun μ6 => fX9_begins_17 L o FU v1 v2 v3 v4 (0 : Int32) μ6))
-- X9_isIn
def fX9_isIn (L : Nat → Nat) (v0 v1 v2 : Int32) (μ : Mem) : Option (Int32 × Mem) :=
  (if v0 < v1 then some ((0 : Int32), μ) else (if v2 < v0 then some ((0 : Int32), μ) else some ((1 : Int32), μ)))
-- X9_letterAt
def fX9_letterAt (L : Nat → Nat) (o : Nat) (v1 : Int32) (μ : Mem) : Option (Int32 × Mem) :=
  (if (μ o 0) ≤ v1 then some ((0 : Int32), μ) else ald L μ (o + 1) v1 (fun a1 => some (a1, μ)))
-- X9_number
def fX9_number_65 (L : Nat → Nat) (o : Nat) (v1 v2 v3 v4 : Int32) (μ : Mem) : Option (Int32 × Mem) :=
  pu μ o 21 v4 (fun μ1 => (if v4 ≤ v1 then some ((0 : Int32), μ1) else bd (fX9_isIn L (μ1 o 20) v2 v3 μ1) (fun b3 μ2 => (if b3 = 0 then some ((0 : Int32), μ2) else some ((1 : Int32), μ2)))))
def fX9_number_8_b (L : Nat → Nat) (o : Nat) (self8 : Int32 → Int32 → Int32 → Int32 → Mem → Option (Int32 × Mem)) (v1 v2 v3 v4 : Int32) (μ : Mem) : Option (Int32 × Mem) :=
  bd (fX9_letterAt L o v4 μ) (fun b5 μ4 => (if b5 < (48 : Int32) then fX9_number_65 L o v1 v2 v3 v4 μ4 else bd (fX9_letterAt L o v4 μ4) (fun b7 μ6 => (if (57 : Int32) < b7 then fX9_number_65 L o v1 v2 v3 v4 μ6 else (if (v1 + (2 : Int32)) ≤ v4 then fX9_number_65 L o v1 v2 v3 v4 μ6 else bd (fX9_letterAt L o v4 μ6) (fun b9 μ8 => pu μ8 o 20 ((((10 : Int32) * (μ6 o 20)) + b9) - (48 : Int32)) (fun μ10 => lt' (v4 + 1) (fun a11 => self8 v1 v2 v3 a11 μ10))))))))
def fX9_number_8 (L : Nat → Nat) (o : Nat) : Nat → Int32 → Int32 → Int32 → Int32 → Mem → Option (Int32 × Mem)
  | 0, _, _, _, _, _ => none
  | k + 1, v1, v2, v3, v4, μ => fX9_number_8_b L o (fX9_number_8 L o k) v1 v2 v3 v4 μ
def fX9_number (L : Nat → Nat) (o : Nat) (v1 v2 v3 : Int32) (μ : Mem) : Option (Int32 × Mem) :=
  pu μ o 20 (0 : Int32) (fun μ12 => fX9_number_8 L o FU v1 v2 v3 v1 μ12)
-- X9_more
def fX9_more (L : Nat → Nat) (o : Nat) (v1 v2 : Int32) (μ : Mem) : Option (Int32 × Mem) :=
  bd (fX9_letterAt L o (μ o 21) μ) (fun b2 μ1 => (if b2 = (44 : Int32) then bd (fX9_number L o ((μ1 o 21) + (1 : Int32)) v1 v2 μ1) (fun b4 μ3 => (if b4 = 0 then some ((0 : Int32), μ3) else some ((1 : Int32), μ3))) else some ((0 : Int32), μ1)))
-- X9_readsName
def fX9_readsName (L : Nat → Nat) (o : Nat) (v1 : Int32) (μ : Mem) : Option (Int32 × Mem) :=
  (if (μ o 13) = (6 : Int32) then some ((0 : Int32), μ) else bd (fX9_number L o v1 (2 : Int32) (4 : Int32) μ) (fun b2 μ1 => (if b2 = 0 then some ((0 : Int32), μ1) else ast L μ1 (o + 9) (μ1 o 13) (μ1 o 20) (fun μ3 => pu μ3 o 13 ((μ3 o 13) + (1 : Int32)) (fun μ4 => some ((1 : Int32), μ4))))))
-- X9_readsSingle
def fX9_readsSingle (L : Nat → Nat) (o : Nat) (v1 : Int32) (μ : Mem) : Option (Int32 × Mem) :=
  bd (fX9_number L o v1 (0 : Int32) ((μ o 13) - (1 : Int32)) μ) (fun b2 μ1 => (if b2 = 0 then some ((0 : Int32), μ1) else lt' (μ1 o 20) (fun a3 => ald L μ1 (o + 9) a3 (fun a4 => bd (fX9_more L o (0 : Int32) (a4 - (1 : Int32)) μ1) (fun b6 μ5 => (if b6 = 0 then some ((0 : Int32), μ5) else lt' (((4 : Int32) * a3) + (μ5 o 20)) (fun a7 => bd (fX9_more L o (0 : Int32) (99 : Int32) μ5) (fun b9 μ8 => ast L μ8 (o + 12) a7 (μ8 o 20) (fun μ10 => zr b9 μ10)))))))))
-- X9_readsTable
def fX9_readsTable_147 (L : Nat → Nat) (o : Nat) (self108 : Int32 → Int32 → Int32 → Int32 → Mem → Option (Int32 × Mem)) (v2 v3 v4 v5 s0 s1 : Int32) (μ : Mem) : Option (Int32 × Mem) :=
  ast L μ (o + 12) s1 s0 (fun μ1 => lt' (v5 + 1) (fun a2 => self108 v2 v3 v4 a2 μ1))
def fX9_readsTable_108_b (L : Nat → Nat) (o : Nat) (self108 : Int32 → Int32 → Int32 → Int32 → Mem → Option (Int32 × Mem)) (v2 v3 v4 v5 : Int32) (μ : Mem) : Option (Int32 × Mem) :=
  (if (16 : Int32) ≤ v5 then ast L μ (o + 10) (μ o 15) v2 (fun μ3 => ast L μ3 (o + 11) (μ3 o 15) v3 (fun μ4 => pu μ4 o 15 ((μ4 o 15) + (1 : Int32)) (fun μ5 => zr v4 μ5))) else nz (5 : Int32) ((if (v5 - v5 / (5 : Int32) * (5 : Int32)) = 0 then fX9_readsTable_147 L o self108 v2 v3 v4 v5 (μ o 20) (((24 : Int32) + ((16 : Int32) * (μ o 15))) + v5) μ else fX9_readsTable_147 L o self108 v2 v3 v4 v5 (0 : Int32) (((24 : Int32) + ((16 : Int32) * (μ o 15))) + v5) μ)))
def fX9_readsTable_108 (L : Nat → Nat) (o : Nat) : Nat → Int32 → Int32 → Int32 → Int32 → Mem → Option (Int32 × Mem)
  | 0, _, _, _, _, _ => none
  | k + 1, v2, v3, v4, v5, μ => fX9_readsTable_108_b L o (fX9_readsTable_108 L o k) v2 v3 v4 v5 μ
def fX9_readsTable_90 (L : Nat → Nat) (o : Nat) (self57 : Int32 → Int32 → Int32 → Mem → Option (Int32 × Mem)) (v2 v3 v4 : Int32) (μ : Mem) : Option (Int32 × Mem) :=
  lt' (v4 + 1) (fun a6 => self57 v2 v3 a6 μ)
def fX9_readsTable_57_b (L : Nat → Nat) (o : Nat) (self57 : Int32 → Int32 → Int32 → Mem → Option (Int32 × Mem)) (v2 v3 v4 : Int32) (μ : Mem) : Option (Int32 × Mem) :=
  (if (μ o 15) ≤ v4 then bd (fX9_more L o (0 : Int32) (99 : Int32) μ) (fun b8 μ7 => fX9_readsTable_108 L o FU v2 v3 b8 (0 : Int32) μ7) else ald L μ (o + 10) v4 (fun a9 => (if a9 = v2 then ald L μ (o + 11) v4 (fun a10 => (if a10 = v3 then some ((0 : Int32), μ) else fX9_readsTable_90 L o self57 v2 v3 v4 μ)) else fX9_readsTable_90 L o self57 v2 v3 v4 μ)))
def fX9_readsTable_57 (L : Nat → Nat) (o : Nat) : Nat → Int32 → Int32 → Int32 → Mem → Option (Int32 × Mem)
  | 0, _, _, _, _ => none
  | k + 1, v2, v3, v4, μ => fX9_readsTable_57_b L o (fX9_readsTable_57 L o k) v2 v3 v4 μ
def fX9_readsTable (L : Nat → Nat) (o : Nat) (v1 : Int32) (μ : Mem) : Option (Int32 × Mem) :=
  (if (μ o 15) = (9 : Int32) then some ((0 : Int32), μ) else bd (fX9_number L o v1 (0 : Int32) ((μ o 13) - (1 : Int32)) μ) (fun b12 μ11 => (if b12 = 0 then some ((0 : Int32), μ11) else lt' (μ11 o 20) (fun a13 => bd (fX9_more L o (a13 + (1 : Int32)) ((μ11 o 13) - (1 : Int32)) μ11) (fun b15 μ14 => (if b15 = 0 then some ((0 : Int32), μ14) else lt' (μ14 o 20) (fun a16 => fX9_readsTable_57 L o FU a13 a16 (0 : Int32) μ14)))))))
-- X9_readsPair
def fX9_readsPair (L : Nat → Nat) (o : Nat) (v1 : Int32) (μ : Mem) : Option (Int32 × Mem) :=
  bd (fX9_number L o v1 (0 : Int32) ((μ o 15) - (1 : Int32)) μ) (fun b2 μ1 => (if b2 = 0 then some ((0 : Int32), μ1) else lt' (μ1 o 20) (fun a3 => ald L μ1 (o + 10) a3 (fun a4 => ald L μ1 (o + 9) a4 (fun a5 => bd (fX9_more L o (0 : Int32) (a5 - (1 : Int32)) μ1) (fun b7 μ6 => (if b7 = 0 then some ((0 : Int32), μ6) else lt' (μ6 o 20) (fun a8 => ald L μ6 (o + 11) a3 (fun a9 => ald L μ6 (o + 9) a9 (fun a10 => bd (fX9_more L o (0 : Int32) (a10 - (1 : Int32)) μ6) (fun b12 μ11 => (if b12 = 0 then some ((0 : Int32), μ11) else lt' ((((24 : Int32) + ((16 : Int32) * a3)) + ((4 : Int32) * a8)) + (μ11 o 20)) (fun a13 => bd (fX9_more L o (0 : Int32) (99 : Int32) μ11) (fun b15 μ14 => ast L μ14 (o + 12) a13 (μ14 o 20) (fun μ16 => zr b15 μ16)))))))))))))))
-- X9_readsItem
def fX9_readsItem (L : Nat → Nat) (o : Nat) (v1 v2 : Int32) (μ : Mem) : Option (Int32 × Mem) :=
  (if v1 = (98 : Int32) then bd (fX9_readsTable L o v2 μ) (fun b2 μ1 => zr b2 μ1) else (if v1 = (99 : Int32) then bd (fX9_readsPair L o v2 μ) (fun b4 μ3 => zr b4 μ3) else (if v1 = (116 : Int32) then bd (fX9_number L o v2 (1 : Int32) (99 : Int32) μ) (fun b6 μ5 => pu μ5 o 18 (μ5 o 20) (fun μ7 => zr b6 μ7)) else (if v1 = (117 : Int32) then bd (fX9_readsSingle L o v2 μ) (fun b9 μ8 => zr b9 μ8) else (if v1 = (118 : Int32) then bd (fX9_readsName L o v2 μ) (fun b11 μ10 => zr b11 μ10) else some ((0 : Int32), μ))))))
-- X9_reads
def fX9_reads_40_b (L : Nat → Nat) (o : Nat) (self40 : Int32 → Mem → Option (Int32 × Mem)) (v1 : Int32) (μ : Mem) : Option (Int32 × Mem) :=
  (if (μ o 0) ≤ v1 then some ((-4 : Int32), μ) else ald L μ (o + 1) v1 (fun a1 => bd (fX9_readsItem L o a1 (v1 + (1 : Int32)) μ) (fun b3 μ2 => (if b3 = 0 then some (v1, μ2) else bd (fX9_letterAt L o (μ2 o 21) μ2) (fun b5 μ4 => (if b5 = (59 : Int32) then lt' ((μ4 o 21) + (1 : Int32)) (fun a6 => self40 a6 μ4) else some (v1, μ4)))))))
def fX9_reads_40 (L : Nat → Nat) (o : Nat) : Nat → Int32 → Mem → Option (Int32 × Mem)
  | 0, _, _ => none
  | k + 1, v1, μ => fX9_reads_40_b L o (fX9_reads_40 L o k) v1 μ
def fX9_reads_18_b (L : Nat → Nat) (o : Nat) (self18 : Int32 → Mem → Option (Int32 × Mem)) (v1 : Int32) (μ : Mem) : Option (Int32 × Mem) :=
  (if (169 : Int32) ≤ v1 then fX9_reads_40 L o FU (0 : Int32) μ else ast L μ (o + 12) v1 (0 : Int32) (fun μ7 => lt' (v1 + 1) (fun a8 => self18 a8 μ7)))
def fX9_reads_18 (L : Nat → Nat) (o : Nat) : Nat → Int32 → Mem → Option (Int32 × Mem)
  | 0, _, _ => none
  | k + 1, v1, μ => fX9_reads_18_b L o (fX9_reads_18 L o k) v1 μ
def fX9_reads (L : Nat → Nat) (o : Nat) (μ : Mem) : Option (Int32 × Mem) :=
  pu μ o 13 (0 : Int32) (fun μ9 => pu μ9 o 15 (0 : Int32) (fun μ10 => pu μ10 o 18 (20 : Int32) (fun μ11 => fX9_reads_18 L o FU (0 : Int32) μ11)))
-- X9_write
def fX9_write (L : Nat → Nat) (o : Nat) (v1 : Int32) (μ : Mem) : Option (Int32 × Mem) :=
  (if v1 < (32 : Int32) then some ((-1 : Int32), μ) else (if v1 ≤ (126 : Int32) then (if (μ o 0) = (200 : Int32) then some ((-3 : Int32), μ) else ast L μ (o + 1) (μ o 0) v1 (fun μ1 => pu μ1 o 0 ((μ1 o 0) + (1 : Int32)) (fun μ2 => some ((μ2 o 0), μ2)))) else some ((-1 : Int32), μ)))
-- X9_wipe
def fX9_wipe (L : Nat → Nat) (o : Nat) (μ : Mem) : Option (Int32 × Mem) :=
  lt' (μ o 0) (fun a1 => pu μ o 0 (0 : Int32) (fun μ2 => some (a1, μ2)))
-- X9_fault
def fX9_fault (L : Nat → Nat) (o : Nat) (μ : Mem) : Option (Int32 × Mem) :=
  bd (fX9_reads L o μ) (fun b2 μ1 => some (b2, μ1))
-- X9_sum
def fX9_sum (L : Nat → Nat) (o : Nat) (v1 v2 : Int32) (μ : Mem) : Option (Int32 × Mem) :=
  (if (μ o 7) ≤ (v1 + v2) then some ((μ o 7), μ) else some ((v1 + v2), μ))
-- X9_lay
def fX9_lay_116_b (L : Nat → Nat) (o : Nat) (self116 : Int32 → Mem → Option (Int32 × Mem)) (v1 : Int32) (μ : Mem) : Option (Int32 × Mem) :=
  (if (169 : Int32) ≤ v1 then pu μ o 11 (0 : Int32) (fun μ1 => some ((μ1 o 2), μ1)) else ald L μ (o + 12) v1 (fun a2 => bd (fX9_sum L o a2 (0 : Int32) μ) (fun b4 μ3 => ast L μ3 (o + 6) v1 b4 (fun μ5 => lt' (v1 + 1) (fun a6 => self116 a6 μ5)))))
def fX9_lay_116 (L : Nat → Nat) (o : Nat) : Nat → Int32 → Mem → Option (Int32 × Mem)
  | 0, _, _ => none
  | k + 1, v1, μ => fX9_lay_116_b L o (fX9_lay_116 L o k) v1 μ
def fX9_lay_78_b (L : Nat → Nat) (o : Nat) (self78 : Int32 → Mem → Option (Int32 × Mem)) (v1 : Int32) (μ : Mem) : Option (Int32 × Mem) :=
  (if (9 : Int32) ≤ v1 then fX9_lay_116 L o FU (0 : Int32) μ else ald L μ (o + 10) v1 (fun a7 => ast L μ (o + 3) v1 a7 (fun μ8 => ald L μ8 (o + 11) v1 (fun a9 => ast L μ8 (o + 4) v1 a9 (fun μ10 => lt' (v1 + 1) (fun a11 => self78 a11 μ10))))))
def fX9_lay_78 (L : Nat → Nat) (o : Nat) : Nat → Int32 → Mem → Option (Int32 × Mem)
  | 0, _, _ => none
  | k + 1, v1, μ => fX9_lay_78_b L o (fX9_lay_78 L o k) v1 μ
def fX9_lay_45_b (L : Nat → Nat) (o : Nat) (self45 : Int32 → Mem → Option (Int32 × Mem)) (v1 : Int32) (μ : Mem) : Option (Int32 × Mem) :=
  (if (6 : Int32) ≤ v1 then fX9_lay_78 L o FU (0 : Int32) μ else ald L μ (o + 9) v1 (fun a12 => ast L μ (o + 2) v1 a12 (fun μ13 => ast L μ13 (o + 5) v1 (0 : Int32) (fun μ14 => lt' (v1 + 1) (fun a15 => self45 a15 μ14)))))
def fX9_lay_45 (L : Nat → Nat) (o : Nat) : Nat → Int32 → Mem → Option (Int32 × Mem)
  | 0, _, _ => none
  | k + 1, v1, μ => fX9_lay_45_b L o (fX9_lay_45 L o k) v1 μ
def fX9_lay (L : Nat → Nat) (o : Nat) (μ : Mem) : Option (Int32 × Mem) :=
  bd (fX9_reads L o μ) (fun b17 μ16 => (if b17 = (-4 : Int32) then (if (μ16 o 13) = 0 then some ((-2 : Int32), μ16) else pu μ16 o 2 (μ16 o 13) (fun μ18 => pu μ18 o 4 (μ18 o 15) (fun μ19 => pu μ19 o 7 (μ19 o 18) (fun μ20 => fX9_lay_45 L o FU (0 : Int32) μ20)))) else some ((-2 : Int32), μ16)))
-- X9_less
def fX9_less (L : Nat → Nat) (o : Nat) (v1 v2 : Int32) (μ : Mem) : Option (Int32 × Mem) :=
  (if v1 = (μ o 7) then some ((μ o 7), μ) else some ((v1 - v2), μ))
-- X9_isName
def fX9_isName (L : Nat → Nat) (o : Nat) (v1 : Int32) (μ : Mem) : Option (Int32 × Mem) :=
  bd (fX9_isIn L v1 (0 : Int32) ((μ o 2) - (1 : Int32)) μ) (fun b2 μ1 => zr b2 μ1)
-- X9_isValue
def fX9_isValue (L : Nat → Nat) (o : Nat) (v1 v2 : Int32) (μ : Mem) : Option (Int32 × Mem) :=
  bd (fX9_isName L o v1 μ) (fun b2 μ1 => (if b2 = 0 then some ((0 : Int32), μ1) else ald L μ1 (o + 2) v1 (fun a3 => bd (fX9_isIn L v2 (0 : Int32) (a3 - (1 : Int32)) μ1) (fun b5 μ4 => (if b5 = 0 then some ((0 : Int32), μ4) else some ((1 : Int32), μ4))))))
-- X9_isTable
def fX9_isTable (L : Nat → Nat) (o : Nat) (v1 : Int32) (μ : Mem) : Option (Int32 × Mem) :=
  bd (fX9_isIn L v1 (0 : Int32) ((μ o 4) - (1 : Int32)) μ) (fun b2 μ1 => zr b2 μ1)
-- X9_nameOf
def fX9_nameOf (L : Nat → Nat) (o : Nat) (v1 v2 : Int32) (μ : Mem) : Option (Int32 × Mem) :=
  (if v2 = 0 then ald L μ (o + 3) v1 (fun a2 => some (a2, μ)) else ald L μ (o + 4) v1 (fun a1 => some (a1, μ)))
-- X9_pairAt
def fX9_pairAt_24 (L : Nat → Nat) (s0 s1 : Int32) (μ : Mem) : Option (Int32 × Mem) :=
  some ((s1 + s0), μ)
def fX9_pairAt (L : Nat → Nat) (v0 v1 v2 v3 : Int32) (μ : Mem) : Option (Int32 × Mem) :=
  (if v1 = 0 then fX9_pairAt_24 L (((4 : Int32) * v2) + v3) ((24 : Int32) + ((16 : Int32) * v0)) μ else fX9_pairAt_24 L (((4 : Int32) * v3) + v2) ((24 : Int32) + ((16 : Int32) * v0)) μ)
-- X9_leastSingle
def fX9_leastSingle_49 (L : Nat → Nat) (o : Nat) (self11 : Int32 → Int32 → Int32 → Mem → Option (Int32 × Mem)) (v1 v3 s0 : Int32) (μ : Mem) : Option (Int32 × Mem) :=
  lt' (v3 + 1) (fun a1 => self11 v1 s0 a1 μ)
def fX9_leastSingle_11_b (L : Nat → Nat) (o : Nat) (self11 : Int32 → Int32 → Int32 → Mem → Option (Int32 × Mem)) (v1 v2 v3 : Int32) (μ : Mem) : Option (Int32 × Mem) :=
  ald L μ (o + 2) v1 (fun a2 => (if a2 ≤ v3 then some (v2, μ) else ald L μ (o + 6) (((4 : Int32) * v1) + v3) (fun a3 => (if v2 ≤ a3 then fX9_leastSingle_49 L o self11 v1 v3 v2 μ else ald L μ (o + 6) (((4 : Int32) * v1) + v3) (fun a4 => fX9_leastSingle_49 L o self11 v1 v3 a4 μ)))))
def fX9_leastSingle_11 (L : Nat → Nat) (o : Nat) : Nat → Int32 → Int32 → Int32 → Mem → Option (Int32 × Mem)
  | 0, _, _, _, _ => none
  | k + 1, v1, v2, v3, μ => fX9_leastSingle_11_b L o (fX9_leastSingle_11 L o k) v1 v2 v3 μ
def fX9_leastSingle (L : Nat → Nat) (o : Nat) (v1 : Int32) (μ : Mem) : Option (Int32 × Mem) :=
  ald L μ (o + 6) ((4 : Int32) * v1) (fun a5 => fX9_leastSingle_11 L o FU v1 a5 (1 : Int32) μ)
-- X9_isShut
def fX9_isShut (L : Nat → Nat) (o : Nat) (v1 v2 : Int32) (μ : Mem) : Option (Int32 × Mem) :=
  ald L μ (o + 6) (168 : Int32) (fun a1 => ald L μ (o + 6) (((4 : Int32) * v1) + v2) (fun a2 => bd (fX9_sum L o a1 a2 μ) (fun b4 μ3 => (if b4 = (μ3 o 7) then some ((1 : Int32), μ3) else some ((0 : Int32), μ3)))))
-- X9_name
def fX9_name_141 (L : Nat → Nat) (o : Nat) (self111 : Int32 → Int32 → Int32 → Mem → Option (Int32 × Mem)) (v1 v4 s0 s1 : Int32) (μ : Mem) : Option (Int32 × Mem) :=
  lt' (s1 ||| s0) (fun a1 => lt' (v4 + 1) (fun a2 => self111 v1 a1 a2 μ))
def fX9_name_111_b (L : Nat → Nat) (o : Nat) (self111 : Int32 → Int32 → Int32 → Mem → Option (Int32 × Mem)) (v1 v3 v4 : Int32) (μ : Mem) : Option (Int32 × Mem) :=
  ald L μ (o + 2) v1 (fun a3 => (if a3 ≤ v4 then some (v3, μ) else bd (fX9_isShut L o v1 v4 μ) (fun b5 μ4 => (if b5 = 0 then fX9_name_141 L o self111 v1 v4 (0 : Int32) v3 μ4 else fX9_name_141 L o self111 v1 v4 ((1 : Int32) <<< (v4 &&& 31)) v3 μ4))))
def fX9_name_111 (L : Nat → Nat) (o : Nat) : Nat → Int32 → Int32 → Int32 → Mem → Option (Int32 × Mem)
  | 0, _, _, _, _ => none
  | k + 1, v1, v3, v4, μ => fX9_name_111_b L o (fX9_name_111 L o k) v1 v3 v4 μ
def fX9_name_97 (L : Nat → Nat) (o : Nat) (self57 : Int32 → Int32 → Int32 → Mem → Option (Int32 × Mem)) (v1 v4 s0 s1 : Int32) (μ : Mem) : Option (Int32 × Mem) :=
  lt' (s1 ||| s0) (fun a6 => lt' (v4 + 1) (fun a7 => self57 v1 a6 a7 μ))
def fX9_name_89 (L : Nat → Nat) (o : Nat) (self57 : Int32 → Int32 → Int32 → Mem → Option (Int32 × Mem)) (v1 v4 s0 : Int32) (μ : Mem) : Option (Int32 × Mem) :=
  fX9_name_97 L o self57 v1 v4 ((1 : Int32) <<< (v4 &&& 31)) s0 μ
def fX9_name_57_b (L : Nat → Nat) (o : Nat) (self57 : Int32 → Int32 → Int32 → Mem → Option (Int32 × Mem)) (v1 v3 v4 : Int32) (μ : Mem) : Option (Int32 × Mem) :=
  (if (μ o 4) ≤ v4 then some (v3, μ) else ald L μ (o + 3) v4 (fun a8 => (if a8 = v1 then fX9_name_89 L o self57 v1 v4 v3 μ else ald L μ (o + 4) v4 (fun a9 => (if a9 = v1 then fX9_name_89 L o self57 v1 v4 v3 μ else fX9_name_97 L o self57 v1 v4 (0 : Int32) v3 μ)))))
def fX9_name_57 (L : Nat → Nat) (o : Nat) : Nat → Int32 → Int32 → Int32 → Mem → Option (Int32 × Mem)
  | 0, _, _, _, _ => none
  | k + 1, v1, v3, v4, μ => fX9_name_57_b L o (fX9_name_57 L o k) v1 v3 v4 μ
def fX9_name_28 (L : Nat → Nat) (o : Nat) (v1 v2 : Int32) (μ : Mem) : Option (Int32 × Mem) :=
  (if v2 = 0 then ald L μ (o + 2) v1 (fun a12 => some (a12, μ)) else bd (fX9_leastSingle L o v1 μ) (fun b11 μ10 => some (b11, μ10)))
def fX9_name (L : Nat → Nat) (o : Nat) (v1 v2 : Int32) (μ : Mem) : Option (Int32 × Mem) :=
  bd (fX9_isName L o v1 μ) (fun b14 μ13 => (if b14 = 0 then some ((-1 : Int32), μ13) else bd (fX9_isIn L v2 (0 : Int32) (3 : Int32) μ13) (fun b16 μ15 => (if b16 = 0 then some ((-1 : Int32), μ15) else (if v2 = 0 then fX9_name_28 L o v1 v2 μ15 else (if v2 = (3 : Int32) then fX9_name_28 L o v1 v2 μ15 else (if v2 = (1 : Int32) then fX9_name_57 L o FU v1 (0 : Int32) (0 : Int32) μ15 else fX9_name_111 L o FU v1 (0 : Int32) (0 : Int32) μ15)))))))
-- X9_single
def fX9_single (L : Nat → Nat) (o : Nat) (v1 v2 : Int32) (μ : Mem) : Option (Int32 × Mem) :=
  bd (fX9_isValue L o v1 v2 μ) (fun b2 μ1 => (if b2 = 0 then some ((-1 : Int32), μ1) else ald L μ1 (o + 6) (((4 : Int32) * v1) + v2) (fun a3 => some (a3, μ1))))
-- X9_table
def fX9_table_120 (L : Nat → Nat) (o : Nat) (self61 : Int32 → Int32 → Int32 → Int32 → Int32 → Int32 → Mem → Option (Int32 × Mem)) (v1 v2 v3 v5 v6 s0 : Int32) (μ : Mem) : Option (Int32 × Mem) :=
  lt' (v6 + 1) (fun a1 => self61 v1 v2 v3 s0 v5 a1 μ)
def fX9_table_105 (L : Nat → Nat) (o : Nat) (self61 : Int32 → Int32 → Int32 → Int32 → Int32 → Int32 → Mem → Option (Int32 × Mem)) (v1 v2 v4 v5 v6 v7 s0 : Int32) (μ : Mem) : Option (Int32 × Mem) :=
  (if v7 ≤ v4 then fX9_table_120 L o self61 v1 v2 s0 v5 v6 v4 μ else fX9_table_120 L o self61 v1 v2 s0 v5 v6 v7 μ)
def fX9_table_61_b (L : Nat → Nat) (o : Nat) (self42 : Int32 → Int32 → Int32 → Int32 → Int32 → Mem → Option (Int32 × Mem)) (self61 : Int32 → Int32 → Int32 → Int32 → Int32 → Int32 → Mem → Option (Int32 × Mem)) (v1 v2 v3 v4 v5 v6 : Int32) (μ : Mem) : Option (Int32 × Mem) :=
  ald L μ (o + 4) v1 (fun a2 => ald L μ (o + 2) a2 (fun a3 => (if a3 ≤ v6 then lt' (v5 + 1) (fun a4 => self42 v1 v2 v3 v4 a4 μ) else bd (fX9_pairAt L v1 (0 : Int32) v5 v6 μ) (fun b6 μ5 => ald L μ5 (o + 6) b6 (fun a7 => (if v3 ≤ a7 then fX9_table_105 L o self61 v1 v2 v4 v5 v6 a7 v3 μ5 else fX9_table_105 L o self61 v1 v2 v4 v5 v6 a7 a7 μ5))))))
def fX9_table_61 (L : Nat → Nat) (o : Nat) (self42 : Int32 → Int32 → Int32 → Int32 → Int32 → Mem → Option (Int32 × Mem)) : Nat → Int32 → Int32 → Int32 → Int32 → Int32 → Int32 → Mem → Option (Int32 × Mem)
  | 0, _, _, _, _, _, _, _ => none
  | k + 1, v1, v2, v3, v4, v5, v6, μ => fX9_table_61_b L o self42 (fX9_table_61 L o self42 k) v1 v2 v3 v4 v5 v6 μ
def fX9_table_42_b (L : Nat → Nat) (o : Nat) (self42 : Int32 → Int32 → Int32 → Int32 → Int32 → Mem → Option (Int32 × Mem)) (v1 v2 v3 v4 v5 : Int32) (μ : Mem) : Option (Int32 × Mem) :=
  ald L μ (o + 3) v1 (fun a8 => ald L μ (o + 2) a8 (fun a9 => (if a9 ≤ v5 then (if v2 = (2 : Int32) then some (v3, μ) else some (v4, μ)) else fX9_table_61 L o self42 FU v1 v2 v3 v4 v5 (0 : Int32) μ)))
def fX9_table_42 (L : Nat → Nat) (o : Nat) : Nat → Int32 → Int32 → Int32 → Int32 → Int32 → Mem → Option (Int32 × Mem)
  | 0, _, _, _, _, _, _ => none
  | k + 1, v1, v2, v3, v4, v5, μ => fX9_table_42_b L o (fX9_table_42 L o k) v1 v2 v3 v4 v5 μ
def fX9_table (L : Nat → Nat) (o : Nat) (v1 v2 : Int32) (μ : Mem) : Option (Int32 × Mem) :=
  bd (fX9_isTable L o v1 μ) (fun b11 μ10 => (if b11 = 0 then some ((-1 : Int32), μ10) else bd (fX9_isIn L v2 (0 : Int32) (3 : Int32) μ10) (fun b13 μ12 => (if b13 = 0 then some ((-1 : Int32), μ12) else (if (2 : Int32) ≤ v2 then lt' (μ12 o 7) (fun a14 => fX9_table_42 L o FU v1 v2 a14 (0 : Int32) (0 : Int32) μ12) else bd (fX9_nameOf L o v1 v2 μ12) (fun b16 μ15 => some (b16, μ15)))))))
-- X9_pair
def fX9_pair (L : Nat → Nat) (o : Nat) (v1 v2 v3 : Int32) (μ : Mem) : Option (Int32 × Mem) :=
  bd (fX9_isTable L o v1 μ) (fun b2 μ1 => (if b2 = 0 then some ((-1 : Int32), μ1) else ald L μ1 (o + 3) v1 (fun a3 => bd (fX9_isValue L o a3 v2 μ1) (fun b5 μ4 => (if b5 = 0 then some ((-1 : Int32), μ4) else ald L μ4 (o + 4) v1 (fun a6 => bd (fX9_isValue L o a6 v3 μ4) (fun b8 μ7 => (if b8 = 0 then some ((-1 : Int32), μ7) else bd (fX9_pairAt L v1 (0 : Int32) v2 v3 μ7) (fun b10 μ9 => ald L μ9 (o + 6) b10 (fun a11 => some (a11, μ9)))))))))))
-- X9_keeps
def fX9_keeps_52_b (L : Nat → Nat) (o : Nat) (self52 : Int32 → Mem → Option Mem) (v1 : Int32) (μ : Mem) : Option Mem :=
  (if (169 : Int32) ≤ v1 then pu μ o 11 ((μ o 11) + (1 : Int32)) (fun μ1 => some μ1) else ald L μ (o + 6) v1 (fun a2 => ast L μ (o + 7) (((169 : Int32) * (μ o 11)) + v1) a2 (fun μ3 => lt' (v1 + 1) (fun a4 => self52 a4 μ3))))
def fX9_keeps_52 (L : Nat → Nat) (o : Nat) : Nat → Int32 → Mem → Option Mem
  | 0, _, _ => none
  | k + 1, v1, μ => fX9_keeps_52_b L o (fX9_keeps_52 L o k) v1 μ
def fX9_keeps_50 (L : Nat → Nat) (o : Nat) (μ : Mem) : Option Mem :=
  fX9_keeps_52 L o FU (0 : Int32) μ
def fX9_keeps_11_b (L : Nat → Nat) (o : Nat) (self11 : Int32 → Mem → Option Mem) (v1 : Int32) (μ : Mem) : Option Mem :=
  (if (845 : Int32) ≤ v1 then pu μ o 11 ((μ o 11) - (1 : Int32)) (fun μ5 => fX9_keeps_50 L o μ5) else ald L μ (o + 7) (v1 + (169 : Int32)) (fun a6 => ast L μ (o + 7) v1 a6 (fun μ7 => lt' (v1 + 1) (fun a8 => self11 a8 μ7))))
def fX9_keeps_11 (L : Nat → Nat) (o : Nat) : Nat → Int32 → Mem → Option Mem
  | 0, _, _ => none
  | k + 1, v1, μ => fX9_keeps_11_b L o (fX9_keeps_11 L o k) v1 μ
def fX9_keeps (L : Nat → Nat) (o : Nat) (μ : Mem) : Option Mem :=
  (if (μ o 11) = (6 : Int32) then fX9_keeps_11 L o FU (0 : Int32) μ else fX9_keeps_50 L o μ)
-- X9_undo
def fX9_undo_22_b (L : Nat → Nat) (o : Nat) (self22 : Int32 → Mem → Option (Int32 × Mem)) (v1 : Int32) (μ : Mem) : Option (Int32 × Mem) :=
  (if (169 : Int32) ≤ v1 then some ((μ o 11), μ) else ald L μ (o + 7) (((169 : Int32) * (μ o 11)) + v1) (fun a1 => ast L μ (o + 6) v1 a1 (fun μ2 => lt' (v1 + 1) (fun a3 => self22 a3 μ2))))
def fX9_undo_22 (L : Nat → Nat) (o : Nat) : Nat → Int32 → Mem → Option (Int32 × Mem)
  | 0, _, _ => none
  | k + 1, v1, μ => fX9_undo_22_b L o (fX9_undo_22 L o k) v1 μ
def fX9_undo (L : Nat → Nat) (o : Nat) (μ : Mem) : Option (Int32 × Mem) :=
  (if (μ o 11) = 0 then some ((-2 : Int32), μ) else pu μ o 11 ((μ o 11) - (1 : Int32)) (fun μ4 => fX9_undo_22 L o FU (0 : Int32) μ4))
-- X9_grow
def fX9_grow (L : Nat → Nat) (o : Nat) (v1 v2 v3 : Int32) (μ : Mem) : Option (Int32 × Mem) :=
  bd (fX9_isValue L o v1 v2 μ) (fun b2 μ1 => (if b2 = 0 then some ((-1 : Int32), μ1) else bd (fX9_isIn L v3 (1 : Int32) (99 : Int32) μ1) (fun b4 μ3 => (if b4 = 0 then some ((-1 : Int32), μ3) else bv (fX9_keeps L o μ3) (fun μ5 => ald L μ5 (o + 6) (((4 : Int32) * v1) + v2) (fun a6 => bd (fX9_sum L o a6 v3 μ5) (fun b8 μ7 => ast L μ7 (o + 6) (((4 : Int32) * v1) + v2) b8 (fun μ9 => ald L μ9 (o + 6) (((4 : Int32) * v1) + v2) (fun a10 => some (a10, μ9))))))))))
-- X9_choose
def fX9_choose (L : Nat → Nat) (o : Nat) (v1 v2 : Int32) (μ : Mem) : Option (Int32 × Mem) :=
  bd (fX9_isValue L o v1 v2 μ) (fun b2 μ1 => (if b2 = 0 then some ((-1 : Int32), μ1) else ald L μ1 (o + 5) v1 (fun a3 => (if a3 = v2 then some ((-2 : Int32), μ1) else ast L μ1 (o + 5) v1 v2 (fun μ4 => some (a3, μ4))))))
-- X9_leastPair
def fX9_leastPair_56 (L : Nat → Nat) (o : Nat) (self9 : Int32 → Int32 → Int32 → Int32 → Int32 → Mem → Option (Int32 × Mem)) (v1 v2 v3 v5 s0 : Int32) (μ : Mem) : Option (Int32 × Mem) :=
  lt' (v5 + 1) (fun a1 => self9 v1 v2 v3 s0 a1 μ)
def fX9_leastPair_9_b (L : Nat → Nat) (o : Nat) (self9 : Int32 → Int32 → Int32 → Int32 → Int32 → Mem → Option (Int32 × Mem)) (v1 v2 v3 v4 v5 : Int32) (μ : Mem) : Option (Int32 × Mem) :=
  bd (fX9_nameOf L o v1 ((1 : Int32) - v2) μ) (fun b3 μ2 => ald L μ2 (o + 2) b3 (fun a4 => (if a4 ≤ v5 then some (v4, μ2) else bd (fX9_pairAt L v1 v2 v3 v5 μ2) (fun b6 μ5 => ald L μ5 (o + 6) b6 (fun a7 => (if v4 ≤ a7 then fX9_leastPair_56 L o self9 v1 v2 v3 v5 v4 μ5 else fX9_leastPair_56 L o self9 v1 v2 v3 v5 a7 μ5))))))
def fX9_leastPair_9 (L : Nat → Nat) (o : Nat) : Nat → Int32 → Int32 → Int32 → Int32 → Int32 → Mem → Option (Int32 × Mem)
  | 0, _, _, _, _, _, _ => none
  | k + 1, v1, v2, v3, v4, v5, μ => fX9_leastPair_9_b L o (fX9_leastPair_9 L o k) v1 v2 v3 v4 v5 μ
def fX9_leastPair (L : Nat → Nat) (o : Nat) (v1 v2 v3 : Int32) (μ : Mem) : Option (Int32 × Mem) :=
  lt' (μ o 7) (fun a8 => fX9_leastPair_9 L o FU v1 v2 v3 a8 (0 : Int32) μ)
-- X9_projects
def fX9_projects_3_b (L : Nat → Nat) (o : Nat) (self3 : Int32 → Int32 → Int32 → Int32 → Int32 → Mem → Option Mem) (v1 v2 v3 v4 v5 : Int32) (μ : Mem) : Option Mem :=
  bd (fX9_nameOf L o v1 ((1 : Int32) - v2) μ) (fun b2 μ1 => ald L μ1 (o + 2) b2 (fun a3 => (if a3 ≤ v5 then bd (fX9_nameOf L o v1 v2 μ1) (fun b5 μ4 => lt' (((4 : Int32) * b5) + v3) (fun a6 => ald L μ4 (o + 6) a6 (fun a7 => bd (fX9_sum L o a7 v4 μ4) (fun b9 μ8 => ast L μ8 (o + 6) a6 b9 (fun μ10 => some μ10))))) else bd (fX9_pairAt L v1 v2 v3 v5 μ1) (fun b12 μ11 => ald L μ11 (o + 6) b12 (fun a13 => bd (fX9_less L o a13 v4 μ11) (fun b15 μ14 => ast L μ14 (o + 6) b12 b15 (fun μ16 => lt' (v5 + 1) (fun a17 => self3 v1 v2 v3 v4 a17 μ16))))))))
def fX9_projects_3 (L : Nat → Nat) (o : Nat) : Nat → Int32 → Int32 → Int32 → Int32 → Int32 → Mem → Option Mem
  | 0, _, _, _, _, _, _ => none
  | k + 1, v1, v2, v3, v4, v5, μ => fX9_projects_3_b L o (fX9_projects_3 L o k) v1 v2 v3 v4 v5 μ
def fX9_projects (L : Nat → Nat) (o : Nat) (v1 v2 v3 v4 : Int32) (μ : Mem) : Option Mem :=
  fX9_projects_3 L o FU v1 v2 v3 v4 (0 : Int32) μ
-- X9_extendsBy
def fX9_extendsBy_35_b (L : Nat → Nat) (o : Nat) (self35 : Int32 → Int32 → Int32 → Int32 → Int32 → Mem → Option Mem) (v1 v2 v3 v4 v6 : Int32) (μ : Mem) : Option Mem :=
  bd (fX9_nameOf L o v1 ((1 : Int32) - v2) μ) (fun b2 μ1 => ald L μ1 (o + 2) b2 (fun a3 => (if a3 ≤ v6 then some μ1 else bd (fX9_pairAt L v1 v2 v3 v6 μ1) (fun b5 μ4 => ald L μ4 (o + 6) b5 (fun a6 => bd (fX9_sum L o a6 v4 μ4) (fun b8 μ7 => ast L μ7 (o + 6) b5 b8 (fun μ9 => lt' (v6 + 1) (fun a10 => self35 v1 v2 v3 v4 a10 μ9))))))))
def fX9_extendsBy_35 (L : Nat → Nat) (o : Nat) : Nat → Int32 → Int32 → Int32 → Int32 → Int32 → Mem → Option Mem
  | 0, _, _, _, _, _, _ => none
  | k + 1, v1, v2, v3, v4, v6, μ => fX9_extendsBy_35_b L o (fX9_extendsBy_35 L o k) v1 v2 v3 v4 v6 μ
def fX9_extendsBy (L : Nat → Nat) (o : Nat) (v1 v2 v3 v4 : Int32) (μ : Mem) : Option Mem :=
  bd (fX9_nameOf L o v1 v2 μ) (fun b12 μ11 => lt' (((4 : Int32) * b12) + v3) (fun a13 => ald L μ11 (o + 6) a13 (fun a14 => bd (fX9_less L o a14 v4 μ11) (fun b16 μ15 => ast L μ15 (o + 6) a13 b16 (fun μ17 => fX9_extendsBy_35 L o FU v1 v2 v3 v4 (0 : Int32) μ17)))))
-- X9_raises
def fX9_raises_2_b (L : Nat → Nat) (o : Nat) (self2 : Int32 → Int32 → Int32 → Mem → Option Mem) (v1 v2 v3 : Int32) (μ : Mem) : Option Mem :=
  ald L μ (o + 2) v1 (fun a1 => (if a1 ≤ v3 then ald L μ (o + 6) (168 : Int32) (fun a2 => bd (fX9_sum L o a2 v2 μ) (fun b4 μ3 => ast L μ3 (o + 6) (168 : Int32) b4 (fun μ5 => some μ5))) else ald L μ (o + 6) (((4 : Int32) * v1) + v3) (fun a6 => bd (fX9_less L o a6 v2 μ) (fun b8 μ7 => ast L μ7 (o + 6) (((4 : Int32) * v1) + v3) b8 (fun μ9 => lt' (v3 + 1) (fun a10 => self2 v1 v2 a10 μ9))))))
def fX9_raises_2 (L : Nat → Nat) (o : Nat) : Nat → Int32 → Int32 → Int32 → Mem → Option Mem
  | 0, _, _, _, _ => none
  | k + 1, v1, v2, v3, μ => fX9_raises_2_b L o (fX9_raises_2 L o k) v1 v2 v3 μ
def fX9_raises (L : Nat → Nat) (o : Nat) (v1 v2 : Int32) (μ : Mem) : Option Mem :=
  fX9_raises_2 L o FU v1 v2 (0 : Int32) μ
-- X9_isMoved
def fX9_isMoved (L : Nat → Nat) (o : Nat) (v1 v2 v3 v4 : Int32) (μ : Mem) : Option (Int32 × Mem) :=
  bd (fX9_isTable L o v1 μ) (fun b2 μ1 => (if b2 = 0 then some ((0 : Int32), μ1) else bd (fX9_isIn L v2 (0 : Int32) (1 : Int32) μ1) (fun b4 μ3 => (if b4 = 0 then some ((0 : Int32), μ3) else bd (fX9_nameOf L o v1 v2 μ3) (fun b6 μ5 => bd (fX9_isValue L o b6 v3 μ5) (fun b8 μ7 => (if b8 = 0 then some ((0 : Int32), μ7) else bd (fX9_isIn L v4 (1 : Int32) (99 : Int32) μ7) (fun b10 μ9 => (if b10 = 0 then some ((0 : Int32), μ9) else some ((1 : Int32), μ9))))))))))
-- X9_project
def fX9_project (L : Nat → Nat) (o : Nat) (v1 v2 v3 v4 : Int32) (μ : Mem) : Option (Int32 × Mem) :=
  bd (fX9_isMoved L o v1 v2 v3 v4 μ) (fun b2 μ1 => (if b2 = 0 then some ((-1 : Int32), μ1) else bd (fX9_leastPair L o v1 v2 v3 μ1) (fun b4 μ3 => (if v4 ≤ b4 then bv (fX9_keeps L o μ3) (fun μ5 => bv (fX9_projects L o v1 v2 v3 v4 μ5) (fun μ6 => bd (fX9_nameOf L o v1 v2 μ6) (fun b8 μ7 => ald L μ7 (o + 6) (((4 : Int32) * b8) + v3) (fun a9 => some (a9, μ7))))) else some ((-2 : Int32), μ3)))))
-- X9_extend
def fX9_extend (L : Nat → Nat) (o : Nat) (v1 v2 v3 v4 : Int32) (μ : Mem) : Option (Int32 × Mem) :=
  bd (fX9_isMoved L o v1 v2 v3 v4 μ) (fun b2 μ1 => (if b2 = 0 then some ((-1 : Int32), μ1) else bd (fX9_nameOf L o v1 v2 μ1) (fun b4 μ3 => ald L μ3 (o + 6) (((4 : Int32) * b4) + v3) (fun a5 => (if v4 ≤ a5 then bv (fX9_keeps L o μ3) (fun μ6 => bv (fX9_extendsBy L o v1 v2 v3 v4 μ6) (fun μ7 => bd (fX9_nameOf L o v1 v2 μ7) (fun b9 μ8 => ald L μ8 (o + 6) (((4 : Int32) * b9) + v3) (fun a10 => some (a10, μ8))))) else some ((-2 : Int32), μ3))))))
-- X9_raise
def fX9_raise (L : Nat → Nat) (o : Nat) (v1 v2 : Int32) (μ : Mem) : Option (Int32 × Mem) :=
  bd (fX9_isName L o v1 μ) (fun b2 μ1 => (if b2 = 0 then some ((-1 : Int32), μ1) else bd (fX9_isIn L v2 (1 : Int32) (99 : Int32) μ1) (fun b4 μ3 => (if b4 = 0 then some ((-1 : Int32), μ3) else bd (fX9_leastSingle L o v1 μ3) (fun b6 μ5 => (if v2 ≤ b6 then bv (fX9_keeps L o μ5) (fun μ7 => bv (fX9_raises L o v1 v2 μ7) (fun μ8 => ald L μ8 (o + 6) (168 : Int32) (fun a9 => some (a9, μ8)))) else some ((-2 : Int32), μ5)))))))
-- X9_nodes
def fX9_nodes_73 (L : Nat → Nat) (o : Nat) (self28 : Int32 → Int32 → Mem → Option Mem) (v1 v3 s0 s1 : Int32) (μ : Mem) : Option Mem :=
  ast L μ (o + 6) s1 s0 (fun μ1 => lt' (v3 + 1) (fun a2 => self28 v1 a2 μ1))
def fX9_nodes_28_b (L : Nat → Nat) (o : Nat) (self2 : Int32 → Mem → Option Mem) (self28 : Int32 → Int32 → Mem → Option Mem) (v1 v3 : Int32) (μ : Mem) : Option Mem :=
  ald L μ (o + 2) v1 (fun a3 => (if a3 ≤ v3 then lt' (v1 + 1) (fun a4 => self2 a4 μ) else bd (fX9_isShut L o v1 v3 μ) (fun b6 μ5 => (if b6 = 0 then ald L μ5 (o + 6) (((4 : Int32) * v1) + v3) (fun a7 => fX9_nodes_73 L o self28 v1 v3 a7 (((4 : Int32) * v1) + v3) μ5) else fX9_nodes_73 L o self28 v1 v3 (μ5 o 7) (((4 : Int32) * v1) + v3) μ5))))
def fX9_nodes_28 (L : Nat → Nat) (o : Nat) (self2 : Int32 → Mem → Option Mem) : Nat → Int32 → Int32 → Mem → Option Mem
  | 0, _, _, _ => none
  | k + 1, v1, v3, μ => fX9_nodes_28_b L o self2 (fX9_nodes_28 L o self2 k) v1 v3 μ
def fX9_nodes_26 (L : Nat → Nat) (o : Nat) (self2 : Int32 → Mem → Option Mem) (v1 : Int32) (μ : Mem) : Option Mem :=
  fX9_nodes_28 L o self2 FU v1 (0 : Int32) μ
def fX9_nodes_2_b (L : Nat → Nat) (o : Nat) (self2 : Int32 → Mem → Option Mem) (v1 : Int32) (μ : Mem) : Option Mem :=
  (if (μ o 2) ≤ v1 then some μ else bd (fX9_leastSingle L o v1 μ) (fun b9 μ8 => (if b9 ≤ 0 then fX9_nodes_26 L o self2 v1 μ8 else bv (fX9_raises L o v1 b9 μ8) (fun μ10 => fX9_nodes_26 L o self2 v1 μ10))))
def fX9_nodes_2 (L : Nat → Nat) (o : Nat) : Nat → Int32 → Mem → Option Mem
  | 0, _, _ => none
  | k + 1, v1, μ => fX9_nodes_2_b L o (fX9_nodes_2 L o k) v1 μ
def fX9_nodes (L : Nat → Nat) (o : Nat) (μ : Mem) : Option Mem :=
  fX9_nodes_2 L o FU (0 : Int32) μ
-- X9_shuts
def fX9_shuts_94 (L : Nat → Nat) (o : Nat) (self19 : Int32 → Int32 → Int32 → Mem → Option Mem) (v1 v2 v3 : Int32) (μ : Mem) : Option Mem :=
  lt' (v3 + 1) (fun a1 => self19 v1 v2 a1 μ)
def fX9_shuts_78 (L : Nat → Nat) (o : Nat) (self19 : Int32 → Int32 → Int32 → Mem → Option Mem) (v1 v2 v3 : Int32) (μ : Mem) : Option Mem :=
  bd (fX9_pairAt L v1 (0 : Int32) v2 v3 μ) (fun b3 μ2 => ast L μ2 (o + 6) b3 (μ2 o 7) (fun μ4 => fX9_shuts_94 L o self19 v1 v2 v3 μ4))
def fX9_shuts_19_b (L : Nat → Nat) (o : Nat) (self2 : Int32 → Int32 → Mem → Option Mem) (self19 : Int32 → Int32 → Int32 → Mem → Option Mem) (v1 v2 v3 : Int32) (μ : Mem) : Option Mem :=
  ald L μ (o + 4) v1 (fun a5 => ald L μ (o + 2) a5 (fun a6 => (if a6 ≤ v3 then lt' (v2 + 1) (fun a7 => self2 v1 a7 μ) else ald L μ (o + 3) v1 (fun a8 => ald L μ (o + 6) (((4 : Int32) * a8) + v2) (fun a9 => (if a9 = (μ o 7) then fX9_shuts_78 L o self19 v1 v2 v3 μ else ald L μ (o + 4) v1 (fun a10 => ald L μ (o + 6) (((4 : Int32) * a10) + v3) (fun a11 => (if a11 = (μ o 7) then fX9_shuts_78 L o self19 v1 v2 v3 μ else fX9_shuts_94 L o self19 v1 v2 v3 μ)))))))))
def fX9_shuts_19 (L : Nat → Nat) (o : Nat) (self2 : Int32 → Int32 → Mem → Option Mem) : Nat → Int32 → Int32 → Int32 → Mem → Option Mem
  | 0, _, _, _, _ => none
  | k + 1, v1, v2, v3, μ => fX9_shuts_19_b L o self2 (fX9_shuts_19 L o self2 k) v1 v2 v3 μ
def fX9_shuts_2_b (L : Nat → Nat) (o : Nat) (self2 : Int32 → Int32 → Mem → Option Mem) (v1 v2 : Int32) (μ : Mem) : Option Mem :=
  ald L μ (o + 3) v1 (fun a12 => ald L μ (o + 2) a12 (fun a13 => (if a13 ≤ v2 then some μ else fX9_shuts_19 L o self2 FU v1 v2 (0 : Int32) μ)))
def fX9_shuts_2 (L : Nat → Nat) (o : Nat) : Nat → Int32 → Int32 → Mem → Option Mem
  | 0, _, _, _ => none
  | k + 1, v1, v2, μ => fX9_shuts_2_b L o (fX9_shuts_2 L o k) v1 v2 μ
def fX9_shuts (L : Nat → Nat) (o : Nat) (v1 : Int32) (μ : Mem) : Option Mem :=
  fX9_shuts_2 L o FU v1 (0 : Int32) μ
-- X9_arcs
def fX9_arcs_52 (L : Nat → Nat) (o : Nat) (self14 : Int32 → Int32 → Int32 → Mem → Option Mem) (v1 v2 v3 : Int32) (μ : Mem) : Option Mem :=
  lt' (v3 + 1) (fun a1 => self14 v1 v2 a1 μ)
def fX9_arcs_14_b (L : Nat → Nat) (o : Nat) (self7 : Int32 → Int32 → Mem → Option Mem) (self14 : Int32 → Int32 → Int32 → Mem → Option Mem) (v1 v2 v3 : Int32) (μ : Mem) : Option Mem :=
  bd (fX9_nameOf L o v1 v2 μ) (fun b3 μ2 => ald L μ2 (o + 2) b3 (fun a4 => (if a4 ≤ v3 then lt' (v2 + 1) (fun a5 => self7 v1 a5 μ2) else bd (fX9_leastPair L o v1 v2 v3 μ2) (fun b7 μ6 => (if b7 ≤ 0 then fX9_arcs_52 L o self14 v1 v2 v3 μ6 else bv (fX9_projects L o v1 v2 v3 b7 μ6) (fun μ8 => fX9_arcs_52 L o self14 v1 v2 v3 μ8))))))
def fX9_arcs_14 (L : Nat → Nat) (o : Nat) (self7 : Int32 → Int32 → Mem → Option Mem) : Nat → Int32 → Int32 → Int32 → Mem → Option Mem
  | 0, _, _, _, _ => none
  | k + 1, v1, v2, v3, μ => fX9_arcs_14_b L o self7 (fX9_arcs_14 L o self7 k) v1 v2 v3 μ
def fX9_arcs_7_b (L : Nat → Nat) (o : Nat) (self7 : Int32 → Int32 → Mem → Option Mem) (v1 v2 : Int32) (μ : Mem) : Option Mem :=
  (if (2 : Int32) ≤ v2 then some μ else fX9_arcs_14 L o self7 FU v1 v2 (0 : Int32) μ)
def fX9_arcs_7 (L : Nat → Nat) (o : Nat) : Nat → Int32 → Int32 → Mem → Option Mem
  | 0, _, _, _ => none
  | k + 1, v1, v2, μ => fX9_arcs_7_b L o (fX9_arcs_7 L o k) v1 v2 μ
def fX9_arcs (L : Nat → Nat) (o : Nat) (v1 : Int32) (μ : Mem) : Option Mem :=
  bv (fX9_shuts L o v1 μ) (fun μ9 => fX9_arcs_7 L o FU v1 (0 : Int32) μ9)
-- X9_directs
def fX9_directs_269 (L : Nat → Nat) (o : Nat) (self233 : Int32 → Int32 → Int32 → Mem → Option Mem) (v1 v2 v4 : Int32) (μ : Mem) : Option Mem :=
  lt' (v4 + 1) (fun a1 => self233 v1 v2 a1 μ)
def fX9_directs_233_b (L : Nat → Nat) (o : Nat) (self233 : Int32 → Int32 → Int32 → Mem → Option Mem) (v1 v2 v4 : Int32) (μ : Mem) : Option Mem :=
  ald L μ (o + 2) v2 (fun a2 => (if a2 ≤ v4 then some μ else ald L μ (o + 13) v4 (fun a3 => (if a3 ≤ 0 then fX9_directs_269 L o self233 v1 v2 v4 μ else ald L μ (o + 13) v4 (fun a4 => bv (fX9_projects L o v1 (0 : Int32) v4 a4 μ) (fun μ5 => fX9_directs_269 L o self233 v1 v2 v4 μ5))))))
def fX9_directs_233 (L : Nat → Nat) (o : Nat) : Nat → Int32 → Int32 → Int32 → Mem → Option Mem
  | 0, _, _, _, _ => none
  | k + 1, v1, v2, v4, μ => fX9_directs_233_b L o (fX9_directs_233 L o k) v1 v2 v4 μ
def fX9_directs_224 (L : Nat → Nat) (o : Nat) (self135 : Int32 → Int32 → Int32 → Int32 → Mem → Option Mem) (v1 v2 v3 v4 : Int32) (μ : Mem) : Option Mem :=
  lt' (v4 + 1) (fun a6 => self135 v1 v2 v3 a6 μ)
def fX9_directs_201 (L : Nat → Nat) (o : Nat) (self152 : Int32 → Int32 → Int32 → Int32 → Int32 → Int32 → Mem → Option Mem) (v1 v2 v3 v4 v6 s0 : Int32) (μ : Mem) : Option Mem :=
  lt' (v6 + 1) (fun a7 => self152 v1 v2 v3 v4 s0 a7 μ)
def fX9_directs_152_b (L : Nat → Nat) (o : Nat) (self135 : Int32 → Int32 → Int32 → Int32 → Mem → Option Mem) (self152 : Int32 → Int32 → Int32 → Int32 → Int32 → Int32 → Mem → Option Mem) (v1 v2 v3 v4 v5 v6 : Int32) (μ : Mem) : Option Mem :=
  ald L μ (o + 2) v2 (fun a8 => (if a8 ≤ v6 then (if v5 ≤ 0 then fX9_directs_224 L o self135 v1 v2 v3 v4 μ else bv (fX9_extendsBy L o v1 (1 : Int32) v4 v5 μ) (fun μ9 => fX9_directs_224 L o self135 v1 v2 v3 v4 μ9)) else ald L μ (o + 13) v6 (fun a10 => bd (fX9_pairAt L v1 (0 : Int32) v6 v4 μ) (fun b12 μ11 => ald L μ11 (o + 6) b12 (fun a13 => lt' (a10 - a13) (fun a14 => (if a14 ≤ v5 then fX9_directs_201 L o self152 v1 v2 v3 v4 v6 v5 μ11 else fX9_directs_201 L o self152 v1 v2 v3 v4 v6 a14 μ11)))))))
def fX9_directs_152 (L : Nat → Nat) (o : Nat) (self135 : Int32 → Int32 → Int32 → Int32 → Mem → Option Mem) : Nat → Int32 → Int32 → Int32 → Int32 → Int32 → Int32 → Mem → Option Mem
  | 0, _, _, _, _, _, _, _ => none
  | k + 1, v1, v2, v3, v4, v5, v6, μ => fX9_directs_152_b L o self135 (fX9_directs_152 L o self135 k) v1 v2 v3 v4 v5 v6 μ
def fX9_directs_135_b (L : Nat → Nat) (o : Nat) (self135 : Int32 → Int32 → Int32 → Int32 → Mem → Option Mem) (v1 v2 v3 v4 : Int32) (μ : Mem) : Option Mem :=
  ald L μ (o + 2) v3 (fun a15 => (if a15 ≤ v4 then fX9_directs_233 L o FU v1 v2 (0 : Int32) μ else fX9_directs_152 L o self135 FU v1 v2 v3 v4 (0 : Int32) (0 : Int32) μ))
def fX9_directs_135 (L : Nat → Nat) (o : Nat) : Nat → Int32 → Int32 → Int32 → Int32 → Mem → Option Mem
  | 0, _, _, _, _, _ => none
  | k + 1, v1, v2, v3, v4, μ => fX9_directs_135_b L o (fX9_directs_135 L o k) v1 v2 v3 v4 μ
def fX9_directs_119 (L : Nat → Nat) (o : Nat) (self47 : Int32 → Int32 → Int32 → Int32 → Int32 → Mem → Option Mem) (v1 v2 v3 v4 v5 s0 s1 : Int32) (μ : Mem) : Option Mem :=
  ast L μ (o + 13) s1 s0 (fun μ16 => lt' (v5 + 1) (fun a17 => self47 v1 v2 v3 v4 a17 μ16))
def fX9_directs_47_b (L : Nat → Nat) (o : Nat) (self22 : Int32 → Int32 → Int32 → Int32 → Mem → Option Mem) (self47 : Int32 → Int32 → Int32 → Int32 → Int32 → Mem → Option Mem) (v1 v2 v3 v4 v5 : Int32) (μ : Mem) : Option Mem :=
  ald L μ (o + 2) v3 (fun a18 => (if a18 ≤ v5 then lt' (v4 + 1) (fun a19 => self22 v1 v2 v3 a19 μ) else bd (fX9_pairAt L v1 (0 : Int32) v4 v5 μ) (fun b21 μ20 => ald L μ20 (o + 6) b21 (fun a22 => ald L μ20 (o + 6) (((4 : Int32) * v3) + v5) (fun a23 => bd (fX9_sum L o a22 a23 μ20) (fun b25 μ24 => ald L μ24 (o + 13) v4 (fun a26 => (if a26 ≤ b25 then ald L μ24 (o + 13) v4 (fun a27 => fX9_directs_119 L o self47 v1 v2 v3 v4 v5 a27 v4 μ24) else fX9_directs_119 L o self47 v1 v2 v3 v4 v5 b25 v4 μ24))))))))
def fX9_directs_47 (L : Nat → Nat) (o : Nat) (self22 : Int32 → Int32 → Int32 → Int32 → Mem → Option Mem) : Nat → Int32 → Int32 → Int32 → Int32 → Int32 → Mem → Option Mem
  | 0, _, _, _, _, _, _ => none
  | k + 1, v1, v2, v3, v4, v5, μ => fX9_directs_47_b L o self22 (fX9_directs_47 L o self22 k) v1 v2 v3 v4 v5 μ
def fX9_directs_22_b (L : Nat → Nat) (o : Nat) (self22 : Int32 → Int32 → Int32 → Int32 → Mem → Option Mem) (v1 v2 v3 v4 : Int32) (μ : Mem) : Option Mem :=
  ald L μ (o + 2) v2 (fun a28 => (if a28 ≤ v4 then fX9_directs_135 L o FU v1 v2 v3 (0 : Int32) μ else ast L μ (o + 13) v4 (μ o 7) (fun μ29 => fX9_directs_47 L o self22 FU v1 v2 v3 v4 (0 : Int32) μ29)))
def fX9_directs_22 (L : Nat → Nat) (o : Nat) : Nat → Int32 → Int32 → Int32 → Int32 → Mem → Option Mem
  | 0, _, _, _, _, _ => none
  | k + 1, v1, v2, v3, v4, μ => fX9_directs_22_b L o (fX9_directs_22 L o k) v1 v2 v3 v4 μ
def fX9_directs (L : Nat → Nat) (o : Nat) (v1 : Int32) (μ : Mem) : Option Mem :=
  bv (fX9_shuts L o v1 μ) (fun μ30 => ald L μ30 (o + 3) v1 (fun a31 => ald L μ30 (o + 4) v1 (fun a32 => fX9_directs_22 L o FU v1 a31 a32 (0 : Int32) μ30)))
-- X9_sweeps
def fX9_sweeps_79 (L : Nat → Nat) (o : Nat) (μ : Mem) : Option Mem :=
  bv (fX9_nodes L o μ) (fun μ1 => some μ1)
def fX9_sweeps_67 (L : Nat → Nat) (o : Nat) (self44 : Int32 → Int32 → Int32 → Mem → Option Mem) (v1 v2 v3 : Int32) (μ : Mem) : Option Mem :=
  lt' (v3 + 1) (fun a2 => self44 v1 v2 a2 μ)
def fX9_sweeps_44_b (L : Nat → Nat) (o : Nat) (self33 : Int32 → Int32 → Mem → Option Mem) (self44 : Int32 → Int32 → Int32 → Mem → Option Mem) (v1 v2 v3 : Int32) (μ : Mem) : Option Mem :=
  (if (μ o 4) ≤ v3 then lt' (v2 + (-1)) (fun a3 => self33 v1 a3 μ) else ald L μ (o + 4) v3 (fun a4 => (if a4 = v2 then bv (fX9_directs L o v3 μ) (fun μ5 => fX9_sweeps_67 L o self44 v1 v2 v3 μ5) else fX9_sweeps_67 L o self44 v1 v2 v3 μ)))
def fX9_sweeps_44 (L : Nat → Nat) (o : Nat) (self33 : Int32 → Int32 → Mem → Option Mem) : Nat → Int32 → Int32 → Int32 → Mem → Option Mem
  | 0, _, _, _, _ => none
  | k + 1, v1, v2, v3, μ => fX9_sweeps_44_b L o self33 (fX9_sweeps_44 L o self33 k) v1 v2 v3 μ
def fX9_sweeps_33_b (L : Nat → Nat) (o : Nat) (self33 : Int32 → Int32 → Mem → Option Mem) (v1 v2 : Int32) (μ : Mem) : Option Mem :=
  (if v2 < 0 then fX9_sweeps_79 L o μ else (if v1 = (2 : Int32) then fX9_sweeps_44 L o self33 FU v1 v2 (0 : Int32) μ else fX9_sweeps_79 L o μ))
def fX9_sweeps_33 (L : Nat → Nat) (o : Nat) : Nat → Int32 → Int32 → Mem → Option Mem
  | 0, _, _, _ => none
  | k + 1, v1, v2, μ => fX9_sweeps_33_b L o (fX9_sweeps_33 L o k) v1 v2 μ
def fX9_sweeps_26 (L : Nat → Nat) (o : Nat) (v1 : Int32) (μ : Mem) : Option Mem :=
  lt' ((μ o 2) - (1 : Int32)) (fun a6 => fX9_sweeps_33 L o FU v1 a6 μ)
def fX9_sweeps_2_b (L : Nat → Nat) (o : Nat) (self2 : Int32 → Int32 → Mem → Option Mem) (v1 v2 : Int32) (μ : Mem) : Option Mem :=
  (if (μ o 4) ≤ v2 then fX9_sweeps_26 L o v1 μ else (if v1 = (1 : Int32) then bv (fX9_arcs L o v2 μ) (fun μ7 => lt' (v2 + 1) (fun a8 => self2 v1 a8 μ7)) else fX9_sweeps_26 L o v1 μ))
def fX9_sweeps_2 (L : Nat → Nat) (o : Nat) : Nat → Int32 → Int32 → Mem → Option Mem
  | 0, _, _, _ => none
  | k + 1, v1, v2, μ => fX9_sweeps_2_b L o (fX9_sweeps_2 L o k) v1 v2 μ
def fX9_sweeps (L : Nat → Nat) (o : Nat) (v1 : Int32) (μ : Mem) : Option Mem :=
  fX9_sweeps_2 L o FU v1 (0 : Int32) μ
-- X9_sweep
def fX9_sweep_27_b (L : Nat → Nat) (o : Nat) (self27 : Int32 → Int32 → Int32 → Mem → Option (Int32 × Mem)) (v1 v2 v3 : Int32) (μ : Mem) : Option (Int32 × Mem) :=
  (if v2 ≤ v3 then ald L μ (o + 6) (168 : Int32) (fun a1 => some (a1, μ)) else bv (fX9_sweeps L o v1 μ) (fun μ2 => lt' (v3 + 1) (fun a3 => self27 v1 v2 a3 μ2)))
def fX9_sweep_27 (L : Nat → Nat) (o : Nat) : Nat → Int32 → Int32 → Int32 → Mem → Option (Int32 × Mem)
  | 0, _, _, _, _ => none
  | k + 1, v1, v2, v3, μ => fX9_sweep_27_b L o (fX9_sweep_27 L o k) v1 v2 v3 μ
def fX9_sweep (L : Nat → Nat) (o : Nat) (v1 v2 : Int32) (μ : Mem) : Option (Int32 × Mem) :=
  bd (fX9_isIn L v1 (0 : Int32) (2 : Int32) μ) (fun b5 μ4 => (if b5 = 0 then some ((-1 : Int32), μ4) else bd (fX9_isIn L v2 (1 : Int32) (9 : Int32) μ4) (fun b7 μ6 => (if b7 = 0 then some ((-1 : Int32), μ6) else bv (fX9_keeps L o μ6) (fun μ8 => fX9_sweep_27 L o FU v1 v2 (0 : Int32) μ8)))))
-- X9_settles
def fX9_settles_110 (L : Nat → Nat) (o : Nat) (self7 : Int32 → Int32 → Int32 → Int32 → Mem → Option (Int32 × Mem)) (v1 v3 v4 s0 s1 : Int32) (μ : Mem) : Option (Int32 × Mem) :=
  lt' (s1 + s0) (fun a1 => lt' (v4 + 1) (fun a2 => self7 v1 a1 v3 a2 μ))
def fX9_settles_93 (L : Nat → Nat) (o : Nat) (self59 : Int32 → Int32 → Int32 → Int32 → Int32 → Mem → Option (Int32 × Mem)) (v1 v2 v4 v5 s0 : Int32) (μ : Mem) : Option (Int32 × Mem) :=
  lt' (v5 + 1) (fun a3 => self59 v1 v2 s0 v4 a3 μ)
def fX9_settles_88 (L : Nat → Nat) (o : Nat) (self59 : Int32 → Int32 → Int32 → Int32 → Int32 → Mem → Option (Int32 × Mem)) (v1 v2 v4 v5 : Int32) (μ : Mem) : Option (Int32 × Mem) :=
  fX9_settles_93 L o self59 v1 v2 v4 v5 (1 : Int32) μ
def fX9_settles_59_b (L : Nat → Nat) (o : Nat) (self7 : Int32 → Int32 → Int32 → Int32 → Mem → Option (Int32 × Mem)) (self59 : Int32 → Int32 → Int32 → Int32 → Int32 → Mem → Option (Int32 × Mem)) (v1 v2 v3 v4 v5 : Int32) (μ : Mem) : Option (Int32 × Mem) :=
  (if (169 : Int32) ≤ v5 then (if v3 = 0 then fX9_settles_110 L o self7 v1 v3 v4 (0 : Int32) v2 μ else fX9_settles_110 L o self7 v1 v3 v4 (1 : Int32) v2 μ) else (if v3 = 0 then ald L μ (o + 14) v5 (fun a4 => ald L μ (o + 6) v5 (fun a5 => (if a4 = a5 then fX9_settles_93 L o self59 v1 v2 v4 v5 (0 : Int32) μ else fX9_settles_88 L o self59 v1 v2 v4 v5 μ))) else fX9_settles_88 L o self59 v1 v2 v4 v5 μ))
def fX9_settles_59 (L : Nat → Nat) (o : Nat) (self7 : Int32 → Int32 → Int32 → Int32 → Mem → Option (Int32 × Mem)) : Nat → Int32 → Int32 → Int32 → Int32 → Int32 → Mem → Option (Int32 × Mem)
  | 0, _, _, _, _, _, _ => none
  | k + 1, v1, v2, v3, v4, v5, μ => fX9_settles_59_b L o self7 (fX9_settles_59 L o self7 k) v1 v2 v3 v4 v5 μ
def fX9_settles_21_b (L : Nat → Nat) (o : Nat) (self7 : Int32 → Int32 → Int32 → Int32 → Mem → Option (Int32 × Mem)) (self21 : Int32 → Int32 → Int32 → Int32 → Mem → Option (Int32 × Mem)) (v1 v2 v4 v5 : Int32) (μ : Mem) : Option (Int32 × Mem) :=
  (if (169 : Int32) ≤ v5 then bv (fX9_sweeps L o v1 μ) (fun μ6 => fX9_settles_59 L o self7 FU v1 v2 (0 : Int32) v4 (0 : Int32) μ6) else ald L μ (o + 6) v5 (fun a7 => ast L μ (o + 14) v5 a7 (fun μ8 => lt' (v5 + 1) (fun a9 => self21 v1 v2 v4 a9 μ8))))
def fX9_settles_21 (L : Nat → Nat) (o : Nat) (self7 : Int32 → Int32 → Int32 → Int32 → Mem → Option (Int32 × Mem)) : Nat → Int32 → Int32 → Int32 → Int32 → Mem → Option (Int32 × Mem)
  | 0, _, _, _, _, _ => none
  | k + 1, v1, v2, v4, v5, μ => fX9_settles_21_b L o self7 (fX9_settles_21 L o self7 k) v1 v2 v4 v5 μ
def fX9_settles_7_b (L : Nat → Nat) (o : Nat) (self7 : Int32 → Int32 → Int32 → Int32 → Mem → Option (Int32 × Mem)) (v1 v2 v3 v4 : Int32) (μ : Mem) : Option (Int32 × Mem) :=
  (if (20 : Int32) ≤ v4 then some (v2, μ) else (if v3 = 0 then some (v2, μ) else fX9_settles_21 L o self7 FU v1 v2 v4 (0 : Int32) μ))
def fX9_settles_7 (L : Nat → Nat) (o : Nat) : Nat → Int32 → Int32 → Int32 → Int32 → Mem → Option (Int32 × Mem)
  | 0, _, _, _, _, _ => none
  | k + 1, v1, v2, v3, v4, μ => fX9_settles_7_b L o (fX9_settles_7 L o k) v1 v2 v3 v4 μ
def fX9_settles (L : Nat → Nat) (o : Nat) (v1 : Int32) (μ : Mem) : Option (Int32 × Mem) :=
  fX9_settles_7 L o FU v1 (0 : Int32) (1 : Int32) (0 : Int32) μ
-- X9_settle
def fX9_settle (L : Nat → Nat) (o : Nat) (v1 : Int32) (μ : Mem) : Option (Int32 × Mem) :=
  bd (fX9_isIn L v1 (0 : Int32) (2 : Int32) μ) (fun b2 μ1 => (if b2 = 0 then some ((-1 : Int32), μ1) else bv (fX9_keeps L o μ1) (fun μ3 => bd (fX9_settles L o v1 μ3) (fun b5 μ4 => some (b5, μ4)))))
-- X9_bound
def fX9_bound_55_b (L : Nat → Nat) (o : Nat) (self55 : Int32 → Int32 → Mem → Option (Int32 × Mem)) (v2 v3 : Int32) (μ : Mem) : Option (Int32 × Mem) :=
  (if (169 : Int32) ≤ v3 then some (v2, μ) else ald L μ (o + 8) v3 (fun a1 => ast L μ (o + 6) v3 a1 (fun μ2 => lt' (v3 + 1) (fun a3 => self55 v2 a3 μ2))))
def fX9_bound_55 (L : Nat → Nat) (o : Nat) : Nat → Int32 → Int32 → Mem → Option (Int32 × Mem)
  | 0, _, _, _ => none
  | k + 1, v2, v3, μ => fX9_bound_55_b L o (fX9_bound_55 L o k) v2 v3 μ
def fX9_bound_13_b (L : Nat → Nat) (o : Nat) (self13 : Int32 → Int32 → Mem → Option (Int32 × Mem)) (v1 v2 : Int32) (μ : Mem) : Option (Int32 × Mem) :=
  (if (169 : Int32) ≤ v2 then bd (fX9_settles L o v1 μ) (fun b5 μ4 => ald L μ4 (o + 6) (168 : Int32) (fun a6 => fX9_bound_55 L o FU a6 (0 : Int32) μ4)) else ald L μ (o + 6) v2 (fun a7 => ast L μ (o + 8) v2 a7 (fun μ8 => lt' (v2 + 1) (fun a9 => self13 v1 a9 μ8))))
def fX9_bound_13 (L : Nat → Nat) (o : Nat) : Nat → Int32 → Int32 → Mem → Option (Int32 × Mem)
  | 0, _, _, _ => none
  | k + 1, v1, v2, μ => fX9_bound_13_b L o (fX9_bound_13 L o k) v1 v2 μ
def fX9_bound (L : Nat → Nat) (o : Nat) (v1 : Int32) (μ : Mem) : Option (Int32 × Mem) :=
  bd (fX9_isIn L v1 (0 : Int32) (2 : Int32) μ) (fun b11 μ10 => (if b11 = 0 then some ((-1 : Int32), μ10) else fX9_bound_13 L o FU v1 (0 : Int32) μ10))
-- X9_totalOf
def fX9_totalOf_99 (L : Nat → Nat) (o : Nat) (self48 : Int32 → Int32 → Int32 → Mem → Option (Int32 × Mem)) (v1 v3 s0 s1 : Int32) (μ : Mem) : Option (Int32 × Mem) :=
  bd (fX9_sum L o s1 s0 μ) (fun b2 μ1 => lt' (v3 + 1) (fun a3 => self48 v1 b2 a3 μ1))
def fX9_totalOf_48_b (L : Nat → Nat) (o : Nat) (self48 : Int32 → Int32 → Int32 → Mem → Option (Int32 × Mem)) (v1 v2 v3 : Int32) (μ : Mem) : Option (Int32 × Mem) :=
  (if (μ o 4) ≤ v3 then some (v2, μ) else (if v3 = v1 then fX9_totalOf_99 L o self48 v1 v3 (0 : Int32) v2 μ else ald L μ (o + 3) v3 (fun a4 => ald L μ (o + 15) a4 (fun a5 => ald L μ (o + 4) v3 (fun a6 => ald L μ (o + 15) a6 (fun a7 => bd (fX9_pairAt L v3 (0 : Int32) a5 a7 μ) (fun b9 μ8 => ald L μ8 (o + 6) b9 (fun a10 => fX9_totalOf_99 L o self48 v1 v3 a10 v2 μ8))))))))
def fX9_totalOf_48 (L : Nat → Nat) (o : Nat) : Nat → Int32 → Int32 → Int32 → Mem → Option (Int32 × Mem)
  | 0, _, _, _, _ => none
  | k + 1, v1, v2, v3, μ => fX9_totalOf_48_b L o (fX9_totalOf_48 L o k) v1 v2 v3 μ
def fX9_totalOf_11_b (L : Nat → Nat) (o : Nat) (self11 : Int32 → Int32 → Int32 → Mem → Option (Int32 × Mem)) (v1 v2 v3 : Int32) (μ : Mem) : Option (Int32 × Mem) :=
  (if (μ o 2) ≤ v3 then fX9_totalOf_48 L o FU v1 v2 (0 : Int32) μ else ald L μ (o + 15) v3 (fun a11 => ald L μ (o + 6) (((4 : Int32) * v3) + a11) (fun a12 => bd (fX9_sum L o v2 a12 μ) (fun b14 μ13 => lt' (v3 + 1) (fun a15 => self11 v1 b14 a15 μ13)))))
def fX9_totalOf_11 (L : Nat → Nat) (o : Nat) : Nat → Int32 → Int32 → Int32 → Mem → Option (Int32 × Mem)
  | 0, _, _, _, _ => none
  | k + 1, v1, v2, v3, μ => fX9_totalOf_11_b L o (fX9_totalOf_11 L o k) v1 v2 v3 μ
def fX9_totalOf (L : Nat → Nat) (o : Nat) (v1 : Int32) (μ : Mem) : Option (Int32 × Mem) :=
  ald L μ (o + 6) (168 : Int32) (fun a16 => fX9_totalOf_11 L o FU v1 a16 (0 : Int32) μ)
-- X9_total
def fX9_total_2_b (L : Nat → Nat) (o : Nat) (self2 : Int32 → Mem → Option (Int32 × Mem)) (v1 : Int32) (μ : Mem) : Option (Int32 × Mem) :=
  (if (μ o 2) ≤ v1 then bd (fX9_totalOf L o (-4 : Int32) μ) (fun b2 μ1 => some (b2, μ1)) else ald L μ (o + 5) v1 (fun a3 => ast L μ (o + 15) v1 a3 (fun μ4 => lt' (v1 + 1) (fun a5 => self2 a5 μ4))))
def fX9_total_2 (L : Nat → Nat) (o : Nat) : Nat → Int32 → Mem → Option (Int32 × Mem)
  | 0, _, _ => none
  | k + 1, v1, μ => fX9_total_2_b L o (fX9_total_2 L o k) v1 μ
def fX9_total (L : Nat → Nat) (o : Nat) (μ : Mem) : Option (Int32 × Mem) :=
  fX9_total_2 L o FU (0 : Int32) μ
-- X9_choices
def fX9_choices_4_b (L : Nat → Nat) (o : Nat) (self4 : Int32 → Int32 → Mem → Option (Int32 × Mem)) (v1 v2 : Int32) (μ : Mem) : Option (Int32 × Mem) :=
  (if (μ o 2) ≤ v2 then some (v1, μ) else ald L μ (o + 2) v2 (fun a1 => lt' (v1 * a1) (fun a2 => lt' (v2 + 1) (fun a3 => self4 a2 a3 μ))))
def fX9_choices_4 (L : Nat → Nat) (o : Nat) : Nat → Int32 → Int32 → Mem → Option (Int32 × Mem)
  | 0, _, _, _ => none
  | k + 1, v1, v2, μ => fX9_choices_4_b L o (fX9_choices_4 L o k) v1 v2 μ
def fX9_choices (L : Nat → Nat) (o : Nat) (μ : Mem) : Option (Int32 × Mem) :=
  fX9_choices_4 L o FU (1 : Int32) (0 : Int32) μ
-- X9_takes
def fX9_takes_9_b (L : Nat → Nat) (o : Nat) (self9 : Int32 → Int32 → Mem → Option Mem) (v2 v3 : Int32) (μ : Mem) : Option Mem :=
  (if v3 < 0 then some μ else ald L μ (o + 2) v3 (fun a1 => nz a1 (ast L μ (o + 15) v3 (v2 - v2 / a1 * a1) (fun μ2 => ald L μ2 (o + 2) v3 (fun a3 => nz a3 (lt' (v2 / a3) (fun a4 => lt' (v3 + (-1)) (fun a5 => self9 a4 a5 μ2))))))))
def fX9_takes_9 (L : Nat → Nat) (o : Nat) : Nat → Int32 → Int32 → Mem → Option Mem
  | 0, _, _, _ => none
  | k + 1, v2, v3, μ => fX9_takes_9_b L o (fX9_takes_9 L o k) v2 v3 μ
def fX9_takes (L : Nat → Nat) (o : Nat) (v1 : Int32) (μ : Mem) : Option Mem :=
  lt' ((μ o 2) - (1 : Int32)) (fun a6 => fX9_takes_9 L o FU v1 a6 μ)
-- X9_meets
def fX9_meets_164 (L : Nat → Nat) (o : Nat) (s0 : Int32) (μ : Mem) : Option Mem :=
  pu μ o 30 s0 (fun μ1 => some μ1)
def fX9_meets_138 (L : Nat → Nat) (o : Nat) (v1 v2 s0 s1 : Int32) (μ : Mem) : Option Mem :=
  pu μ o 27 (s1 + s0) (fun μ2 => (if v1 = (μ2 o 26) then fX9_meets_164 L o ((μ2 o 30) &&& v2) μ2 else fX9_meets_164 L o (μ2 o 30) μ2))
def fX9_meets_117 (L : Nat → Nat) (o : Nat) (v1 v2 s0 : Int32) (μ : Mem) : Option Mem :=
  pu μ o 28 s0 (fun μ3 => (if v1 = (μ3 o 26) then fX9_meets_138 L o v1 v2 (1 : Int32) (μ3 o 27) μ3 else fX9_meets_138 L o v1 v2 (0 : Int32) (μ3 o 27) μ3))
def fX9_meets_113 (L : Nat → Nat) (o : Nat) (v1 v2 : Int32) (μ : Mem) : Option Mem :=
  fX9_meets_117 L o v1 v2 (μ o 28) μ
def fX9_meets_92 (L : Nat → Nat) (o : Nat) (v1 v2 : Int32) (μ : Mem) : Option Mem :=
  (if v1 ≤ (μ o 26) then fX9_meets_113 L o v1 v2 μ else (if (μ o 28) ≤ v1 then fX9_meets_113 L o v1 v2 μ else fX9_meets_117 L o v1 v2 v1 μ))
def fX9_meets_66_b (L : Nat → Nat) (o : Nat) (self66 : Int32 → Int32 → Int32 → Mem → Option Mem) (v1 v2 v3 : Int32) (μ : Mem) : Option Mem :=
  (if (μ o 2) ≤ v3 then fX9_meets_92 L o v1 v2 μ else ald L μ (o + 15) v3 (fun a4 => ast L μ (o + 16) v3 a4 (fun μ5 => lt' (v3 + 1) (fun a6 => self66 v1 v2 a6 μ5))))
def fX9_meets_66 (L : Nat → Nat) (o : Nat) : Nat → Int32 → Int32 → Int32 → Mem → Option Mem
  | 0, _, _, _, _ => none
  | k + 1, v1, v2, v3, μ => fX9_meets_66_b L o (fX9_meets_66 L o k) v1 v2 v3 μ
def fX9_meets_4_b (L : Nat → Nat) (o : Nat) (self4 : Int32 → Int32 → Int32 → Mem → Option Mem) (v1 v2 v3 : Int32) (μ : Mem) : Option Mem :=
  (if (μ o 2) ≤ v3 then (if (μ o 26) ≤ v1 then fX9_meets_92 L o v1 v2 μ else pu μ o 28 (μ o 26) (fun μ7 => pu μ7 o 26 v1 (fun μ8 => pu μ8 o 27 (0 : Int32) (fun μ9 => pu μ9 o 30 v2 (fun μ10 => fX9_meets_66 L o FU v1 v2 (0 : Int32) μ10))))) else ald L μ (o + 15) v3 (fun a11 => lt' (v2 ||| ((1 : Int32) <<< ((((4 : Int32) * v3) + a11) &&& 31))) (fun a12 => lt' (v3 + 1) (fun a13 => self4 v1 a12 a13 μ))))
def fX9_meets_4 (L : Nat → Nat) (o : Nat) : Nat → Int32 → Int32 → Int32 → Mem → Option Mem
  | 0, _, _, _, _ => none
  | k + 1, v1, v2, v3, μ => fX9_meets_4_b L o (fX9_meets_4 L o k) v1 v2 v3 μ
def fX9_meets (L : Nat → Nat) (o : Nat) (v1 : Int32) (μ : Mem) : Option Mem :=
  fX9_meets_4 L o FU v1 (0 : Int32) (0 : Int32) μ
-- X9_looks
def fX9_looks_73 (L : Nat → Nat) (o : Nat) (self33 : Int32 → Int32 → Mem → Option Mem) (v1 v2 : Int32) (μ : Mem) : Option Mem :=
  lt' (v2 + 1) (fun a1 => self33 v1 a1 μ)
def fX9_looks_33_b (L : Nat → Nat) (o : Nat) (self33 : Int32 → Int32 → Mem → Option Mem) (v1 v2 : Int32) (μ : Mem) : Option Mem :=
  (if v1 ≤ v2 then some μ else bv (fX9_takes L o v2 μ) (fun μ2 => bd (fX9_totalOf L o (-4 : Int32) μ2) (fun b4 μ3 => (if (μ3 o 7) ≤ b4 then fX9_looks_73 L o self33 v1 v2 μ3 else pu μ3 o 29 ((μ3 o 29) + (1 : Int32)) (fun μ5 => bv (fX9_meets L o b4 μ5) (fun μ6 => fX9_looks_73 L o self33 v1 v2 μ6))))))
def fX9_looks_33 (L : Nat → Nat) (o : Nat) : Nat → Int32 → Int32 → Mem → Option Mem
  | 0, _, _, _ => none
  | k + 1, v1, v2, μ => fX9_looks_33_b L o (fX9_looks_33 L o k) v1 v2 μ
def fX9_looks (L : Nat → Nat) (o : Nat) (μ : Mem) : Option Mem :=
  pu μ o 26 (μ o 7) (fun μ7 => pu μ7 o 28 (μ7 o 7) (fun μ8 => pu μ8 o 29 (0 : Int32) (fun μ9 => pu μ9 o 27 (0 : Int32) (fun μ10 => bd (fX9_choices L o μ10) (fun b12 μ11 => fX9_looks_33 L o FU b12 (0 : Int32) μ11)))))
-- X9_best
def fX9_best (L : Nat → Nat) (o : Nat) (v1 : Int32) (μ : Mem) : Option (Int32 × Mem) :=
  bd (fX9_isIn L v1 (-2 : Int32) ((μ o 2) - (1 : Int32)) μ) (fun b2 μ1 => (if b2 = 0 then some ((-1 : Int32), μ1) else bv (fX9_looks L o μ1) (fun μ3 => (if (μ3 o 29) = 0 then some ((-4 : Int32), μ3) else (if v1 = (-1 : Int32) then some ((μ3 o 26), μ3) else (if v1 = (-2 : Int32) then some ((μ3 o 27), μ3) else ald L μ3 (o + 16) v1 (fun a4 => some (a4, μ3))))))))
-- X9_next
def fX9_next (L : Nat → Nat) (o : Nat) (v1 : Int32) (μ : Mem) : Option (Int32 × Mem) :=
  bd (fX9_isIn L v1 (0 : Int32) (1 : Int32) μ) (fun b2 μ1 => (if b2 = 0 then some ((-1 : Int32), μ1) else bv (fX9_looks L o μ1) (fun μ3 => (if v1 = (1 : Int32) then some ((μ3 o 29), μ3) else (if (μ3 o 7) ≤ (μ3 o 28) then some ((-4 : Int32), μ3) else some ((μ3 o 28), μ3))))))
-- X9_backbone
def fX9_backbone (L : Nat → Nat) (o : Nat) (μ : Mem) : Option (Int32 × Mem) :=
  bv (fX9_looks L o μ) (fun μ1 => (if (μ1 o 29) = 0 then some ((-4 : Int32), μ1) else some ((μ1 o 30), μ1)))
-- X9_least
def fX9_least_65 (L : Nat → Nat) (o : Nat) (self15 : Int32 → Int32 → Int32 → Int32 → Int32 → Int32 → Mem → Option (Int32 × Mem)) (v1 v2 v3 v4 v5 v6 : Int32) (μ : Mem) : Option (Int32 × Mem) :=
  lt' (v6 + 1) (fun a1 => self15 v1 v2 v3 v4 v5 a1 μ)
def fX9_least_63 (L : Nat → Nat) (o : Nat) (self15 : Int32 → Int32 → Int32 → Int32 → Int32 → Int32 → Mem → Option (Int32 × Mem)) (v1 v2 v3 v5 v6 s0 : Int32) (μ : Mem) : Option (Int32 × Mem) :=
  fX9_least_65 L o self15 v1 v2 v3 s0 v5 v6 μ
def fX9_least_42 (L : Nat → Nat) (o : Nat) (self15 : Int32 → Int32 → Int32 → Int32 → Int32 → Int32 → Mem → Option (Int32 × Mem)) (v1 v2 v3 v4 v5 v6 : Int32) (μ : Mem) : Option (Int32 × Mem) :=
  bd (fX9_totalOf L o v3 μ) (fun b3 μ2 => (if v4 ≤ b3 then fX9_least_63 L o self15 v1 v2 v3 v5 v6 v4 μ2 else fX9_least_63 L o self15 v1 v2 v3 v5 v6 b3 μ2))
def fX9_least_15_b (L : Nat → Nat) (o : Nat) (self15 : Int32 → Int32 → Int32 → Int32 → Int32 → Int32 → Mem → Option (Int32 × Mem)) (v1 v2 v3 v4 v5 v6 : Int32) (μ : Mem) : Option (Int32 × Mem) :=
  (if v5 ≤ v6 then (if (μ o 7) ≤ v4 then some ((-4 : Int32), μ) else some (v4, μ)) else bv (fX9_takes L o v6 μ) (fun μ4 => (if v1 < 0 then fX9_least_42 L o self15 v1 v2 v3 v4 v5 v6 μ4 else ald L μ4 (o + 15) v1 (fun a5 => (if a5 = v2 then fX9_least_42 L o self15 v1 v2 v3 v4 v5 v6 μ4 else fX9_least_65 L o self15 v1 v2 v3 v4 v5 v6 μ4)))))
def fX9_least_15 (L : Nat → Nat) (o : Nat) : Nat → Int32 → Int32 → Int32 → Int32 → Int32 → Int32 → Mem → Option (Int32 × Mem)
  | 0, _, _, _, _, _, _, _ => none
  | k + 1, v1, v2, v3, v4, v5, v6, μ => fX9_least_15_b L o (fX9_least_15 L o k) v1 v2 v3 v4 v5 v6 μ
def fX9_least (L : Nat → Nat) (o : Nat) (v1 v2 v3 : Int32) (μ : Mem) : Option (Int32 × Mem) :=
  lt' (μ o 7) (fun a6 => bd (fX9_choices L o μ) (fun b8 μ7 => fX9_least_15 L o FU v1 v2 v3 a6 b8 (0 : Int32) μ7))
-- X9_with
def fX9_with (L : Nat → Nat) (o : Nat) (v1 v2 : Int32) (μ : Mem) : Option (Int32 × Mem) :=
  bd (fX9_isValue L o v1 v2 μ) (fun b2 μ1 => (if b2 = 0 then some ((-1 : Int32), μ1) else bd (fX9_least L o v1 v2 (-4 : Int32) μ1) (fun b4 μ3 => some (b4, μ3))))
-- X9_without
def fX9_without (L : Nat → Nat) (o : Nat) (v1 : Int32) (μ : Mem) : Option (Int32 × Mem) :=
  bd (fX9_isTable L o v1 μ) (fun b2 μ1 => (if b2 = 0 then some ((-1 : Int32), μ1) else bd (fX9_least L o (-4 : Int32) (0 : Int32) v1 μ1) (fun b4 μ3 => some (b4, μ3))))
-- X9_pairsWith
def fX9_pairsWith_114 (L : Nat → Nat) (o : Nat) (self6 : Int32 → Int32 → Int32 → Int32 → Int32 → Mem → Option (Int32 × Mem)) (v1 v2 v3 v4 v5 : Int32) (μ : Mem) : Option (Int32 × Mem) :=
  lt' (v5 + 1) (fun a1 => self6 v1 v2 v3 v4 a1 μ)
def fX9_pairsWith_97 (L : Nat → Nat) (o : Nat) (self6 : Int32 → Int32 → Int32 → Int32 → Int32 → Mem → Option (Int32 × Mem)) (v1 v2 v3 v5 v6 s0 s1 s2 : Int32) (μ : Mem) : Option (Int32 × Mem) :=
  ald L μ (o + 15) v6 (fun a2 => bd (fX9_pairAt L s1 s0 v2 a2 μ) (fun b4 μ3 => ald L μ3 (o + 6) b4 (fun a5 => bd (fX9_sum L o s2 a5 μ3) (fun b7 μ6 => fX9_pairsWith_114 L o self6 v1 v2 v3 b7 v5 μ6))))
def fX9_pairsWith_59 (L : Nat → Nat) (o : Nat) (self6 : Int32 → Int32 → Int32 → Int32 → Int32 → Mem → Option (Int32 × Mem)) (v1 v2 v3 v4 v5 s0 : Int32) (μ : Mem) : Option (Int32 × Mem) :=
  (if s0 < 0 then fX9_pairsWith_114 L o self6 v1 v2 v3 v4 v5 μ else (if v3 < s0 then fX9_pairsWith_114 L o self6 v1 v2 v3 v4 v5 μ else ald L μ (o + 3) v5 (fun a8 => (if a8 = v1 then fX9_pairsWith_97 L o self6 v1 v2 v3 v5 s0 (0 : Int32) v5 v4 μ else fX9_pairsWith_97 L o self6 v1 v2 v3 v5 s0 (1 : Int32) v5 v4 μ))))
def fX9_pairsWith_6_b (L : Nat → Nat) (o : Nat) (self6 : Int32 → Int32 → Int32 → Int32 → Int32 → Mem → Option (Int32 × Mem)) (v1 v2 v3 v4 v5 : Int32) (μ : Mem) : Option (Int32 × Mem) :=
  (if (μ o 4) ≤ v5 then some (v4, μ) else ald L μ (o + 3) v5 (fun a9 => (if a9 = v1 then ald L μ (o + 4) v5 (fun a12 => fX9_pairsWith_59 L o self6 v1 v2 v3 v4 v5 a12 μ) else ald L μ (o + 4) v5 (fun a10 => (if a10 = v1 then ald L μ (o + 3) v5 (fun a11 => fX9_pairsWith_59 L o self6 v1 v2 v3 v4 v5 a11 μ) else fX9_pairsWith_59 L o self6 v1 v2 v3 v4 v5 (-4 : Int32) μ)))))
def fX9_pairsWith_6 (L : Nat → Nat) (o : Nat) : Nat → Int32 → Int32 → Int32 → Int32 → Int32 → Mem → Option (Int32 × Mem)
  | 0, _, _, _, _, _, _ => none
  | k + 1, v1, v2, v3, v4, v5, μ => fX9_pairsWith_6_b L o (fX9_pairsWith_6 L o k) v1 v2 v3 v4 v5 μ
def fX9_pairsWith (L : Nat → Nat) (o : Nat) (v1 v2 v3 : Int32) (μ : Mem) : Option (Int32 × Mem) :=
  fX9_pairsWith_6 L o FU v1 v2 v3 (0 : Int32) (0 : Int32) μ
-- X9_lowOf
def fX9_lowOf_141 (L : Nat → Nat) (o : Nat) (self11 : Int32 → Int32 → Int32 → Mem → Option (Int32 × Mem)) (v1 v2 v3 : Int32) (μ : Mem) : Option (Int32 × Mem) :=
  lt' (v3 + 1) (fun a1 => self11 v1 v2 a1 μ)
def fX9_lowOf_125 (L : Nat → Nat) (o : Nat) (self75 : Int32 → Int32 → Int32 → Int32 → Int32 → Mem → Option (Int32 × Mem)) (v1 v2 v3 v5 s0 : Int32) (μ : Mem) : Option (Int32 × Mem) :=
  lt' (v5 + 1) (fun a2 => self75 v1 v2 v3 s0 a2 μ)
def fX9_lowOf_75_b (L : Nat → Nat) (o : Nat) (self11 : Int32 → Int32 → Int32 → Mem → Option (Int32 × Mem)) (self75 : Int32 → Int32 → Int32 → Int32 → Int32 → Mem → Option (Int32 × Mem)) (v1 v2 v3 v4 v5 : Int32) (μ : Mem) : Option (Int32 × Mem) :=
  ald L μ (o + 2) v3 (fun a3 => (if a3 ≤ v5 then bd (fX9_sum L o v2 v4 μ) (fun b5 μ4 => fX9_lowOf_141 L o self11 v1 b5 v3 μ4) else ald L μ (o + 6) (((4 : Int32) * v3) + v5) (fun a6 => bd (fX9_pairsWith L o v3 v5 v1 μ) (fun b8 μ7 => bd (fX9_sum L o a6 b8 μ7) (fun b10 μ9 => (if v4 ≤ b10 then fX9_lowOf_125 L o self75 v1 v2 v3 v5 v4 μ9 else fX9_lowOf_125 L o self75 v1 v2 v3 v5 b10 μ9))))))
def fX9_lowOf_75 (L : Nat → Nat) (o : Nat) (self11 : Int32 → Int32 → Int32 → Mem → Option (Int32 × Mem)) : Nat → Int32 → Int32 → Int32 → Int32 → Int32 → Mem → Option (Int32 × Mem)
  | 0, _, _, _, _, _, _ => none
  | k + 1, v1, v2, v3, v4, v5, μ => fX9_lowOf_75_b L o self11 (fX9_lowOf_75 L o self11 k) v1 v2 v3 v4 v5 μ
def fX9_lowOf_11_b (L : Nat → Nat) (o : Nat) (self11 : Int32 → Int32 → Int32 → Mem → Option (Int32 × Mem)) (v1 v2 v3 : Int32) (μ : Mem) : Option (Int32 × Mem) :=
  (if (μ o 2) ≤ v3 then some (v2, μ) else (if v1 < v3 then lt' (μ o 7) (fun a11 => fX9_lowOf_75 L o self11 FU v1 v2 v3 a11 (0 : Int32) μ) else ald L μ (o + 15) v3 (fun a12 => ald L μ (o + 6) (((4 : Int32) * v3) + a12) (fun a13 => ald L μ (o + 15) v3 (fun a14 => bd (fX9_pairsWith L o v3 a14 (v3 - (1 : Int32)) μ) (fun b16 μ15 => bd (fX9_sum L o a13 b16 μ15) (fun b18 μ17 => bd (fX9_sum L o v2 b18 μ17) (fun b20 μ19 => fX9_lowOf_141 L o self11 v1 b20 v3 μ19))))))))
def fX9_lowOf_11 (L : Nat → Nat) (o : Nat) : Nat → Int32 → Int32 → Int32 → Mem → Option (Int32 × Mem)
  | 0, _, _, _, _ => none
  | k + 1, v1, v2, v3, μ => fX9_lowOf_11_b L o (fX9_lowOf_11 L o k) v1 v2 v3 μ
def fX9_lowOf (L : Nat → Nat) (o : Nat) (v1 : Int32) (μ : Mem) : Option (Int32 × Mem) :=
  ald L μ (o + 6) (168 : Int32) (fun a21 => fX9_lowOf_11 L o FU v1 a21 (0 : Int32) μ)
-- X9_tries
def fX9_tries_99 (L : Nat → Nat) (o : Nat) (self16 : Int32 → Int32 → Int32 → Mem → Option (Int32 × Mem)) (v1 v2 v3 : Int32) (μ : Mem) : Option (Int32 × Mem) :=
  self16 v1 v2 v3 μ
def fX9_tries_83 (L : Nat → Nat) (o : Nat) (self16 : Int32 → Int32 → Int32 → Mem → Option (Int32 × Mem)) (v1 v2 v3 v4 : Int32) (μ : Mem) : Option (Int32 × Mem) :=
  (if v2 ≤ v4 then fX9_tries_99 L o self16 v1 v2 v3 μ else lt' (v3 + 1) (fun a1 => ast L μ (o + 15) a1 (-1 : Int32) (fun μ2 => fX9_tries_99 L o self16 v1 v2 a1 μ2)))
def fX9_tries_16_b (L : Nat → Nat) (o : Nat) (self16 : Int32 → Int32 → Int32 → Mem → Option (Int32 × Mem)) (v1 v2 v3 : Int32) (μ : Mem) : Option (Int32 × Mem) :=
  (if v3 < 0 then some (v1, μ) else ald L μ (o + 15) v3 (fun a3 => ast L μ (o + 15) v3 (a3 + (1 : Int32)) (fun μ4 => ald L μ4 (o + 15) v3 (fun a5 => ald L μ4 (o + 2) v3 (fun a6 => (if a5 = a6 then lt' (v3 + (-1)) (fun a10 => self16 v1 v2 a10 μ4) else lt' (v1 + 1) (fun a7 => bd (fX9_lowOf L o v3 μ4) (fun b9 μ8 => (if v2 ≤ b9 then fX9_tries_83 L o self16 a7 v2 v3 b9 μ8 else (if (v3 + (1 : Int32)) = (μ8 o 2) then fX9_tries_99 L o self16 a7 b9 v3 μ8 else fX9_tries_83 L o self16 a7 v2 v3 b9 μ8))))))))))
def fX9_tries_16 (L : Nat → Nat) (o : Nat) : Nat → Int32 → Int32 → Int32 → Mem → Option (Int32 × Mem)
  | 0, _, _, _, _ => none
  | k + 1, v1, v2, v3, μ => fX9_tries_16_b L o (fX9_tries_16 L o k) v1 v2 v3 μ
def fX9_tries (L : Nat → Nat) (o : Nat) (μ : Mem) : Option (Int32 × Mem) :=
  lt' (μ o 7) (fun a11 => ast L μ (o + 15) (0 : Int32) (-1 : Int32) (fun μ12 => fX9_tries_16 L o FU (0 : Int32) a11 (0 : Int32) μ12))
-- X9_count
def fX9_count_110 (L : Nat → Nat) (o : Nat) (self83 : Int32 → Int32 → Int32 → Mem → Option (Int32 × Mem)) (v3 v4 s0 s1 : Int32) (μ : Mem) : Option (Int32 × Mem) :=
  lt' (s1 + s0) (fun a1 => lt' (v4 + 1) (fun a2 => self83 a1 v3 a2 μ))
def fX9_count_83_b (L : Nat → Nat) (o : Nat) (self72 : Int32 → Int32 → Mem → Option (Int32 × Mem)) (self83 : Int32 → Int32 → Int32 → Mem → Option (Int32 × Mem)) (v2 v3 v4 : Int32) (μ : Mem) : Option (Int32 × Mem) :=
  ald L μ (o + 2) v3 (fun a3 => (if a3 ≤ v4 then lt' (v3 + 1) (fun a4 => self72 v2 a4 μ) else bd (fX9_isShut L o v3 v4 μ) (fun b6 μ5 => (if b6 = 0 then fX9_count_110 L o self83 v3 v4 (0 : Int32) v2 μ5 else fX9_count_110 L o self83 v3 v4 (1 : Int32) v2 μ5))))
def fX9_count_83 (L : Nat → Nat) (o : Nat) (self72 : Int32 → Int32 → Mem → Option (Int32 × Mem)) : Nat → Int32 → Int32 → Int32 → Mem → Option (Int32 × Mem)
  | 0, _, _, _, _ => none
  | k + 1, v2, v3, v4, μ => fX9_count_83_b L o self72 (fX9_count_83 L o self72 k) v2 v3 v4 μ
def fX9_count_72_b (L : Nat → Nat) (o : Nat) (self72 : Int32 → Int32 → Mem → Option (Int32 × Mem)) (v2 v3 : Int32) (μ : Mem) : Option (Int32 × Mem) :=
  (if (μ o 2) ≤ v3 then some (v2, μ) else fX9_count_83 L o self72 FU v2 v3 (0 : Int32) μ)
def fX9_count_72 (L : Nat → Nat) (o : Nat) : Nat → Int32 → Int32 → Mem → Option (Int32 × Mem)
  | 0, _, _, _ => none
  | k + 1, v2, v3, μ => fX9_count_72_b L o (fX9_count_72 L o k) v2 v3 μ
def fX9_count (L : Nat → Nat) (o : Nat) (v1 : Int32) (μ : Mem) : Option (Int32 × Mem) :=
  (if v1 = (0 : Int32) then some ((μ o 2), μ) else (if v1 = (1 : Int32) then some ((μ o 4), μ) else (if v1 = (2 : Int32) then some ((μ o 7), μ) else (if v1 = (3 : Int32) then ald L μ (o + 6) (168 : Int32) (fun a7 => some (a7, μ)) else (if v1 = (4 : Int32) then fX9_count_72 L o FU (0 : Int32) (0 : Int32) μ else (if v1 = (5 : Int32) then some ((μ o 11), μ) else (if v1 = (6 : Int32) then some ((μ o 0), μ) else some ((-1 : Int32), μ))))))))

/-! constructors: links, mirrors, contracts (by wip/whole/genctor.py) -/
theorem lk_X5_9 : zLC RX5 9 3 [.int 0, .int 0, .int 0, .int 0, .int 0, .null, .null] := ⟨RX3, TX3, 7, tyX3, rfl, inlX3, tyX3_ok, zin_3 _ (List.mem_of_getElem? (i := 10) rfl), zin_2 _ (List.mem_of_getElem? (i := 9) rfl), zin_2 _ (List.mem_of_getElem? (i := 10) rfl), fun j hj => by rcases (show j = 0 ∨ j = 1 ∨ j = 2 ∨ j = 3 ∨ j = 4 ∨ j = 5 ∨ j = 6 by omega) with rfl | rfl | rfl | rfl | rfl | rfl | rfl <;> rfl, rfl⟩
theorem ni_X5_11 : zLIN RX5 11 yX3_init "RoughTables" cX3_init 1 0 := ⟨by unfold zNl; simp, zin_3 _ (List.mem_of_getElem? (i := 13) rfl), zin_2 _ (List.mem_of_getElem? (i := 10) rfl), zin_3 _ (List.mem_of_getElem? (i := 14) rfl), ⟨by decide +kernel, by decide +kernel, by decide +kernel⟩, rfl⟩
theorem lk_X4_17 : zLC RX4 17 2 [.int 0, .null, .null, .null] := ⟨RX2, TX2, 4, tyX2, rfl, inlX2, tyX2_ok, zin_2 _ (List.mem_of_getElem? (i := 18) rfl), zin_2 _ (List.mem_of_getElem? (i := 19) rfl), zin_2 _ (List.mem_of_getElem? (i := 20) rfl), fun j hj => by rcases (show j = 0 ∨ j = 1 ∨ j = 2 ∨ j = 3 by omega) with rfl | rfl | rfl | rfl <;> rfl, rfl⟩
theorem ni_X4_19 : zLIN RX4 19 yX2_init "RoughTables" cX2_init 1 0 := ⟨by unfold zNl; simp, zin_3 _ (List.mem_of_getElem? (i := 0) rfl), zin_2 _ (List.mem_of_getElem? (i := 20) rfl), zin_3 _ (List.mem_of_getElem? (i := 1) rfl), ⟨by decide +kernel, by decide +kernel, by decide +kernel⟩, rfl⟩
theorem lk_X4_9 : zLC RX4 9 5 [.null, .null, .int 0, .int 0] := ⟨RX5, TX5, 4, tyX5, rfl, inlX5, tyX5_ok, zin_2 _ (List.mem_of_getElem? (i := 16) rfl), zin_2 _ (List.mem_of_getElem? (i := 22) rfl), zin_2 _ (List.mem_of_getElem? (i := 23) rfl), fun j hj => by rcases (show j = 0 ∨ j = 1 ∨ j = 2 ∨ j = 3 by omega) with rfl | rfl | rfl | rfl <;> rfl, rfl⟩
theorem ni_X4_24 : zLIN RX4 24 yX5_init "RoughTables" cX5_init 1 0 := ⟨by unfold zNl; simp, zin_3 _ (List.mem_of_getElem? (i := 7) rfl), zin_2 _ (List.mem_of_getElem? (i := 23) rfl), zin_3 _ (List.mem_of_getElem? (i := 8) rfl), ⟨by decide +kernel, by decide +kernel, by decide +kernel⟩, rfl⟩
theorem lk_X1_9 : zLC RX1 9 4 [.null, .null, .int 0, .int 0] := ⟨RX4, TX4, 4, tyX4, rfl, inlX4, tyX4_ok, zin_3 _ (List.mem_of_getElem? (i := 22) rfl), zin_1 _ (List.mem_of_getElem? (i := 13) rfl), zin_1 _ (List.mem_of_getElem? (i := 14) rfl), fun j hj => by rcases (show j = 0 ∨ j = 1 ∨ j = 2 ∨ j = 3 by omega) with rfl | rfl | rfl | rfl <;> rfl, rfl⟩
theorem li_X1_17 : zLI RX1 17 yX4_init cX4_init 2 0 := ⟨zin_4 _ (List.mem_of_getElem? (i := 0) rfl), zin_2 _ (List.mem_of_getElem? (i := 13) rfl), zin_1 _ (List.mem_of_getElem? (i := 14) rfl), zin_2 _ (List.mem_of_getElem? (i := 14) rfl), ⟨by decide +kernel, by decide +kernel, by decide +kernel⟩, rfl⟩
theorem lk_X7_9 : zLC RX7 9 4 [.null, .null, .int 0, .int 0] := ⟨RX4, TX4, 4, tyX4, rfl, inlX4, tyX4_ok, zin_4 _ (List.mem_of_getElem? (i := 13) rfl), zin_1 _ (List.mem_of_getElem? (i := 13) rfl), zin_1 _ (List.mem_of_getElem? (i := 14) rfl), fun j hj => by rcases (show j = 0 ∨ j = 1 ∨ j = 2 ∨ j = 3 by omega) with rfl | rfl | rfl | rfl <;> rfl, rfl⟩
theorem li_X7_11 : zLI RX7 11 yX4_init cX4_init 2 0 := ⟨zin_4 _ (List.mem_of_getElem? (i := 17) rfl), zin_2 _ (List.mem_of_getElem? (i := 13) rfl), zin_1 _ (List.mem_of_getElem? (i := 14) rfl), zin_2 _ (List.mem_of_getElem? (i := 14) rfl), ⟨by decide +kernel, by decide +kernel, by decide +kernel⟩, rfl⟩
theorem lk_X7_18 : zLC RX7 18 0 [.null, .int 0, .int 0] := ⟨RX0, TX0, 3, tyX0, rfl, inlX0, tyX0_ok, zin_4 _ (List.mem_of_getElem? (i := 15) rfl), zin_2 _ (List.mem_of_getElem? (i := 1) rfl), zin_2 _ (List.mem_of_getElem? (i := 2) rfl), fun j hj => by rcases (show j = 0 ∨ j = 1 ∨ j = 2 by omega) with rfl | rfl | rfl <;> rfl, rfl⟩
theorem ni_X7_20 : zLIN RX7 20 yX0_init "RoughTables" cX0_init 1 0 := ⟨by unfold zNl; simp, zin_4 _ (List.mem_of_getElem? (i := 6) rfl), zin_2 _ (List.mem_of_getElem? (i := 2) rfl), zin_4 _ (List.mem_of_getElem? (i := 7) rfl), ⟨by decide +kernel, by decide +kernel, by decide +kernel⟩, rfl⟩
theorem lk_X8_7 : zLC RX8 7 4 [.null, .null, .int 0, .int 0] := ⟨RX4, TX4, 4, tyX4, rfl, inlX4, tyX4_ok, zin_1 _ (List.mem_of_getElem? (i := 12) rfl), zin_1 _ (List.mem_of_getElem? (i := 13) rfl), zin_1 _ (List.mem_of_getElem? (i := 14) rfl), fun j hj => by rcases (show j = 0 ∨ j = 1 ∨ j = 2 ∨ j = 3 by omega) with rfl | rfl | rfl | rfl <;> rfl, rfl⟩
theorem li_X8_9 : zLI RX8 9 yX4_init cX4_init 2 0 := ⟨zin_2 _ (List.mem_of_getElem? (i := 12) rfl), zin_2 _ (List.mem_of_getElem? (i := 13) rfl), zin_1 _ (List.mem_of_getElem? (i := 14) rfl), zin_2 _ (List.mem_of_getElem? (i := 14) rfl), ⟨by decide +kernel, by decide +kernel, by decide +kernel⟩, rfl⟩
theorem lk_X8_16 : zLC RX8 16 1 [.null, .int 0] := ⟨RX1, TX1, 2, tyX1, rfl, inlX1, tyX1_ok, zin_1 _ (List.mem_of_getElem? (i := 16) rfl), zin_1 _ (List.mem_of_getElem? (i := 17) rfl), zin_1 _ (List.mem_of_getElem? (i := 18) rfl), fun j hj => by rcases (show j = 0 ∨ j = 1 by omega) with rfl | rfl <;> rfl, rfl⟩
theorem li_X8_18 : zLI RX8 18 yX1_init cX1_init 2 0 := ⟨zin_3 _ (List.mem_of_getElem? (i := 18) rfl), zin_3 _ (List.mem_of_getElem? (i := 19) rfl), zin_1 _ (List.mem_of_getElem? (i := 18) rfl), zin_3 _ (List.mem_of_getElem? (i := 20) rfl), ⟨by decide +kernel, by decide +kernel, by decide +kernel⟩, rfl⟩
theorem lk_X8_23 : zLC RX8 23 6 [.null, .int 0] := ⟨RX6, TX6, 2, tyX6, rfl, inlX6, tyX6_ok, zin_1 _ (List.mem_of_getElem? (i := 20) rfl), zin_1 _ (List.mem_of_getElem? (i := 21) rfl), zin_1 _ (List.mem_of_getElem? (i := 22) rfl), fun j hj => by rcases (show j = 0 ∨ j = 1 by omega) with rfl | rfl <;> rfl, rfl⟩
theorem ni_X8_25 : zLIN RX8 25 yX6_init "RoughTables" cX6_init 1 0 := ⟨by unfold zNl; simp, zin_4 _ (List.mem_of_getElem? (i := 1) rfl), zin_1 _ (List.mem_of_getElem? (i := 22) rfl), zin_4 _ (List.mem_of_getElem? (i := 2) rfl), ⟨by decide +kernel, by decide +kernel, by decide +kernel⟩, rfl⟩
theorem lk_X8_30 : zLC RX8 30 0 [.null, .int 0, .int 0] := ⟨RX0, TX0, 3, tyX0, rfl, inlX0, tyX0_ok, zin_2 _ (List.mem_of_getElem? (i := 0) rfl), zin_2 _ (List.mem_of_getElem? (i := 1) rfl), zin_2 _ (List.mem_of_getElem? (i := 2) rfl), fun j hj => by rcases (show j = 0 ∨ j = 1 ∨ j = 2 by omega) with rfl | rfl | rfl <;> rfl, rfl⟩
theorem ni_X8_32 : zLIN RX8 32 yX0_init "RoughTables" cX0_init 1 0 := ⟨by unfold zNl; simp, zin_4 _ (List.mem_of_getElem? (i := 6) rfl), zin_2 _ (List.mem_of_getElem? (i := 2) rfl), zin_4 _ (List.mem_of_getElem? (i := 7) rfl), ⟨by decide +kernel, by decide +kernel, by decide +kernel⟩, rfl⟩
theorem lk_X8_37 : zLC RX8 37 7 [.null, .null, .int 0, .int 0, .int 0, .int 0] := ⟨RX7, TX7, 6, tyX7, rfl, inlX7, tyX7_ok, zin_2 _ (List.mem_of_getElem? (i := 4) rfl), zin_2 _ (List.mem_of_getElem? (i := 5) rfl), zin_2 _ (List.mem_of_getElem? (i := 6) rfl), fun j hj => by rcases (show j = 0 ∨ j = 1 ∨ j = 2 ∨ j = 3 ∨ j = 4 ∨ j = 5 by omega) with rfl | rfl | rfl | rfl | rfl | rfl <;> rfl, rfl⟩
theorem ni_X8_39 : zLIN RX8 39 yX7_init "RoughTables" cX7_init 1 0 := ⟨by unfold zNl; simp, zin_4 _ (List.mem_of_getElem? (i := 10) rfl), zin_2 _ (List.mem_of_getElem? (i := 6) rfl), zin_4 _ (List.mem_of_getElem? (i := 11) rfl), ⟨by decide +kernel, by decide +kernel, by decide +kernel⟩, rfl⟩
theorem lk_X8_44 : zLC RX8 44 3 [.int 0, .int 0, .int 0, .int 0, .int 0, .null, .null] := ⟨RX3, TX3, 7, tyX3, rfl, inlX3, tyX3_ok, zin_2 _ (List.mem_of_getElem? (i := 8) rfl), zin_2 _ (List.mem_of_getElem? (i := 9) rfl), zin_2 _ (List.mem_of_getElem? (i := 10) rfl), fun j hj => by rcases (show j = 0 ∨ j = 1 ∨ j = 2 ∨ j = 3 ∨ j = 4 ∨ j = 5 ∨ j = 6 by omega) with rfl | rfl | rfl | rfl | rfl | rfl | rfl <;> rfl, rfl⟩
theorem ni_X8_46 : zLIN RX8 46 yX3_init "RoughTables" cX3_init 1 0 := ⟨by unfold zNl; simp, zin_3 _ (List.mem_of_getElem? (i := 13) rfl), zin_2 _ (List.mem_of_getElem? (i := 10) rfl), zin_3 _ (List.mem_of_getElem? (i := 14) rfl), ⟨by decide +kernel, by decide +kernel, by decide +kernel⟩, rfl⟩
def m_X0_init (N : Nat) (σ : zS) (n : Nat) (v0 : Nat) : Option (zS × Nat) := b2 (nAI 1 σ n 4) fun σ1 n2 => (sA σ1 0 0 v0 n).bind fun σ4 => some (σ4, n2)
def m_X2_init (N : Nat) (σ : zS) (n : Nat) (v0 : Nat) : Option (zS × Nat) := b2 (nAI 1 σ n 8) fun σ1 n2 => (sA σ1 2 1 v0 n).bind fun σ4 => b2 (nAI 1 σ4 n2 8) fun σ6 n7 => (sA σ6 2 2 v0 n2).bind fun σ9 => b2 (nAI 1 σ9 n7 8) fun σ11 n12 => (sA σ11 2 3 v0 n7).bind fun σ14 => some (σ14, n12)
def m_X3_init (N : Nat) (σ : zS) (n : Nat) (v0 : Nat) : Option (zS × Nat) := b2 (nAI 1 σ n 8) fun σ1 n2 => (sA σ1 3 5 v0 n).bind fun σ4 => b2 (nAI 1 σ4 n2 8) fun σ6 n7 => (sA σ6 3 6 v0 n2).bind fun σ9 => some (σ9, n7)
def m_X5_init (N : Nat) (σ : zS) (n : Nat) (v0 : Nat) : Option (zS × Nat) := b2 (nO σ n 3 [.int 0, .int 0, .int 0, .int 0, .int 0, .null, .null]) fun σ1 n2 => b2 (m_X3_init N σ1 n2 n) fun σ4 n5 => (sA σ4 5 0 v0 n).bind fun σ7 => b2 (nAI 1 σ7 n5 1000) fun σ9 n10 => (sA σ9 5 1 v0 n5).bind fun σ12 => some (σ12, n10)
def m_X4_init (N : Nat) (σ : zS) (n : Nat) (v0 : Nat) : Option (zS × Nat) := b2 (nAA 3 σ n 6) fun σ1 n2 => (sA σ1 4 0 v0 n).bind fun σ4 => b2 (nO σ4 n2 2 [.int 0, .null, .null, .null]) fun σ6 n7 => b2 (m_X2_init N σ6 n7 n2) fun σ9 n10 => (sA σ9 4 1 v0 n2).bind fun σ12 => (gA σ12 4 0 v0).bind fun a14 => b2 (nO σ12 n10 5 [.null, .null, .int 0, .int 0]) fun σ16 n17 => b2 (m_X5_init N σ16 n17 n10) fun σ19 n20 => (uA 3 5 σ19 a14 0 n10).bind fun σ22 => (gA σ22 4 0 v0).bind fun a24 => b2 (nO σ22 n20 5 [.null, .null, .int 0, .int 0]) fun σ26 n27 => b2 (m_X5_init N σ26 n27 n20) fun σ29 n30 => (uA 3 5 σ29 a24 1 n20).bind fun σ32 => (gA σ32 4 0 v0).bind fun a34 => b2 (nO σ32 n30 5 [.null, .null, .int 0, .int 0]) fun σ36 n37 => b2 (m_X5_init N σ36 n37 n30) fun σ39 n40 => (uA 3 5 σ39 a34 2 n30).bind fun σ42 => (gA σ42 4 0 v0).bind fun a44 => b2 (nO σ42 n40 5 [.null, .null, .int 0, .int 0]) fun σ46 n47 => b2 (m_X5_init N σ46 n47 n40) fun σ49 n50 => (uA 3 5 σ49 a44 3 n40).bind fun σ52 => (gA σ52 4 0 v0).bind fun a54 => b2 (nO σ52 n50 5 [.null, .null, .int 0, .int 0]) fun σ56 n57 => b2 (m_X5_init N σ56 n57 n50) fun σ59 n60 => (uA 3 5 σ59 a54 4 n50).bind fun σ62 => (gA σ62 4 0 v0).bind fun a64 => b2 (nO σ62 n60 5 [.null, .null, .int 0, .int 0]) fun σ66 n67 => b2 (m_X5_init N σ66 n67 n60) fun σ69 n70 => (uA 3 5 σ69 a64 5 n60).bind fun σ72 => some (σ72, n70)
def m_X1_init (N : Nat) (σ : zS) (n : Nat) (v0 : Nat) : Option (zS × Nat) := b2 (nAA 2 σ n 4) fun σ1 n2 => (sA σ1 1 0 v0 n).bind fun σ4 => (gA σ4 1 0 v0).bind fun a6 => b2 (nO σ4 n2 4 [.null, .null, .int 0, .int 0]) fun σ8 n9 => b2 (m_X4_init N σ8 n9 n2) fun σ11 n12 => (uA 2 4 σ11 a6 0 n2).bind fun σ14 => (gA σ14 1 0 v0).bind fun a16 => b2 (nO σ14 n12 4 [.null, .null, .int 0, .int 0]) fun σ18 n19 => b2 (m_X4_init N σ18 n19 n12) fun σ21 n22 => (uA 2 4 σ21 a16 1 n12).bind fun σ24 => (gA σ24 1 0 v0).bind fun a26 => b2 (nO σ24 n22 4 [.null, .null, .int 0, .int 0]) fun σ28 n29 => b2 (m_X4_init N σ28 n29 n22) fun σ31 n32 => (uA 2 4 σ31 a26 2 n22).bind fun σ34 => (gA σ34 1 0 v0).bind fun a36 => b2 (nO σ34 n32 4 [.null, .null, .int 0, .int 0]) fun σ38 n39 => b2 (m_X4_init N σ38 n39 n32) fun σ41 n42 => (uA 2 4 σ41 a36 3 n32).bind fun σ44 => some (σ44, n42)
def m_X6_init (N : Nat) (σ : zS) (n : Nat) (v0 : Nat) : Option (zS × Nat) := b2 (nAI 0 σ n 80) fun σ1 n2 => (sA σ1 6 0 v0 n).bind fun σ4 => some (σ4, n2)
def m_X7_init (N : Nat) (σ : zS) (n : Nat) (v0 : Nat) : Option (zS × Nat) := b2 (nO σ n 4 [.null, .null, .int 0, .int 0]) fun σ1 n2 => b2 (m_X4_init N σ1 n2 n) fun σ4 n5 => (sA σ4 7 0 v0 n).bind fun σ7 => b2 (nO σ7 n5 0 [.null, .int 0, .int 0]) fun σ9 n10 => b2 (m_X0_init N σ9 n10 n5) fun σ12 n13 => (sA σ12 7 1 v0 n5).bind fun σ15 => some (σ15, n13)
def m_X8_init (N : Nat) (σ : zS) (n : Nat) (v0 : Nat) : Option (zS × Nat) := b2 (nO σ n 4 [.null, .null, .int 0, .int 0]) fun σ1 n2 => b2 (m_X4_init N σ1 n2 n) fun σ4 n5 => (sA σ4 8 0 v0 n).bind fun σ7 => b2 (nO σ7 n5 1 [.null, .int 0]) fun σ9 n10 => b2 (m_X1_init N σ9 n10 n5) fun σ12 n13 => (sA σ12 8 1 v0 n5).bind fun σ15 => b2 (nO σ15 n13 6 [.null, .int 0]) fun σ17 n18 => b2 (m_X6_init N σ17 n18 n13) fun σ20 n21 => (sA σ20 8 2 v0 n13).bind fun σ23 => b2 (nO σ23 n21 0 [.null, .int 0, .int 0]) fun σ25 n26 => b2 (m_X0_init N σ25 n26 n21) fun σ28 n29 => (sA σ28 8 3 v0 n21).bind fun σ31 => b2 (nO σ31 n29 7 [.null, .null, .int 0, .int 0, .int 0, .int 0]) fun σ33 n34 => b2 (m_X7_init N σ33 n34 n29) fun σ36 n37 => (sA σ36 8 4 v0 n29).bind fun σ39 => b2 (nO σ39 n37 3 [.int 0, .int 0, .int 0, .int 0, .int 0, .null, .null]) fun σ41 n42 => b2 (m_X3_init N σ41 n42 n37) fun σ44 n45 => (sA σ44 8 5 v0 n37).bind fun σ47 => some (σ47, n45)
def m_X9_init (N : Nat) (σ : zS) (n : Nat) (v0 : Nat) : Option (zS × Nat) := b2 (nAI 1 σ n 6165) fun σ1 n2 => (sA σ1 9 0 v0 n).bind fun σ4 => b2 (nAI 1 σ4 n2 6165) fun σ6 n7 => (sA σ6 9 1 v0 n2).bind fun σ9 => b2 (nAI 1 σ9 n7 6165) fun σ11 n12 => (sA σ11 9 2 v0 n7).bind fun σ14 => b2 (nAI 1 σ14 n12 6165) fun σ16 n17 => (sA σ16 9 3 v0 n12).bind fun σ19 => b2 (nAI 1 σ19 n17 6165) fun σ21 n22 => (sA σ21 9 4 v0 n17).bind fun σ24 => b2 (nAI 1 σ24 n22 6165) fun σ26 n27 => (sA σ26 9 5 v0 n22).bind fun σ29 => b2 (nAI 1 σ29 n27 23) fun σ31 n32 => (sA σ31 9 8 v0 n27).bind fun σ34 => b2 (nAI 1 σ34 n32 80) fun σ36 n37 => (sA σ36 9 9 v0 n32).bind fun σ39 => some (σ39, n37)
set_option maxHeartbeats 4000000 in
set_option maxRecDepth 100000 in
theorem b_X0_init {l : Launch} {D : va_G} {ca : Nat → ClassId} {A : Nat → Prop} {N : Nat} {σ : zS} {n v0 : Nat} {σ' : zS} {n' : Nat} (hm : m_X0_init N σ n v0 = some (σ', n')) : Met l yX0_init (.code yX0_init cX0_init 1 none :: wsL_law) ({ frames := 1, cells := 1, slots := 4, locals := 20 } : Room) (va_Pc [.ref v0] (zPn D ca A σ n)) (zQn D ca A σ' n') 1 4 A := by
  refine zMkN (by decide +kernel) (Nat.le_of_ble_eq_true rfl) ?_
  intro p e s m below meth c C0 hr hlocks hin hW hz ls hl
  have hx := C0.1
  have hb := C0.2.1
  have hS : va_S A s.heap s.heap [] := va_S.rf
  have hl : lv_has ls 1 [(0, .ref v0)] := hl
  unfold m_X0_init at hm
  refine lv_aload_n hx hb dX0_init_0 rfl (lv_at hl 0 rfl) ?_
  refine r_objInit C0 (zin_4 _ (List.mem_of_getElem? (i := 8) rfl)) (zin_1 _ (List.mem_of_getElem? (i := 10) rfl)) (zin_1 _ (List.mem_of_getElem? (i := 11) rfl)) hl.1 dX0_init_1 (Nat.le_of_ble_eq_true rfl) (Nat.le_of_ble_eq_true rfl) ?_
  refine lv_aload_n hx hb dX0_init_4 rfl (lv_at hl 0 rfl) ?_
  refine lv_iconst (v := 4) hx hb dX0_init_5 (by decide) ?_
  replace hm := o2 hm; obtain ⟨σ1, n2, e3, hm⟩ := hm
  refine r_newI C0 (zin_3 _ (List.mem_of_getElem? (i := 3) rfl)) hW hS hz e3 (Nat.le_of_ble_eq_true rfl) (Nat.le_of_ble_eq_true rfl) dX0_init_6 (fun H hW hS hz => ?_)
  replace hm := ob hm; obtain ⟨σ4, e5, hm⟩ := hm
  refine r_putAn C0 hin (fun C T N h => by cases h; rfl) hW hS fl_X0_7 rfl rfl hz e5 dX0_init_8 (fun H locs hW hS hz => ?_)
  obtain ⟨hq1, hq2⟩ := Prod.mk.inj (Option.some.inj hm); subst hq1; subst hq2
  exact r_vretn C0 hr hlocks hW hS hz (Nat.le_of_ble_eq_true rfl) (Nat.le_of_ble_eq_true rfl) dX0_init_11
set_option maxHeartbeats 4000000 in
set_option maxRecDepth 100000 in
theorem b_X2_init {l : Launch} {D : va_G} {ca : Nat → ClassId} {A : Nat → Prop} {N : Nat} {σ : zS} {n v0 : Nat} {σ' : zS} {n' : Nat} (hm : m_X2_init N σ n v0 = some (σ', n')) : Met l yX2_init (.code yX2_init cX2_init 1 none :: wsL_law) ({ frames := 1, cells := 3, slots := 24, locals := 20 } : Room) (va_Pc [.ref v0] (zPn D ca A σ n)) (zQn D ca A σ' n') 3 24 A := by
  refine zMkN (by decide +kernel) (Nat.le_of_ble_eq_true rfl) ?_
  intro p e s m below meth c C0 hr hlocks hin hW hz ls hl
  have hx := C0.1
  have hb := C0.2.1
  have hS : va_S A s.heap s.heap [] := va_S.rf
  have hl : lv_has ls 1 [(0, .ref v0)] := hl
  unfold m_X2_init at hm
  refine lv_aload_n hx hb dX2_init_0 rfl (lv_at hl 0 rfl) ?_
  refine r_objInit C0 (zin_3 _ (List.mem_of_getElem? (i := 2) rfl)) (zin_1 _ (List.mem_of_getElem? (i := 10) rfl)) (zin_1 _ (List.mem_of_getElem? (i := 11) rfl)) hl.1 dX2_init_1 (Nat.le_of_ble_eq_true rfl) (Nat.le_of_ble_eq_true rfl) ?_
  refine lv_aload_n hx hb dX2_init_4 rfl (lv_at hl 0 rfl) ?_
  refine lv_bipush (v := 8) hx hb dX2_init_5 (by decide) ?_
  replace hm := o2 hm; obtain ⟨σ1, n2, e3, hm⟩ := hm
  refine r_newI C0 (zin_3 _ (List.mem_of_getElem? (i := 3) rfl)) hW hS hz e3 (Nat.le_of_ble_eq_true rfl) (Nat.le_of_ble_eq_true rfl) dX2_init_7 (fun H hW hS hz => ?_)
  replace hm := ob hm; obtain ⟨σ4, e5, hm⟩ := hm
  refine r_putAn C0 hin (fun C T N h => by cases h; rfl) hW hS fl_X2_9 rfl rfl hz e5 dX2_init_9 (fun H locs hW hS hz => ?_)
  refine lv_aload_n hx hb dX2_init_12 rfl (lv_at hl 0 rfl) ?_
  refine lv_bipush (v := 8) hx hb dX2_init_13 (by decide) ?_
  replace hm := o2 hm; obtain ⟨σ6, n7, e8, hm⟩ := hm
  refine r_newI C0 (zin_3 _ (List.mem_of_getElem? (i := 3) rfl)) hW hS hz e8 (Nat.le_of_ble_eq_true rfl) (Nat.le_of_ble_eq_true rfl) dX2_init_15 (fun H hW hS hz => ?_)
  replace hm := ob hm; obtain ⟨σ9, e10, hm⟩ := hm
  refine r_putAn C0 hin (fun C T N h => by cases h; rfl) hW hS fl_X2_15 rfl rfl hz e10 dX2_init_17 (fun H locs hW hS hz => ?_)
  refine lv_aload_n hx hb dX2_init_20 rfl (lv_at hl 0 rfl) ?_
  refine lv_bipush (v := 8) hx hb dX2_init_21 (by decide) ?_
  replace hm := o2 hm; obtain ⟨σ11, n12, e13, hm⟩ := hm
  refine r_newI C0 (zin_3 _ (List.mem_of_getElem? (i := 3) rfl)) hW hS hz e13 (Nat.le_of_ble_eq_true rfl) (Nat.le_of_ble_eq_true rfl) dX2_init_23 (fun H hW hS hz => ?_)
  replace hm := ob hm; obtain ⟨σ14, e15, hm⟩ := hm
  refine r_putAn C0 hin (fun C T N h => by cases h; rfl) hW hS fl_X2_18 rfl rfl hz e15 dX2_init_25 (fun H locs hW hS hz => ?_)
  obtain ⟨hq1, hq2⟩ := Prod.mk.inj (Option.some.inj hm); subst hq1; subst hq2
  exact r_vretn C0 hr hlocks hW hS hz (Nat.le_of_ble_eq_true rfl) (Nat.le_of_ble_eq_true rfl) dX2_init_28
set_option maxHeartbeats 4000000 in
set_option maxRecDepth 100000 in
theorem b_X3_init {l : Launch} {D : va_G} {ca : Nat → ClassId} {A : Nat → Prop} {N : Nat} {σ : zS} {n v0 : Nat} {σ' : zS} {n' : Nat} (hm : m_X3_init N σ n v0 = some (σ', n')) : Met l yX3_init (.code yX3_init cX3_init 1 none :: wsL_law) ({ frames := 1, cells := 2, slots := 16, locals := 20 } : Room) (va_Pc [.ref v0] (zPn D ca A σ n)) (zQn D ca A σ' n') 2 16 A := by
  refine zMkN (by decide +kernel) (Nat.le_of_ble_eq_true rfl) ?_
  intro p e s m below meth c C0 hr hlocks hin hW hz ls hl
  have hx := C0.1
  have hb := C0.2.1
  have hS : va_S A s.heap s.heap [] := va_S.rf
  have hl : lv_has ls 1 [(0, .ref v0)] := hl
  unfold m_X3_init at hm
  refine lv_aload_n hx hb dX3_init_0 rfl (lv_at hl 0 rfl) ?_
  refine r_objInit C0 (zin_3 _ (List.mem_of_getElem? (i := 15) rfl)) (zin_1 _ (List.mem_of_getElem? (i := 10) rfl)) (zin_1 _ (List.mem_of_getElem? (i := 11) rfl)) hl.1 dX3_init_1 (Nat.le_of_ble_eq_true rfl) (Nat.le_of_ble_eq_true rfl) ?_
  refine lv_aload_n hx hb dX3_init_4 rfl (lv_at hl 0 rfl) ?_
  refine lv_bipush (v := 8) hx hb dX3_init_5 (by decide) ?_
  replace hm := o2 hm; obtain ⟨σ1, n2, e3, hm⟩ := hm
  refine r_newI C0 (zin_3 _ (List.mem_of_getElem? (i := 3) rfl)) hW hS hz e3 (Nat.le_of_ble_eq_true rfl) (Nat.le_of_ble_eq_true rfl) dX3_init_7 (fun H hW hS hz => ?_)
  replace hm := ob hm; obtain ⟨σ4, e5, hm⟩ := hm
  refine r_putAn C0 hin (fun C T N h => by cases h; rfl) hW hS fl_X3_9 rfl rfl hz e5 dX3_init_9 (fun H locs hW hS hz => ?_)
  refine lv_aload_n hx hb dX3_init_12 rfl (lv_at hl 0 rfl) ?_
  refine lv_bipush (v := 8) hx hb dX3_init_13 (by decide) ?_
  replace hm := o2 hm; obtain ⟨σ6, n7, e8, hm⟩ := hm
  refine r_newI C0 (zin_3 _ (List.mem_of_getElem? (i := 3) rfl)) hW hS hz e8 (Nat.le_of_ble_eq_true rfl) (Nat.le_of_ble_eq_true rfl) dX3_init_15 (fun H hW hS hz => ?_)
  replace hm := ob hm; obtain ⟨σ9, e10, hm⟩ := hm
  refine r_putAn C0 hin (fun C T N h => by cases h; rfl) hW hS fl_X3_15 rfl rfl hz e10 dX3_init_17 (fun H locs hW hS hz => ?_)
  obtain ⟨hq1, hq2⟩ := Prod.mk.inj (Option.some.inj hm); subst hq1; subst hq2
  exact r_vretn C0 hr hlocks hW hS hz (Nat.le_of_ble_eq_true rfl) (Nat.le_of_ble_eq_true rfl) dX3_init_20
set_option maxHeartbeats 4000000 in
set_option maxRecDepth 100000 in
theorem b_X5_init {l : Launch} {D : va_G} {ca : Nat → ClassId} {A : Nat → Prop} {N : Nat} {σ : zS} {n v0 : Nat} {σ' : zS} {n' : Nat} (hm : m_X5_init N σ n v0 = some (σ', n')) : Met l yX5_init (.code yX5_init cX5_init 1 none :: wsL_law) ({ frames := 2, cells := 4, slots := 1023, locals := 40 } : Room) (va_Pc [.ref v0] (zPn D ca A σ n)) (zQn D ca A σ' n') 4 1023 A := by
  refine zMkN (by decide +kernel) (Nat.le_of_ble_eq_true rfl) ?_
  intro p e s m below meth c C0 hr hlocks hin hW hz ls hl
  have hx := C0.1
  have hb := C0.2.1
  have hS : va_S A s.heap s.heap [] := va_S.rf
  have hl : lv_has ls 1 [(0, .ref v0)] := hl
  unfold m_X5_init at hm
  refine lv_aload_n hx hb dX5_init_0 rfl (lv_at hl 0 rfl) ?_
  refine r_objInit C0 (zin_3 _ (List.mem_of_getElem? (i := 9) rfl)) (zin_1 _ (List.mem_of_getElem? (i := 10) rfl)) (zin_1 _ (List.mem_of_getElem? (i := 11) rfl)) hl.1 dX5_init_1 (Nat.le_of_ble_eq_true rfl) (Nat.le_of_ble_eq_true rfl) ?_
  refine lv_aload_n hx hb dX5_init_4 rfl (lv_at hl 0 rfl) ?_
  replace hm := o2 hm; obtain ⟨σ1, n2, e3, hm⟩ := hm
  refine r_new (fs := [.int 0, .int 0, .int 0, .int 0, .int 0, .null, .null]) C0 lk_X5_9 hW hS hz e3 (Nat.le_of_ble_eq_true rfl) (Nat.le_of_ble_eq_true rfl) dX5_init_5 (fun H hW hS hz => ?_)
  refine lv_dup hx hb dX5_init_8 rfl ?_
  replace hm := o2 hm; obtain ⟨σ4, n5, e6, hm⟩ := hm
  refine z_calln (z_runIN (As := []) (rest := [.ref n, .ref v0]) C0 ni_X5_11 (b_X3_init e6) hW hS hz rfl hl.1 rfl (Nat.le_of_ble_eq_true rfl) dX5_init_9 rfl rfl ⟨(Nat.le_of_ble_eq_true rfl), (Nat.le_of_ble_eq_true rfl)⟩ ⟨(Nat.le_of_ble_eq_true rfl), (Nat.le_of_ble_eq_true rfl)⟩) hS (fun H locs hW hS hz => ?_)
  replace hm := ob hm; obtain ⟨σ7, e8, hm⟩ := hm
  refine r_putAn C0 hin (fun C T N h => by cases h; rfl) hW hS fl_X5_12 rfl rfl hz e8 dX5_init_12 (fun H locs hW hS hz => ?_)
  refine lv_aload_n hx hb dX5_init_15 rfl (lv_at hl 0 rfl) ?_
  refine lv_sipush (v := 1000) hx hb dX5_init_16 (by decide) ?_
  replace hm := o2 hm; obtain ⟨σ9, n10, e11, hm⟩ := hm
  refine r_newI C0 (zin_3 _ (List.mem_of_getElem? (i := 3) rfl)) hW hS hz e11 (Nat.le_of_ble_eq_true rfl) (Nat.le_of_ble_eq_true rfl) dX5_init_19 (fun H hW hS hz => ?_)
  replace hm := ob hm; obtain ⟨σ12, e13, hm⟩ := hm
  refine r_putAn C0 hin (fun C T N h => by cases h; rfl) hW hS fl_X5_18 rfl rfl hz e13 dX5_init_21 (fun H locs hW hS hz => ?_)
  obtain ⟨hq1, hq2⟩ := Prod.mk.inj (Option.some.inj hm); subst hq1; subst hq2
  exact r_vretn C0 hr hlocks hW hS hz (Nat.le_of_ble_eq_true rfl) (Nat.le_of_ble_eq_true rfl) dX5_init_24
set_option maxHeartbeats 4000000 in
set_option maxRecDepth 100000 in
theorem b_X4_init {l : Launch} {D : va_G} {ca : Nat → ClassId} {A : Nat → Prop} {N : Nat} {σ : zS} {n v0 : Nat} {σ' : zS} {n' : Nat} (hm : m_X4_init N σ n v0 = some (σ', n')) : Met l yX4_init (.code yX4_init cX4_init 2 none :: wsL_law) ({ frames := 3, cells := 35, slots := 6196, locals := 60 } : Room) (va_Pc [.ref v0] (zPn D ca A σ n)) (zQn D ca A σ' n') 35 6196 A := by
  refine zMkN (by decide +kernel) (Nat.le_of_ble_eq_true rfl) ?_
  intro p e s m below meth c C0 hr hlocks hin hW hz ls hl
  have hx := C0.1
  have hb := C0.2.1
  have hS : va_S A s.heap s.heap [] := va_S.rf
  have hl : lv_has ls 2 [(0, .ref v0)] := hl
  unfold m_X4_init at hm
  refine lv_aload_n hx hb dX4_init_0 rfl (lv_at hl 0 rfl) ?_
  refine r_objInit C0 (zin_2 _ (List.mem_of_getElem? (i := 15) rfl)) (zin_1 _ (List.mem_of_getElem? (i := 10) rfl)) (zin_1 _ (List.mem_of_getElem? (i := 11) rfl)) hl.1 dX4_init_1 (Nat.le_of_ble_eq_true rfl) (Nat.le_of_ble_eq_true rfl) ?_
  refine lv_aload_n hx hb dX4_init_4 rfl (lv_at hl 0 rfl) ?_
  refine lv_bipush (v := 6) hx hb dX4_init_5 (by decide) ?_
  replace hm := o2 hm; obtain ⟨σ1, n2, e3, hm⟩ := hm
  refine r_newA (C := RX5) (kd := 3) rfl (fun h => h.2.2) C0 (zin_2 _ (List.mem_of_getElem? (i := 16) rfl)) hW hS hz e3 (Nat.le_of_ble_eq_true rfl) (Nat.le_of_ble_eq_true rfl) dX4_init_7 (fun H hW hS hz => ?_)
  replace hm := ob hm; obtain ⟨σ4, e5, hm⟩ := hm
  refine r_putAn C0 hin (fun C T N h => by cases h; rfl) hW hS fl_X4_11 rfl rfl hz e5 dX4_init_10 (fun H locs hW hS hz => ?_)
  refine lv_aload_n hx hb dX4_init_13 rfl (lv_at hl 0 rfl) ?_
  replace hm := o2 hm; obtain ⟨σ6, n7, e8, hm⟩ := hm
  refine r_new (fs := [.int 0, .null, .null, .null]) C0 lk_X4_17 hW hS hz e8 (Nat.le_of_ble_eq_true rfl) (Nat.le_of_ble_eq_true rfl) dX4_init_14 (fun H hW hS hz => ?_)
  refine lv_dup hx hb dX4_init_17 rfl ?_
  replace hm := o2 hm; obtain ⟨σ9, n10, e11, hm⟩ := hm
  refine z_calln (z_runIN (As := []) (rest := [.ref n2, .ref v0]) C0 ni_X4_19 (b_X2_init e11) hW hS hz rfl hl.1 rfl (Nat.le_of_ble_eq_true rfl) dX4_init_18 rfl rfl ⟨(Nat.le_of_ble_eq_true rfl), (Nat.le_of_ble_eq_true rfl)⟩ ⟨(Nat.le_of_ble_eq_true rfl), (Nat.le_of_ble_eq_true rfl)⟩) hS (fun H locs hW hS hz => ?_)
  replace hm := ob hm; obtain ⟨σ12, e13, hm⟩ := hm
  refine r_putAn C0 hin (fun C T N h => by cases h; rfl) hW hS fl_X4_20 rfl rfl hz e13 dX4_init_21 (fun H locs hW hS hz => ?_)
  refine lv_iconst (v := 0) hx hb dX4_init_24 (by decide) ?_
  refine lv_istore_n (lv' := [(1, .int 0), (0, .ref v0)]) hx hb dX4_init_25 rfl hl (by decide) rfl (fun ls hl => ?_)
  refine lv_iload_n hx hb dX4_init_26 rfl (lv_at hl 0 rfl) ?_
  refine lv_bipush (v := 6) hx hb dX4_init_27 (by decide) ?_
  refine lv_icmp_ge (tgt := 51) hx hb dX4_init_29 (by decide) (fun h => absurd h (by decide)) (fun _ => ?_)
  refine lv_aload_n hx hb dX4_init_32 rfl (lv_at hl 1 rfl) ?_
  replace hm := ob hm; obtain ⟨a14, e15, hm⟩ := hm
  refine r_getA C0 hW fl_X4_11 e15 dX4_init_33 ?_
  refine lv_iload_n hx hb dX4_init_36 rfl (lv_at hl 0 rfl) ?_
  replace hm := o2 hm; obtain ⟨σ16, n17, e18, hm⟩ := hm
  refine r_new (fs := [.null, .null, .int 0, .int 0]) C0 lk_X4_9 hW hS hz e18 (Nat.le_of_ble_eq_true rfl) (Nat.le_of_ble_eq_true rfl) dX4_init_37 (fun H hW hS hz => ?_)
  refine lv_dup hx hb dX4_init_40 rfl ?_
  replace hm := o2 hm; obtain ⟨σ19, n20, e21, hm⟩ := hm
  refine z_calln (z_runIN (As := []) (rest := [.ref n10, .int 0, .ref a14]) C0 ni_X4_24 (b_X5_init e21) hW hS hz rfl hl.1 rfl (Nat.le_of_ble_eq_true rfl) dX4_init_41 rfl rfl ⟨(Nat.le_of_ble_eq_true rfl), (Nat.le_of_ble_eq_true rfl)⟩ ⟨(Nat.le_of_ble_eq_true rfl), (Nat.le_of_ble_eq_true rfl)⟩) hS (fun H locs hW hS hz => ?_)
  replace hm := ob hm; obtain ⟨σ22, e23, hm⟩ := hm
  refine r_uAn (kd := 3) (ci := 5) rfl rfl C0 hW hS hz e23 dX4_init_44 (fun H locs hW hS hz => ?_)
  refine lv_iinc (v := 1) (lv' := [(1, .int 1), (0, .ref v0)]) hx hb dX4_init_45 hl (k := 0) rfl (by decide) (by decide) rfl (fun ls hl => ?_)
  refine lv_goto (tgt := 26) hx hb dX4_init_48 (by decide) ?_
  refine lv_iload_n hx hb dX4_init_26 rfl (lv_at hl 0 rfl) ?_
  refine lv_bipush (v := 6) hx hb dX4_init_27 (by decide) ?_
  refine lv_icmp_ge (tgt := 51) hx hb dX4_init_29 (by decide) (fun h => absurd h (by decide)) (fun _ => ?_)
  refine lv_aload_n hx hb dX4_init_32 rfl (lv_at hl 1 rfl) ?_
  replace hm := ob hm; obtain ⟨a24, e25, hm⟩ := hm
  refine r_getA C0 hW fl_X4_11 e25 dX4_init_33 ?_
  refine lv_iload_n hx hb dX4_init_36 rfl (lv_at hl 0 rfl) ?_
  replace hm := o2 hm; obtain ⟨σ26, n27, e28, hm⟩ := hm
  refine r_new (fs := [.null, .null, .int 0, .int 0]) C0 lk_X4_9 hW hS hz e28 (Nat.le_of_ble_eq_true rfl) (Nat.le_of_ble_eq_true rfl) dX4_init_37 (fun H hW hS hz => ?_)
  refine lv_dup hx hb dX4_init_40 rfl ?_
  replace hm := o2 hm; obtain ⟨σ29, n30, e31, hm⟩ := hm
  refine z_calln (z_runIN (As := []) (rest := [.ref n20, .int 1, .ref a24]) C0 ni_X4_24 (b_X5_init e31) hW hS hz rfl hl.1 rfl (Nat.le_of_ble_eq_true rfl) dX4_init_41 rfl rfl ⟨(Nat.le_of_ble_eq_true rfl), (Nat.le_of_ble_eq_true rfl)⟩ ⟨(Nat.le_of_ble_eq_true rfl), (Nat.le_of_ble_eq_true rfl)⟩) hS (fun H locs hW hS hz => ?_)
  replace hm := ob hm; obtain ⟨σ32, e33, hm⟩ := hm
  refine r_uAn (kd := 3) (ci := 5) rfl rfl C0 hW hS hz e33 dX4_init_44 (fun H locs hW hS hz => ?_)
  refine lv_iinc (v := 2) (lv' := [(1, .int 2), (0, .ref v0)]) hx hb dX4_init_45 hl (k := 0) rfl (by decide) (by decide) rfl (fun ls hl => ?_)
  refine lv_goto (tgt := 26) hx hb dX4_init_48 (by decide) ?_
  refine lv_iload_n hx hb dX4_init_26 rfl (lv_at hl 0 rfl) ?_
  refine lv_bipush (v := 6) hx hb dX4_init_27 (by decide) ?_
  refine lv_icmp_ge (tgt := 51) hx hb dX4_init_29 (by decide) (fun h => absurd h (by decide)) (fun _ => ?_)
  refine lv_aload_n hx hb dX4_init_32 rfl (lv_at hl 1 rfl) ?_
  replace hm := ob hm; obtain ⟨a34, e35, hm⟩ := hm
  refine r_getA C0 hW fl_X4_11 e35 dX4_init_33 ?_
  refine lv_iload_n hx hb dX4_init_36 rfl (lv_at hl 0 rfl) ?_
  replace hm := o2 hm; obtain ⟨σ36, n37, e38, hm⟩ := hm
  refine r_new (fs := [.null, .null, .int 0, .int 0]) C0 lk_X4_9 hW hS hz e38 (Nat.le_of_ble_eq_true rfl) (Nat.le_of_ble_eq_true rfl) dX4_init_37 (fun H hW hS hz => ?_)
  refine lv_dup hx hb dX4_init_40 rfl ?_
  replace hm := o2 hm; obtain ⟨σ39, n40, e41, hm⟩ := hm
  refine z_calln (z_runIN (As := []) (rest := [.ref n30, .int 2, .ref a34]) C0 ni_X4_24 (b_X5_init e41) hW hS hz rfl hl.1 rfl (Nat.le_of_ble_eq_true rfl) dX4_init_41 rfl rfl ⟨(Nat.le_of_ble_eq_true rfl), (Nat.le_of_ble_eq_true rfl)⟩ ⟨(Nat.le_of_ble_eq_true rfl), (Nat.le_of_ble_eq_true rfl)⟩) hS (fun H locs hW hS hz => ?_)
  replace hm := ob hm; obtain ⟨σ42, e43, hm⟩ := hm
  refine r_uAn (kd := 3) (ci := 5) rfl rfl C0 hW hS hz e43 dX4_init_44 (fun H locs hW hS hz => ?_)
  refine lv_iinc (v := 3) (lv' := [(1, .int 3), (0, .ref v0)]) hx hb dX4_init_45 hl (k := 0) rfl (by decide) (by decide) rfl (fun ls hl => ?_)
  refine lv_goto (tgt := 26) hx hb dX4_init_48 (by decide) ?_
  refine lv_iload_n hx hb dX4_init_26 rfl (lv_at hl 0 rfl) ?_
  refine lv_bipush (v := 6) hx hb dX4_init_27 (by decide) ?_
  refine lv_icmp_ge (tgt := 51) hx hb dX4_init_29 (by decide) (fun h => absurd h (by decide)) (fun _ => ?_)
  refine lv_aload_n hx hb dX4_init_32 rfl (lv_at hl 1 rfl) ?_
  replace hm := ob hm; obtain ⟨a44, e45, hm⟩ := hm
  refine r_getA C0 hW fl_X4_11 e45 dX4_init_33 ?_
  refine lv_iload_n hx hb dX4_init_36 rfl (lv_at hl 0 rfl) ?_
  replace hm := o2 hm; obtain ⟨σ46, n47, e48, hm⟩ := hm
  refine r_new (fs := [.null, .null, .int 0, .int 0]) C0 lk_X4_9 hW hS hz e48 (Nat.le_of_ble_eq_true rfl) (Nat.le_of_ble_eq_true rfl) dX4_init_37 (fun H hW hS hz => ?_)
  refine lv_dup hx hb dX4_init_40 rfl ?_
  replace hm := o2 hm; obtain ⟨σ49, n50, e51, hm⟩ := hm
  refine z_calln (z_runIN (As := []) (rest := [.ref n40, .int 3, .ref a44]) C0 ni_X4_24 (b_X5_init e51) hW hS hz rfl hl.1 rfl (Nat.le_of_ble_eq_true rfl) dX4_init_41 rfl rfl ⟨(Nat.le_of_ble_eq_true rfl), (Nat.le_of_ble_eq_true rfl)⟩ ⟨(Nat.le_of_ble_eq_true rfl), (Nat.le_of_ble_eq_true rfl)⟩) hS (fun H locs hW hS hz => ?_)
  replace hm := ob hm; obtain ⟨σ52, e53, hm⟩ := hm
  refine r_uAn (kd := 3) (ci := 5) rfl rfl C0 hW hS hz e53 dX4_init_44 (fun H locs hW hS hz => ?_)
  refine lv_iinc (v := 4) (lv' := [(1, .int 4), (0, .ref v0)]) hx hb dX4_init_45 hl (k := 0) rfl (by decide) (by decide) rfl (fun ls hl => ?_)
  refine lv_goto (tgt := 26) hx hb dX4_init_48 (by decide) ?_
  refine lv_iload_n hx hb dX4_init_26 rfl (lv_at hl 0 rfl) ?_
  refine lv_bipush (v := 6) hx hb dX4_init_27 (by decide) ?_
  refine lv_icmp_ge (tgt := 51) hx hb dX4_init_29 (by decide) (fun h => absurd h (by decide)) (fun _ => ?_)
  refine lv_aload_n hx hb dX4_init_32 rfl (lv_at hl 1 rfl) ?_
  replace hm := ob hm; obtain ⟨a54, e55, hm⟩ := hm
  refine r_getA C0 hW fl_X4_11 e55 dX4_init_33 ?_
  refine lv_iload_n hx hb dX4_init_36 rfl (lv_at hl 0 rfl) ?_
  replace hm := o2 hm; obtain ⟨σ56, n57, e58, hm⟩ := hm
  refine r_new (fs := [.null, .null, .int 0, .int 0]) C0 lk_X4_9 hW hS hz e58 (Nat.le_of_ble_eq_true rfl) (Nat.le_of_ble_eq_true rfl) dX4_init_37 (fun H hW hS hz => ?_)
  refine lv_dup hx hb dX4_init_40 rfl ?_
  replace hm := o2 hm; obtain ⟨σ59, n60, e61, hm⟩ := hm
  refine z_calln (z_runIN (As := []) (rest := [.ref n50, .int 4, .ref a54]) C0 ni_X4_24 (b_X5_init e61) hW hS hz rfl hl.1 rfl (Nat.le_of_ble_eq_true rfl) dX4_init_41 rfl rfl ⟨(Nat.le_of_ble_eq_true rfl), (Nat.le_of_ble_eq_true rfl)⟩ ⟨(Nat.le_of_ble_eq_true rfl), (Nat.le_of_ble_eq_true rfl)⟩) hS (fun H locs hW hS hz => ?_)
  replace hm := ob hm; obtain ⟨σ62, e63, hm⟩ := hm
  refine r_uAn (kd := 3) (ci := 5) rfl rfl C0 hW hS hz e63 dX4_init_44 (fun H locs hW hS hz => ?_)
  refine lv_iinc (v := 5) (lv' := [(1, .int 5), (0, .ref v0)]) hx hb dX4_init_45 hl (k := 0) rfl (by decide) (by decide) rfl (fun ls hl => ?_)
  refine lv_goto (tgt := 26) hx hb dX4_init_48 (by decide) ?_
  refine lv_iload_n hx hb dX4_init_26 rfl (lv_at hl 0 rfl) ?_
  refine lv_bipush (v := 6) hx hb dX4_init_27 (by decide) ?_
  refine lv_icmp_ge (tgt := 51) hx hb dX4_init_29 (by decide) (fun h => absurd h (by decide)) (fun _ => ?_)
  refine lv_aload_n hx hb dX4_init_32 rfl (lv_at hl 1 rfl) ?_
  replace hm := ob hm; obtain ⟨a64, e65, hm⟩ := hm
  refine r_getA C0 hW fl_X4_11 e65 dX4_init_33 ?_
  refine lv_iload_n hx hb dX4_init_36 rfl (lv_at hl 0 rfl) ?_
  replace hm := o2 hm; obtain ⟨σ66, n67, e68, hm⟩ := hm
  refine r_new (fs := [.null, .null, .int 0, .int 0]) C0 lk_X4_9 hW hS hz e68 (Nat.le_of_ble_eq_true rfl) (Nat.le_of_ble_eq_true rfl) dX4_init_37 (fun H hW hS hz => ?_)
  refine lv_dup hx hb dX4_init_40 rfl ?_
  replace hm := o2 hm; obtain ⟨σ69, n70, e71, hm⟩ := hm
  refine z_calln (z_runIN (As := []) (rest := [.ref n60, .int 5, .ref a64]) C0 ni_X4_24 (b_X5_init e71) hW hS hz rfl hl.1 rfl (Nat.le_of_ble_eq_true rfl) dX4_init_41 rfl rfl ⟨(Nat.le_of_ble_eq_true rfl), (Nat.le_of_ble_eq_true rfl)⟩ ⟨(Nat.le_of_ble_eq_true rfl), (Nat.le_of_ble_eq_true rfl)⟩) hS (fun H locs hW hS hz => ?_)
  replace hm := ob hm; obtain ⟨σ72, e73, hm⟩ := hm
  refine r_uAn (kd := 3) (ci := 5) rfl rfl C0 hW hS hz e73 dX4_init_44 (fun H locs hW hS hz => ?_)
  refine lv_iinc (v := 6) (lv' := [(1, .int 6), (0, .ref v0)]) hx hb dX4_init_45 hl (k := 0) rfl (by decide) (by decide) rfl (fun ls hl => ?_)
  refine lv_goto (tgt := 26) hx hb dX4_init_48 (by decide) ?_
  refine lv_iload_n hx hb dX4_init_26 rfl (lv_at hl 0 rfl) ?_
  refine lv_bipush (v := 6) hx hb dX4_init_27 (by decide) ?_
  refine lv_icmp_ge (tgt := 51) hx hb dX4_init_29 (by decide) (fun _ => ?_) (fun h => absurd (by decide) h)
  obtain ⟨hq1, hq2⟩ := Prod.mk.inj (Option.some.inj hm); subst hq1; subst hq2
  exact r_vretn C0 hr hlocks hW hS hz (Nat.le_of_ble_eq_true rfl) (Nat.le_of_ble_eq_true rfl) dX4_init_51
set_option maxHeartbeats 4000000 in
set_option maxRecDepth 100000 in
theorem b_X1_init {l : Launch} {D : va_G} {ca : Nat → ClassId} {A : Nat → Prop} {N : Nat} {σ : zS} {n v0 : Nat} {σ' : zS} {n' : Nat} (hm : m_X1_init N σ n v0 = some (σ', n')) : Met l yX1_init (.code yX1_init cX1_init 2 none :: wsL_law) ({ frames := 4, cells := 145, slots := 24804, locals := 81 } : Room) (va_Pc [.ref v0] (zPn D ca A σ n)) (zQn D ca A σ' n') 145 24804 A := by
  refine zMkN (by decide +kernel) (Nat.le_of_ble_eq_true rfl) ?_
  intro p e s m below meth c C0 hr hlocks hin hW hz ls hl
  have hx := C0.1
  have hb := C0.2.1
  have hS : va_S A s.heap s.heap [] := va_S.rf
  have hl : lv_has ls 2 [(0, .ref v0)] := hl
  unfold m_X1_init at hm
  refine lv_aload_n hx hb dX1_init_0 rfl (lv_at hl 0 rfl) ?_
  refine r_objInit C0 (zin_3 _ (List.mem_of_getElem? (i := 21) rfl)) (zin_1 _ (List.mem_of_getElem? (i := 10) rfl)) (zin_1 _ (List.mem_of_getElem? (i := 11) rfl)) hl.1 dX1_init_1 (Nat.le_of_ble_eq_true rfl) (Nat.le_of_ble_eq_true rfl) ?_
  refine lv_aload_n hx hb dX1_init_4 rfl (lv_at hl 0 rfl) ?_
  refine lv_iconst (v := 4) hx hb dX1_init_5 (by decide) ?_
  replace hm := o2 hm; obtain ⟨σ1, n2, e3, hm⟩ := hm
  refine r_newA (C := RX4) (kd := 2) rfl (fun h => h.2.1) C0 (zin_3 _ (List.mem_of_getElem? (i := 22) rfl)) hW hS hz e3 (Nat.le_of_ble_eq_true rfl) (Nat.le_of_ble_eq_true rfl) dX1_init_6 (fun H hW hS hz => ?_)
  replace hm := ob hm; obtain ⟨σ4, e5, hm⟩ := hm
  refine r_putAn C0 hin (fun C T N h => by cases h; rfl) hW hS fl_X1_11 rfl rfl hz e5 dX1_init_9 (fun H locs hW hS hz => ?_)
  refine lv_iconst (v := 0) hx hb dX1_init_12 (by decide) ?_
  refine lv_istore_n (lv' := [(1, .int 0), (0, .ref v0)]) hx hb dX1_init_13 rfl hl (by decide) rfl (fun ls hl => ?_)
  refine lv_iload_n hx hb dX1_init_14 rfl (lv_at hl 0 rfl) ?_
  refine lv_iconst (v := 4) hx hb dX1_init_15 (by decide) ?_
  refine lv_icmp_ge (tgt := 38) hx hb dX1_init_16 (by decide) (fun h => absurd h (by decide)) (fun _ => ?_)
  refine lv_aload_n hx hb dX1_init_19 rfl (lv_at hl 1 rfl) ?_
  replace hm := ob hm; obtain ⟨a6, e7, hm⟩ := hm
  refine r_getA C0 hW fl_X1_11 e7 dX1_init_20 ?_
  refine lv_iload_n hx hb dX1_init_23 rfl (lv_at hl 0 rfl) ?_
  replace hm := o2 hm; obtain ⟨σ8, n9, e10, hm⟩ := hm
  refine r_new (fs := [.null, .null, .int 0, .int 0]) C0 lk_X1_9 hW hS hz e10 (Nat.le_of_ble_eq_true rfl) (Nat.le_of_ble_eq_true rfl) dX1_init_24 (fun H hW hS hz => ?_)
  refine lv_dup hx hb dX1_init_27 rfl ?_
  replace hm := o2 hm; obtain ⟨σ11, n12, e13, hm⟩ := hm
  refine z_calln (z_runI (As := []) (rest := [.ref n2, .int 0, .ref a6]) C0 li_X1_17 (b_X4_init e13) hW hS hz rfl hl.1 rfl (Nat.le_of_ble_eq_true rfl) dX1_init_28 rfl rfl ⟨(Nat.le_of_ble_eq_true rfl), (Nat.le_of_ble_eq_true rfl)⟩ ⟨(Nat.le_of_ble_eq_true rfl), (Nat.le_of_ble_eq_true rfl)⟩) hS (fun H locs hW hS hz => ?_)
  replace hm := ob hm; obtain ⟨σ14, e15, hm⟩ := hm
  refine r_uAn (kd := 2) (ci := 4) rfl rfl C0 hW hS hz e15 dX1_init_31 (fun H locs hW hS hz => ?_)
  refine lv_iinc (v := 1) (lv' := [(1, .int 1), (0, .ref v0)]) hx hb dX1_init_32 hl (k := 0) rfl (by decide) (by decide) rfl (fun ls hl => ?_)
  refine lv_goto (tgt := 14) hx hb dX1_init_35 (by decide) ?_
  refine lv_iload_n hx hb dX1_init_14 rfl (lv_at hl 0 rfl) ?_
  refine lv_iconst (v := 4) hx hb dX1_init_15 (by decide) ?_
  refine lv_icmp_ge (tgt := 38) hx hb dX1_init_16 (by decide) (fun h => absurd h (by decide)) (fun _ => ?_)
  refine lv_aload_n hx hb dX1_init_19 rfl (lv_at hl 1 rfl) ?_
  replace hm := ob hm; obtain ⟨a16, e17, hm⟩ := hm
  refine r_getA C0 hW fl_X1_11 e17 dX1_init_20 ?_
  refine lv_iload_n hx hb dX1_init_23 rfl (lv_at hl 0 rfl) ?_
  replace hm := o2 hm; obtain ⟨σ18, n19, e20, hm⟩ := hm
  refine r_new (fs := [.null, .null, .int 0, .int 0]) C0 lk_X1_9 hW hS hz e20 (Nat.le_of_ble_eq_true rfl) (Nat.le_of_ble_eq_true rfl) dX1_init_24 (fun H hW hS hz => ?_)
  refine lv_dup hx hb dX1_init_27 rfl ?_
  replace hm := o2 hm; obtain ⟨σ21, n22, e23, hm⟩ := hm
  refine z_calln (z_runI (As := []) (rest := [.ref n12, .int 1, .ref a16]) C0 li_X1_17 (b_X4_init e23) hW hS hz rfl hl.1 rfl (Nat.le_of_ble_eq_true rfl) dX1_init_28 rfl rfl ⟨(Nat.le_of_ble_eq_true rfl), (Nat.le_of_ble_eq_true rfl)⟩ ⟨(Nat.le_of_ble_eq_true rfl), (Nat.le_of_ble_eq_true rfl)⟩) hS (fun H locs hW hS hz => ?_)
  replace hm := ob hm; obtain ⟨σ24, e25, hm⟩ := hm
  refine r_uAn (kd := 2) (ci := 4) rfl rfl C0 hW hS hz e25 dX1_init_31 (fun H locs hW hS hz => ?_)
  refine lv_iinc (v := 2) (lv' := [(1, .int 2), (0, .ref v0)]) hx hb dX1_init_32 hl (k := 0) rfl (by decide) (by decide) rfl (fun ls hl => ?_)
  refine lv_goto (tgt := 14) hx hb dX1_init_35 (by decide) ?_
  refine lv_iload_n hx hb dX1_init_14 rfl (lv_at hl 0 rfl) ?_
  refine lv_iconst (v := 4) hx hb dX1_init_15 (by decide) ?_
  refine lv_icmp_ge (tgt := 38) hx hb dX1_init_16 (by decide) (fun h => absurd h (by decide)) (fun _ => ?_)
  refine lv_aload_n hx hb dX1_init_19 rfl (lv_at hl 1 rfl) ?_
  replace hm := ob hm; obtain ⟨a26, e27, hm⟩ := hm
  refine r_getA C0 hW fl_X1_11 e27 dX1_init_20 ?_
  refine lv_iload_n hx hb dX1_init_23 rfl (lv_at hl 0 rfl) ?_
  replace hm := o2 hm; obtain ⟨σ28, n29, e30, hm⟩ := hm
  refine r_new (fs := [.null, .null, .int 0, .int 0]) C0 lk_X1_9 hW hS hz e30 (Nat.le_of_ble_eq_true rfl) (Nat.le_of_ble_eq_true rfl) dX1_init_24 (fun H hW hS hz => ?_)
  refine lv_dup hx hb dX1_init_27 rfl ?_
  replace hm := o2 hm; obtain ⟨σ31, n32, e33, hm⟩ := hm
  refine z_calln (z_runI (As := []) (rest := [.ref n22, .int 2, .ref a26]) C0 li_X1_17 (b_X4_init e33) hW hS hz rfl hl.1 rfl (Nat.le_of_ble_eq_true rfl) dX1_init_28 rfl rfl ⟨(Nat.le_of_ble_eq_true rfl), (Nat.le_of_ble_eq_true rfl)⟩ ⟨(Nat.le_of_ble_eq_true rfl), (Nat.le_of_ble_eq_true rfl)⟩) hS (fun H locs hW hS hz => ?_)
  replace hm := ob hm; obtain ⟨σ34, e35, hm⟩ := hm
  refine r_uAn (kd := 2) (ci := 4) rfl rfl C0 hW hS hz e35 dX1_init_31 (fun H locs hW hS hz => ?_)
  refine lv_iinc (v := 3) (lv' := [(1, .int 3), (0, .ref v0)]) hx hb dX1_init_32 hl (k := 0) rfl (by decide) (by decide) rfl (fun ls hl => ?_)
  refine lv_goto (tgt := 14) hx hb dX1_init_35 (by decide) ?_
  refine lv_iload_n hx hb dX1_init_14 rfl (lv_at hl 0 rfl) ?_
  refine lv_iconst (v := 4) hx hb dX1_init_15 (by decide) ?_
  refine lv_icmp_ge (tgt := 38) hx hb dX1_init_16 (by decide) (fun h => absurd h (by decide)) (fun _ => ?_)
  refine lv_aload_n hx hb dX1_init_19 rfl (lv_at hl 1 rfl) ?_
  replace hm := ob hm; obtain ⟨a36, e37, hm⟩ := hm
  refine r_getA C0 hW fl_X1_11 e37 dX1_init_20 ?_
  refine lv_iload_n hx hb dX1_init_23 rfl (lv_at hl 0 rfl) ?_
  replace hm := o2 hm; obtain ⟨σ38, n39, e40, hm⟩ := hm
  refine r_new (fs := [.null, .null, .int 0, .int 0]) C0 lk_X1_9 hW hS hz e40 (Nat.le_of_ble_eq_true rfl) (Nat.le_of_ble_eq_true rfl) dX1_init_24 (fun H hW hS hz => ?_)
  refine lv_dup hx hb dX1_init_27 rfl ?_
  replace hm := o2 hm; obtain ⟨σ41, n42, e43, hm⟩ := hm
  refine z_calln (z_runI (As := []) (rest := [.ref n32, .int 3, .ref a36]) C0 li_X1_17 (b_X4_init e43) hW hS hz rfl hl.1 rfl (Nat.le_of_ble_eq_true rfl) dX1_init_28 rfl rfl ⟨(Nat.le_of_ble_eq_true rfl), (Nat.le_of_ble_eq_true rfl)⟩ ⟨(Nat.le_of_ble_eq_true rfl), (Nat.le_of_ble_eq_true rfl)⟩) hS (fun H locs hW hS hz => ?_)
  replace hm := ob hm; obtain ⟨σ44, e45, hm⟩ := hm
  refine r_uAn (kd := 2) (ci := 4) rfl rfl C0 hW hS hz e45 dX1_init_31 (fun H locs hW hS hz => ?_)
  refine lv_iinc (v := 4) (lv' := [(1, .int 4), (0, .ref v0)]) hx hb dX1_init_32 hl (k := 0) rfl (by decide) (by decide) rfl (fun ls hl => ?_)
  refine lv_goto (tgt := 14) hx hb dX1_init_35 (by decide) ?_
  refine lv_iload_n hx hb dX1_init_14 rfl (lv_at hl 0 rfl) ?_
  refine lv_iconst (v := 4) hx hb dX1_init_15 (by decide) ?_
  refine lv_icmp_ge (tgt := 38) hx hb dX1_init_16 (by decide) (fun _ => ?_) (fun h => absurd (by decide) h)
  obtain ⟨hq1, hq2⟩ := Prod.mk.inj (Option.some.inj hm); subst hq1; subst hq2
  exact r_vretn C0 hr hlocks hW hS hz (Nat.le_of_ble_eq_true rfl) (Nat.le_of_ble_eq_true rfl) dX1_init_38
set_option maxHeartbeats 4000000 in
set_option maxRecDepth 100000 in
theorem b_X6_init {l : Launch} {D : va_G} {ca : Nat → ClassId} {A : Nat → Prop} {N : Nat} {σ : zS} {n v0 : Nat} {σ' : zS} {n' : Nat} (hm : m_X6_init N σ n v0 = some (σ', n')) : Met l yX6_init (.code yX6_init cX6_init 1 none :: wsL_law) ({ frames := 1, cells := 1, slots := 80, locals := 20 } : Room) (va_Pc [.ref v0] (zPn D ca A σ n)) (zQn D ca A σ' n') 1 80 A := by
  refine zMkN (by decide +kernel) (Nat.le_of_ble_eq_true rfl) ?_
  intro p e s m below meth c C0 hr hlocks hin hW hz ls hl
  have hx := C0.1
  have hb := C0.2.1
  have hS : va_S A s.heap s.heap [] := va_S.rf
  have hl : lv_has ls 1 [(0, .ref v0)] := hl
  unfold m_X6_init at hm
  refine lv_aload_n hx hb dX6_init_0 rfl (lv_at hl 0 rfl) ?_
  refine r_objInit C0 (zin_4 _ (List.mem_of_getElem? (i := 3) rfl)) (zin_1 _ (List.mem_of_getElem? (i := 10) rfl)) (zin_1 _ (List.mem_of_getElem? (i := 11) rfl)) hl.1 dX6_init_1 (Nat.le_of_ble_eq_true rfl) (Nat.le_of_ble_eq_true rfl) ?_
  refine lv_aload_n hx hb dX6_init_4 rfl (lv_at hl 0 rfl) ?_
  refine lv_bipush (v := 80) hx hb dX6_init_5 (by decide) ?_
  replace hm := o2 hm; obtain ⟨σ1, n2, e3, hm⟩ := hm
  refine r_newC C0 (zin_4 _ (List.mem_of_getElem? (i := 4) rfl)) hW hS hz e3 (Nat.le_of_ble_eq_true rfl) (Nat.le_of_ble_eq_true rfl) dX6_init_7 (fun H hW hS hz => ?_)
  replace hm := ob hm; obtain ⟨σ4, e5, hm⟩ := hm
  refine r_putAn C0 hin (fun C T N h => by cases h; rfl) hW hS fl_X6_9 rfl rfl hz e5 dX6_init_9 (fun H locs hW hS hz => ?_)
  obtain ⟨hq1, hq2⟩ := Prod.mk.inj (Option.some.inj hm); subst hq1; subst hq2
  exact r_vretn C0 hr hlocks hW hS hz (Nat.le_of_ble_eq_true rfl) (Nat.le_of_ble_eq_true rfl) dX6_init_12
set_option maxHeartbeats 4000000 in
set_option maxRecDepth 100000 in
theorem b_X7_init {l : Launch} {D : va_G} {ca : Nat → ClassId} {A : Nat → Prop} {N : Nat} {σ : zS} {n v0 : Nat} {σ' : zS} {n' : Nat} (hm : m_X7_init N σ n v0 = some (σ', n')) : Met l yX7_init (.code yX7_init cX7_init 1 none :: wsL_law) ({ frames := 4, cells := 38, slots := 6207, locals := 81 } : Room) (va_Pc [.ref v0] (zPn D ca A σ n)) (zQn D ca A σ' n') 38 6207 A := by
  refine zMkN (by decide +kernel) (Nat.le_of_ble_eq_true rfl) ?_
  intro p e s m below meth c C0 hr hlocks hin hW hz ls hl
  have hx := C0.1
  have hb := C0.2.1
  have hS : va_S A s.heap s.heap [] := va_S.rf
  have hl : lv_has ls 1 [(0, .ref v0)] := hl
  unfold m_X7_init at hm
  refine lv_aload_n hx hb dX7_init_0 rfl (lv_at hl 0 rfl) ?_
  refine r_objInit C0 (zin_4 _ (List.mem_of_getElem? (i := 12) rfl)) (zin_1 _ (List.mem_of_getElem? (i := 10) rfl)) (zin_1 _ (List.mem_of_getElem? (i := 11) rfl)) hl.1 dX7_init_1 (Nat.le_of_ble_eq_true rfl) (Nat.le_of_ble_eq_true rfl) ?_
  refine lv_aload_n hx hb dX7_init_4 rfl (lv_at hl 0 rfl) ?_
  replace hm := o2 hm; obtain ⟨σ1, n2, e3, hm⟩ := hm
  refine r_new (fs := [.null, .null, .int 0, .int 0]) C0 lk_X7_9 hW hS hz e3 (Nat.le_of_ble_eq_true rfl) (Nat.le_of_ble_eq_true rfl) dX7_init_5 (fun H hW hS hz => ?_)
  refine lv_dup hx hb dX7_init_8 rfl ?_
  replace hm := o2 hm; obtain ⟨σ4, n5, e6, hm⟩ := hm
  refine z_calln (z_runI (As := []) (rest := [.ref n, .ref v0]) C0 li_X7_11 (b_X4_init e6) hW hS hz rfl hl.1 rfl (Nat.le_of_ble_eq_true rfl) dX7_init_9 rfl rfl ⟨(Nat.le_of_ble_eq_true rfl), (Nat.le_of_ble_eq_true rfl)⟩ ⟨(Nat.le_of_ble_eq_true rfl), (Nat.le_of_ble_eq_true rfl)⟩) hS (fun H locs hW hS hz => ?_)
  replace hm := ob hm; obtain ⟨σ7, e8, hm⟩ := hm
  refine r_putAn C0 hin (fun C T N h => by cases h; rfl) hW hS fl_X7_12 rfl rfl hz e8 dX7_init_12 (fun H locs hW hS hz => ?_)
  refine lv_aload_n hx hb dX7_init_15 rfl (lv_at hl 0 rfl) ?_
  replace hm := o2 hm; obtain ⟨σ9, n10, e11, hm⟩ := hm
  refine r_new (fs := [.null, .int 0, .int 0]) C0 lk_X7_18 hW hS hz e11 (Nat.le_of_ble_eq_true rfl) (Nat.le_of_ble_eq_true rfl) dX7_init_16 (fun H hW hS hz => ?_)
  refine lv_dup hx hb dX7_init_19 rfl ?_
  replace hm := o2 hm; obtain ⟨σ12, n13, e14, hm⟩ := hm
  refine z_calln (z_runIN (As := []) (rest := [.ref n5, .ref v0]) C0 ni_X7_20 (b_X0_init e14) hW hS hz rfl hl.1 rfl (Nat.le_of_ble_eq_true rfl) dX7_init_20 rfl rfl ⟨(Nat.le_of_ble_eq_true rfl), (Nat.le_of_ble_eq_true rfl)⟩ ⟨(Nat.le_of_ble_eq_true rfl), (Nat.le_of_ble_eq_true rfl)⟩) hS (fun H locs hW hS hz => ?_)
  replace hm := ob hm; obtain ⟨σ15, e16, hm⟩ := hm
  refine r_putAn C0 hin (fun C T N h => by cases h; rfl) hW hS fl_X7_21 rfl rfl hz e16 dX7_init_23 (fun H locs hW hS hz => ?_)
  obtain ⟨hq1, hq2⟩ := Prod.mk.inj (Option.some.inj hm); subst hq1; subst hq2
  exact r_vretn C0 hr hlocks hW hS hz (Nat.le_of_ble_eq_true rfl) (Nat.le_of_ble_eq_true rfl) dX7_init_26
set_option maxHeartbeats 4000000 in
set_option maxRecDepth 100000 in
theorem b_X8_init {l : Launch} {D : va_G} {ca : Nat → ClassId} {A : Nat → Prop} {N : Nat} {σ : zS} {n v0 : Nat} {σ' : zS} {n' : Nat} (hm : m_X8_init N σ n v0 = some (σ', n')) : Met l yX8_init (.code yX8_init cX8_init 1 none :: wsL_law) ({ frames := 5, cells := 228, slots := 37331, locals := 102 } : Room) (va_Pc [.ref v0] (zPn D ca A σ n)) (zQn D ca A σ' n') 228 37331 A := by
  refine zMkN (by decide +kernel) (Nat.le_of_ble_eq_true rfl) ?_
  intro p e s m below meth c C0 hr hlocks hin hW hz ls hl
  have hx := C0.1
  have hb := C0.2.1
  have hS : va_S A s.heap s.heap [] := va_S.rf
  have hl : lv_has ls 1 [(0, .ref v0)] := hl
  unfold m_X8_init at hm
  refine lv_aload_n hx hb dX8_init_0 rfl (lv_at hl 0 rfl) ?_
  refine r_objInit C0 (zin_1 _ (List.mem_of_getElem? (i := 9) rfl)) (zin_1 _ (List.mem_of_getElem? (i := 10) rfl)) (zin_1 _ (List.mem_of_getElem? (i := 11) rfl)) hl.1 dX8_init_1 (Nat.le_of_ble_eq_true rfl) (Nat.le_of_ble_eq_true rfl) ?_
  refine lv_aload_n hx hb dX8_init_4 rfl (lv_at hl 0 rfl) ?_
  replace hm := o2 hm; obtain ⟨σ1, n2, e3, hm⟩ := hm
  refine r_new (fs := [.null, .null, .int 0, .int 0]) C0 lk_X8_7 hW hS hz e3 (Nat.le_of_ble_eq_true rfl) (Nat.le_of_ble_eq_true rfl) dX8_init_5 (fun H hW hS hz => ?_)
  refine lv_dup hx hb dX8_init_8 rfl ?_
  replace hm := o2 hm; obtain ⟨σ4, n5, e6, hm⟩ := hm
  refine z_calln (z_runI (As := []) (rest := [.ref n, .ref v0]) C0 li_X8_9 (b_X4_init e6) hW hS hz rfl hl.1 rfl (Nat.le_of_ble_eq_true rfl) dX8_init_9 rfl rfl ⟨(Nat.le_of_ble_eq_true rfl), (Nat.le_of_ble_eq_true rfl)⟩ ⟨(Nat.le_of_ble_eq_true rfl), (Nat.le_of_ble_eq_true rfl)⟩) hS (fun H locs hW hS hz => ?_)
  replace hm := ob hm; obtain ⟨σ7, e8, hm⟩ := hm
  refine r_putAn C0 hin (fun C T N h => by cases h; rfl) hW hS fl_X8_10 rfl rfl hz e8 dX8_init_12 (fun H locs hW hS hz => ?_)
  refine lv_aload_n hx hb dX8_init_15 rfl (lv_at hl 0 rfl) ?_
  replace hm := o2 hm; obtain ⟨σ9, n10, e11, hm⟩ := hm
  refine r_new (fs := [.null, .int 0]) C0 lk_X8_16 hW hS hz e11 (Nat.le_of_ble_eq_true rfl) (Nat.le_of_ble_eq_true rfl) dX8_init_16 (fun H hW hS hz => ?_)
  refine lv_dup hx hb dX8_init_19 rfl ?_
  replace hm := o2 hm; obtain ⟨σ12, n13, e14, hm⟩ := hm
  refine z_calln (z_runI (As := []) (rest := [.ref n5, .ref v0]) C0 li_X8_18 (b_X1_init e14) hW hS hz rfl hl.1 rfl (Nat.le_of_ble_eq_true rfl) dX8_init_20 rfl rfl ⟨(Nat.le_of_ble_eq_true rfl), (Nat.le_of_ble_eq_true rfl)⟩ ⟨(Nat.le_of_ble_eq_true rfl), (Nat.le_of_ble_eq_true rfl)⟩) hS (fun H locs hW hS hz => ?_)
  replace hm := ob hm; obtain ⟨σ15, e16, hm⟩ := hm
  refine r_putAn C0 hin (fun C T N h => by cases h; rfl) hW hS fl_X8_19 rfl rfl hz e16 dX8_init_23 (fun H locs hW hS hz => ?_)
  refine lv_aload_n hx hb dX8_init_26 rfl (lv_at hl 0 rfl) ?_
  replace hm := o2 hm; obtain ⟨σ17, n18, e19, hm⟩ := hm
  refine r_new (fs := [.null, .int 0]) C0 lk_X8_23 hW hS hz e19 (Nat.le_of_ble_eq_true rfl) (Nat.le_of_ble_eq_true rfl) dX8_init_27 (fun H hW hS hz => ?_)
  refine lv_dup hx hb dX8_init_30 rfl ?_
  replace hm := o2 hm; obtain ⟨σ20, n21, e22, hm⟩ := hm
  refine z_calln (z_runIN (As := []) (rest := [.ref n13, .ref v0]) C0 ni_X8_25 (b_X6_init e22) hW hS hz rfl hl.1 rfl (Nat.le_of_ble_eq_true rfl) dX8_init_31 rfl rfl ⟨(Nat.le_of_ble_eq_true rfl), (Nat.le_of_ble_eq_true rfl)⟩ ⟨(Nat.le_of_ble_eq_true rfl), (Nat.le_of_ble_eq_true rfl)⟩) hS (fun H locs hW hS hz => ?_)
  replace hm := ob hm; obtain ⟨σ23, e24, hm⟩ := hm
  refine r_putAn C0 hin (fun C T N h => by cases h; rfl) hW hS fl_X8_26 rfl rfl hz e24 dX8_init_34 (fun H locs hW hS hz => ?_)
  refine lv_aload_n hx hb dX8_init_37 rfl (lv_at hl 0 rfl) ?_
  replace hm := o2 hm; obtain ⟨σ25, n26, e27, hm⟩ := hm
  refine r_new (fs := [.null, .int 0, .int 0]) C0 lk_X8_30 hW hS hz e27 (Nat.le_of_ble_eq_true rfl) (Nat.le_of_ble_eq_true rfl) dX8_init_38 (fun H hW hS hz => ?_)
  refine lv_dup hx hb dX8_init_41 rfl ?_
  replace hm := o2 hm; obtain ⟨σ28, n29, e30, hm⟩ := hm
  refine z_calln (z_runIN (As := []) (rest := [.ref n21, .ref v0]) C0 ni_X8_32 (b_X0_init e30) hW hS hz rfl hl.1 rfl (Nat.le_of_ble_eq_true rfl) dX8_init_42 rfl rfl ⟨(Nat.le_of_ble_eq_true rfl), (Nat.le_of_ble_eq_true rfl)⟩ ⟨(Nat.le_of_ble_eq_true rfl), (Nat.le_of_ble_eq_true rfl)⟩) hS (fun H locs hW hS hz => ?_)
  replace hm := ob hm; obtain ⟨σ31, e32, hm⟩ := hm
  refine r_putAn C0 hin (fun C T N h => by cases h; rfl) hW hS fl_X8_33 rfl rfl hz e32 dX8_init_45 (fun H locs hW hS hz => ?_)
  refine lv_aload_n hx hb dX8_init_48 rfl (lv_at hl 0 rfl) ?_
  replace hm := o2 hm; obtain ⟨σ33, n34, e35, hm⟩ := hm
  refine r_new (fs := [.null, .null, .int 0, .int 0, .int 0, .int 0]) C0 lk_X8_37 hW hS hz e35 (Nat.le_of_ble_eq_true rfl) (Nat.le_of_ble_eq_true rfl) dX8_init_49 (fun H hW hS hz => ?_)
  refine lv_dup hx hb dX8_init_52 rfl ?_
  replace hm := o2 hm; obtain ⟨σ36, n37, e38, hm⟩ := hm
  refine z_calln (z_runIN (As := []) (rest := [.ref n29, .ref v0]) C0 ni_X8_39 (b_X7_init e38) hW hS hz rfl hl.1 rfl (Nat.le_of_ble_eq_true rfl) dX8_init_53 rfl rfl ⟨(Nat.le_of_ble_eq_true rfl), (Nat.le_of_ble_eq_true rfl)⟩ ⟨(Nat.le_of_ble_eq_true rfl), (Nat.le_of_ble_eq_true rfl)⟩) hS (fun H locs hW hS hz => ?_)
  replace hm := ob hm; obtain ⟨σ39, e40, hm⟩ := hm
  refine r_putAn C0 hin (fun C T N h => by cases h; rfl) hW hS fl_X8_40 rfl rfl hz e40 dX8_init_56 (fun H locs hW hS hz => ?_)
  refine lv_aload_n hx hb dX8_init_59 rfl (lv_at hl 0 rfl) ?_
  replace hm := o2 hm; obtain ⟨σ41, n42, e43, hm⟩ := hm
  refine r_new (fs := [.int 0, .int 0, .int 0, .int 0, .int 0, .null, .null]) C0 lk_X8_44 hW hS hz e43 (Nat.le_of_ble_eq_true rfl) (Nat.le_of_ble_eq_true rfl) dX8_init_60 (fun H hW hS hz => ?_)
  refine lv_dup hx hb dX8_init_63 rfl ?_
  replace hm := o2 hm; obtain ⟨σ44, n45, e46, hm⟩ := hm
  refine z_calln (z_runIN (As := []) (rest := [.ref n37, .ref v0]) C0 ni_X8_46 (b_X3_init e46) hW hS hz rfl hl.1 rfl (Nat.le_of_ble_eq_true rfl) dX8_init_64 rfl rfl ⟨(Nat.le_of_ble_eq_true rfl), (Nat.le_of_ble_eq_true rfl)⟩ ⟨(Nat.le_of_ble_eq_true rfl), (Nat.le_of_ble_eq_true rfl)⟩) hS (fun H locs hW hS hz => ?_)
  replace hm := ob hm; obtain ⟨σ47, e48, hm⟩ := hm
  refine r_putAn C0 hin (fun C T N h => by cases h; rfl) hW hS fl_X8_47 rfl rfl hz e48 dX8_init_67 (fun H locs hW hS hz => ?_)
  obtain ⟨hq1, hq2⟩ := Prod.mk.inj (Option.some.inj hm); subst hq1; subst hq2
  exact r_vretn C0 hr hlocks hW hS hz (Nat.le_of_ble_eq_true rfl) (Nat.le_of_ble_eq_true rfl) dX8_init_70
set_option maxHeartbeats 4000000 in
set_option maxRecDepth 100000 in
theorem b_X9_init {l : Launch} {D : va_G} {ca : Nat → ClassId} {A : Nat → Prop} {N : Nat} {σ : zS} {n v0 : Nat} {σ' : zS} {n' : Nat} (hm : m_X9_init N σ n v0 = some (σ', n')) : Met l yX9_init (.code yX9_init cX9_init 1 none :: wsL_law) ({ frames := 1, cells := 8, slots := 37093, locals := 20 } : Room) (va_Pc [.ref v0] (zPn D ca A σ n)) (zQn D ca A σ' n') 8 37093 A := by
  refine zMkN (by decide +kernel) (Nat.le_of_ble_eq_true rfl) ?_
  intro p e s m below meth c C0 hr hlocks hin hW hz ls hl
  have hx := C0.1
  have hb := C0.2.1
  have hS : va_S A s.heap s.heap [] := va_S.rf
  have hl : lv_has ls 1 [(0, .ref v0)] := hl
  unfold m_X9_init at hm
  refine lv_aload_n hx hb dX9_init_0 rfl (lv_at hl 0 rfl) ?_
  refine r_objInit C0 (zin_4 _ (List.mem_of_getElem? (i := 21) rfl)) (zin_1 _ (List.mem_of_getElem? (i := 10) rfl)) (zin_1 _ (List.mem_of_getElem? (i := 11) rfl)) hl.1 dX9_init_1 (Nat.le_of_ble_eq_true rfl) (Nat.le_of_ble_eq_true rfl) ?_
  refine lv_aload_n hx hb dX9_init_4 rfl (lv_at hl 0 rfl) ?_
  refine lv_sipush (v := 6165) hx hb dX9_init_5 (by decide) ?_
  replace hm := o2 hm; obtain ⟨σ1, n2, e3, hm⟩ := hm
  refine r_newI C0 (zin_3 _ (List.mem_of_getElem? (i := 3) rfl)) hW hS hz e3 (Nat.le_of_ble_eq_true rfl) (Nat.le_of_ble_eq_true rfl) dX9_init_8 (fun H hW hS hz => ?_)
  replace hm := ob hm; obtain ⟨σ4, e5, hm⟩ := hm
  refine r_putAn C0 hin (fun C T N h => by cases h; rfl) hW hS fl_X9_7 rfl rfl hz e5 dX9_init_10 (fun H locs hW hS hz => ?_)
  refine lv_aload_n hx hb dX9_init_13 rfl (lv_at hl 0 rfl) ?_
  refine lv_sipush (v := 6165) hx hb dX9_init_14 (by decide) ?_
  replace hm := o2 hm; obtain ⟨σ6, n7, e8, hm⟩ := hm
  refine r_newI C0 (zin_3 _ (List.mem_of_getElem? (i := 3) rfl)) hW hS hz e8 (Nat.le_of_ble_eq_true rfl) (Nat.le_of_ble_eq_true rfl) dX9_init_17 (fun H hW hS hz => ?_)
  replace hm := ob hm; obtain ⟨σ9, e10, hm⟩ := hm
  refine r_putAn C0 hin (fun C T N h => by cases h; rfl) hW hS fl_X9_13 rfl rfl hz e10 dX9_init_19 (fun H locs hW hS hz => ?_)
  refine lv_aload_n hx hb dX9_init_22 rfl (lv_at hl 0 rfl) ?_
  refine lv_sipush (v := 6165) hx hb dX9_init_23 (by decide) ?_
  replace hm := o2 hm; obtain ⟨σ11, n12, e13, hm⟩ := hm
  refine r_newI C0 (zin_3 _ (List.mem_of_getElem? (i := 3) rfl)) hW hS hz e13 (Nat.le_of_ble_eq_true rfl) (Nat.le_of_ble_eq_true rfl) dX9_init_26 (fun H hW hS hz => ?_)
  replace hm := ob hm; obtain ⟨σ14, e15, hm⟩ := hm
  refine r_putAn C0 hin (fun C T N h => by cases h; rfl) hW hS fl_X9_16 rfl rfl hz e15 dX9_init_28 (fun H locs hW hS hz => ?_)
  refine lv_aload_n hx hb dX9_init_31 rfl (lv_at hl 0 rfl) ?_
  refine lv_sipush (v := 6165) hx hb dX9_init_32 (by decide) ?_
  replace hm := o2 hm; obtain ⟨σ16, n17, e18, hm⟩ := hm
  refine r_newI C0 (zin_3 _ (List.mem_of_getElem? (i := 3) rfl)) hW hS hz e18 (Nat.le_of_ble_eq_true rfl) (Nat.le_of_ble_eq_true rfl) dX9_init_35 (fun H hW hS hz => ?_)
  replace hm := ob hm; obtain ⟨σ19, e20, hm⟩ := hm
  refine r_putAn C0 hin (fun C T N h => by cases h; rfl) hW hS fl_X9_19 rfl rfl hz e20 dX9_init_37 (fun H locs hW hS hz => ?_)
  refine lv_aload_n hx hb dX9_init_40 rfl (lv_at hl 0 rfl) ?_
  refine lv_sipush (v := 6165) hx hb dX9_init_41 (by decide) ?_
  replace hm := o2 hm; obtain ⟨σ21, n22, e23, hm⟩ := hm
  refine r_newI C0 (zin_3 _ (List.mem_of_getElem? (i := 3) rfl)) hW hS hz e23 (Nat.le_of_ble_eq_true rfl) (Nat.le_of_ble_eq_true rfl) dX9_init_44 (fun H hW hS hz => ?_)
  replace hm := ob hm; obtain ⟨σ24, e25, hm⟩ := hm
  refine r_putAn C0 hin (fun C T N h => by cases h; rfl) hW hS fl_X9_22 rfl rfl hz e25 dX9_init_46 (fun H locs hW hS hz => ?_)
  refine lv_aload_n hx hb dX9_init_49 rfl (lv_at hl 0 rfl) ?_
  refine lv_sipush (v := 6165) hx hb dX9_init_50 (by decide) ?_
  replace hm := o2 hm; obtain ⟨σ26, n27, e28, hm⟩ := hm
  refine r_newI C0 (zin_3 _ (List.mem_of_getElem? (i := 3) rfl)) hW hS hz e28 (Nat.le_of_ble_eq_true rfl) (Nat.le_of_ble_eq_true rfl) dX9_init_53 (fun H hW hS hz => ?_)
  replace hm := ob hm; obtain ⟨σ29, e30, hm⟩ := hm
  refine r_putAn C0 hin (fun C T N h => by cases h; rfl) hW hS fl_X9_25 rfl rfl hz e30 dX9_init_55 (fun H locs hW hS hz => ?_)
  refine lv_aload_n hx hb dX9_init_58 rfl (lv_at hl 0 rfl) ?_
  refine lv_bipush (v := 23) hx hb dX9_init_59 (by decide) ?_
  replace hm := o2 hm; obtain ⟨σ31, n32, e33, hm⟩ := hm
  refine r_newI C0 (zin_3 _ (List.mem_of_getElem? (i := 3) rfl)) hW hS hz e33 (Nat.le_of_ble_eq_true rfl) (Nat.le_of_ble_eq_true rfl) dX9_init_61 (fun H hW hS hz => ?_)
  replace hm := ob hm; obtain ⟨σ34, e35, hm⟩ := hm
  refine r_putAn C0 hin (fun C T N h => by cases h; rfl) hW hS fl_X9_28 rfl rfl hz e35 dX9_init_63 (fun H locs hW hS hz => ?_)
  refine lv_aload_n hx hb dX9_init_66 rfl (lv_at hl 0 rfl) ?_
  refine lv_bipush (v := 80) hx hb dX9_init_67 (by decide) ?_
  replace hm := o2 hm; obtain ⟨σ36, n37, e38, hm⟩ := hm
  refine r_newI C0 (zin_3 _ (List.mem_of_getElem? (i := 3) rfl)) hW hS hz e38 (Nat.le_of_ble_eq_true rfl) (Nat.le_of_ble_eq_true rfl) dX9_init_69 (fun H hW hS hz => ?_)
  replace hm := ob hm; obtain ⟨σ39, e40, hm⟩ := hm
  refine r_putAn C0 hin (fun C T N h => by cases h; rfl) hW hS fl_X9_31 rfl rfl hz e40 dX9_init_71 (fun H locs hW hS hz => ?_)
  obtain ⟨hq1, hq2⟩ := Prod.mk.inj (Option.some.inj hm); subst hq1; subst hq2
  exact r_vretn C0 hr hlocks hW hS hz (Nat.le_of_ble_eq_true rfl) (Nat.le_of_ble_eq_true rfl) dX9_init_74

theorem nz_0 : ∀ j, j < 2 → defaultValue (ny_0 j) = vp_V ((ns_ft 0).map ns_dv) j := by decide +kernel
theorem nz_1 : ∀ j, j < 5 → defaultValue (ny_1 j) = vp_V ((ns_ft 1).map ns_dv) j := by decide +kernel
theorem nz_2 : ∀ j, j < 8 → defaultValue (ny_2 j) = vp_V ((ns_ft 2).map ns_dv) j := by decide +kernel
theorem nz_3 : ∀ j, j < 3 → defaultValue (ny_3 j) = vp_V ((ns_ft 3).map ns_dv) j := by decide +kernel
theorem nz_4 : ∀ j, j < 10 → defaultValue (ny_4 j) = vp_V ((ns_ft 4).map ns_dv) j := by decide +kernel
theorem nz_5 : ∀ j, j < 6 → defaultValue (ny_5 j) = vp_V ((ns_ft 5).map ns_dv) j := by decide +kernel
theorem nz_6 : ∀ j, j < 6 → defaultValue (ny_6 j) = vp_V ((ns_ft 6).map ns_dv) j := by decide +kernel
theorem nz_7 : ∀ j, j < 6 → defaultValue (ny_7 j) = vp_V ((ns_ft 7).map ns_dv) j := by decide +kernel
theorem nz_8 : ∀ j, j < 12 → defaultValue (ny_8 j) = vp_V ((ns_ft 8).map ns_dv) j := by decide +kernel
theorem nz_9 : ∀ j, j < 31 → defaultValue (ny_9 j) = vp_V ((ns_ft 9).map ns_dv) j := by decide +kernel
def g_Mule_init (n : Nat) (σ : ns_St) (a0 : Nat) : Option (Nat × ns_St) := grd (ns_kd a0 = 2 ∧ a0 < n) <| some (n, σ)
def g_Ground_init (n : Nat) (σ : ns_St) (a0 : Nat) : Option (Nat × ns_St) := grd (ns_kd a0 = 1 ∧ a0 < n) <| bnd (ns_pI σ a0 0 (30 : Int32)) fun σ1 => some (n, σ1)
def g_World_init (n : Nat) (σ : ns_St) (a0 : Nat) : Option (Nat × ns_St) := grd (ns_kd a0 = 7 ∧ a0 < n) <| grd (ns_kd (n) = 1 ∧ n < ns_N) <| bnd (ns_z σ (n)) fun σ2 => cl2 (g_Ground_init (n + 1) σ2 n) fun n3 σ4 => grd (n + 1 ≤ n3) <| bnd (ns_pR σ4 a0 0 (some n)) fun σ5 => grd (ns_kd (n3) = 12 ∧ ns_ln (n3) = 6 ∧ n3 < ns_N) <| bnd (ns_z σ5 (n3)) fun σ7 => bnd (ns_pR σ7 a0 1 (some (n3))) fun σ8 => bnd (ns_pI σ8 a0 5 (1 : Int32)) fun σ9 => drf (σ9.2.2 a0 1) fun b10 => grd (ns_kd b10 = 12 ∧ b10 < n3 + 1) <| grd (ns_kd (n3 + 1) = 2 ∧ n3 + 1 < ns_N) <| bnd (ns_z σ9 (n3 + 1)) fun σ12 => cl2 (g_Mule_init (n3 + 1 + 1) σ12 (n3 + 1)) fun n13 σ14 => grd (n3 + 1 + 1 ≤ n13) <| grd (ns_in (0 : Int32) (ns_ln b10)) <| bnd (ns_pR σ14 b10 (ns_ix (0 : Int32)) (some (n3 + 1))) fun σ16 => drf (σ16.2.2 a0 1) fun b17 => grd (ns_kd b17 = 12 ∧ b17 < n13) <| grd (ns_kd (n13) = 2 ∧ n13 < ns_N) <| bnd (ns_z σ16 (n13)) fun σ19 => cl2 (g_Mule_init (n13 + 1) σ19 (n13)) fun n20 σ21 => grd (n13 + 1 ≤ n20) <| grd (ns_in (1 : Int32) (ns_ln b17)) <| bnd (ns_pR σ21 b17 (ns_ix (1 : Int32)) (some (n13))) fun σ23 => drf (σ23.2.2 a0 1) fun b24 => grd (ns_kd b24 = 12 ∧ b24 < n20) <| grd (ns_kd (n20) = 2 ∧ n20 < ns_N) <| bnd (ns_z σ23 (n20)) fun σ26 => cl2 (g_Mule_init (n20 + 1) σ26 (n20)) fun n27 σ28 => grd (n20 + 1 ≤ n27) <| grd (ns_in (2 : Int32) (ns_ln b24)) <| bnd (ns_pR σ28 b24 (ns_ix (2 : Int32)) (some (n20))) fun σ30 => drf (σ30.2.2 a0 1) fun b31 => grd (ns_kd b31 = 12 ∧ b31 < n27) <| grd (ns_kd (n27) = 2 ∧ n27 < ns_N) <| bnd (ns_z σ30 (n27)) fun σ33 => cl2 (g_Mule_init (n27 + 1) σ33 (n27)) fun n34 σ35 => grd (n27 + 1 ≤ n34) <| grd (ns_in (3 : Int32) (ns_ln b31)) <| bnd (ns_pR σ35 b31 (ns_ix (3 : Int32)) (some (n27))) fun σ37 => drf (σ37.2.2 a0 1) fun b38 => grd (ns_kd b38 = 12 ∧ b38 < n34) <| grd (ns_kd (n34) = 2 ∧ n34 < ns_N) <| bnd (ns_z σ37 (n34)) fun σ40 => cl2 (g_Mule_init (n34 + 1) σ40 (n34)) fun n41 σ42 => grd (n34 + 1 ≤ n41) <| grd (ns_in (4 : Int32) (ns_ln b38)) <| bnd (ns_pR σ42 b38 (ns_ix (4 : Int32)) (some (n34))) fun σ44 => drf (σ44.2.2 a0 1) fun b45 => grd (ns_kd b45 = 12 ∧ b45 < n41) <| grd (ns_kd (n41) = 2 ∧ n41 < ns_N) <| bnd (ns_z σ44 (n41)) fun σ47 => cl2 (g_Mule_init (n41 + 1) σ47 (n41)) fun n48 σ49 => grd (n41 + 1 ≤ n48) <| grd (ns_in (5 : Int32) (ns_ln b45)) <| bnd (ns_pR σ49 b45 (ns_ix (5 : Int32)) (some (n41))) fun σ51 => some (n48, σ51)
def g_Tape_init (n : Nat) (σ : ns_St) (a0 : Nat) : Option (Nat × ns_St) := grd (ns_kd a0 = 5 ∧ a0 < n) <| grd (ns_kd (n) = 10 ∧ ns_ln (n) = 250 ∧ n < ns_N) <| bnd (ns_z σ (n)) fun σ2 => bnd (ns_pR σ2 a0 0 (some (n))) fun σ3 => some (n + 1, σ3)
def g_TurnPlan_init (n : Nat) (σ : ns_St) (a0 : Nat) : Option (Nat × ns_St) := grd (ns_kd a0 = 6 ∧ a0 < n) <| grd (ns_kd (n) = 10 ∧ ns_ln (n) = 3904 ∧ n < ns_N) <| bnd (ns_z σ (n)) fun σ2 => bnd (ns_pR σ2 a0 0 (some (n))) fun σ3 => grd (ns_kd (n + 1) = 10 ∧ ns_ln (n + 1) = 61 ∧ n + 1 < ns_N) <| bnd (ns_z σ3 (n + 1)) fun σ5 => bnd (ns_pR σ5 a0 1 (some (n + 1))) fun σ6 => grd (ns_kd (n + 1 + 1) = 2 ∧ n + 1 + 1 < ns_N) <| bnd (ns_z σ6 (n + 1 + 1)) fun σ8 => cl2 (g_Mule_init (n + 1 + 1 + 1) σ8 (n + 1 + 1)) fun n9 σ10 => grd (n + 1 + 1 + 1 ≤ n9) <| bnd (ns_pR σ10 a0 2 (some (n + 1 + 1))) fun σ11 => some (n9, σ11)
def g_StonePlan_init (n : Nat) (σ : ns_St) (a0 : Nat) : Option (Nat × ns_St) := grd (ns_kd a0 = 4 ∧ a0 < n) <| grd (ns_kd (n) = 11 ∧ ns_ln (n) = 61 ∧ n < ns_N) <| bnd (ns_z σ (n)) fun σ2 => bnd (ns_pR σ2 a0 0 (some (n))) fun σ3 => grd (ns_kd (n + 1) = 11 ∧ ns_ln (n + 1) = 61 ∧ n + 1 < ns_N) <| bnd (ns_z σ3 (n + 1)) fun σ5 => bnd (ns_pR σ5 a0 1 (some (n + 1))) fun σ6 => grd (ns_kd (n + 1 + 1) = 10 ∧ ns_ln (n + 1 + 1) = 61 ∧ n + 1 + 1 < ns_N) <| bnd (ns_z σ6 (n + 1 + 1)) fun σ8 => bnd (ns_pR σ8 a0 2 (some (n + 1 + 1))) fun σ9 => grd (ns_kd (n + 1 + 1 + 1) = 2 ∧ n + 1 + 1 + 1 < ns_N) <| bnd (ns_z σ9 (n + 1 + 1 + 1)) fun σ11 => cl2 (g_Mule_init (n + 1 + 1 + 1 + 1) σ11 (n + 1 + 1 + 1)) fun n12 σ13 => grd (n + 1 + 1 + 1 + 1 ≤ n12) <| bnd (ns_pR σ13 a0 3 (some (n + 1 + 1 + 1))) fun σ14 => grd (ns_kd (n12) = 2 ∧ n12 < ns_N) <| bnd (ns_z σ14 (n12)) fun σ16 => cl2 (g_Mule_init (n12 + 1) σ16 (n12)) fun n17 σ18 => grd (n12 + 1 ≤ n17) <| bnd (ns_pR σ18 a0 4 (some (n12))) fun σ19 => grd (ns_kd (n17) = 2 ∧ n17 < ns_N) <| bnd (ns_z σ19 (n17)) fun σ21 => cl2 (g_Mule_init (n17 + 1) σ21 (n17)) fun n22 σ23 => grd (n17 + 1 ≤ n22) <| bnd (ns_pR σ23 a0 5 (some (n17))) fun σ24 => grd (ns_kd (n22) = 2 ∧ n22 < ns_N) <| bnd (ns_z σ24 (n22)) fun σ26 => cl2 (g_Mule_init (n22 + 1) σ26 (n22)) fun n27 σ28 => grd (n22 + 1 ≤ n27) <| bnd (ns_pR σ28 a0 6 (some (n22))) fun σ29 => some (n27, σ29)
def g_Chance_init (n : Nat) (σ : ns_St) (a0 : Nat) : Option (Nat × ns_St) := grd (ns_kd a0 = 0 ∧ a0 < n) <| grd (ns_kd (n) = 10 ∧ ns_ln (n) = 65 ∧ n < ns_N) <| bnd (ns_z σ (n)) fun σ2 => bnd (ns_pR σ2 a0 0 (some (n))) fun σ3 => grd (ns_kd (n + 1) = 10 ∧ ns_ln (n + 1) = 65 ∧ n + 1 < ns_N) <| bnd (ns_z σ3 (n + 1)) fun σ5 => bnd (ns_pR σ5 a0 1 (some (n + 1))) fun σ6 => some (n + 1 + 1, σ6)
def g_Shelf_init (n : Nat) (σ : ns_St) (a0 : Nat) : Option (Nat × ns_St) := grd (ns_kd a0 = 3 ∧ a0 < n) <| bnd (ns_pI σ a0 0 (-1 : Int32)) fun σ1 => grd (ns_kd (n) = 11 ∧ ns_ln (n) = 40 ∧ n < ns_N) <| bnd (ns_z σ1 (n)) fun σ3 => bnd (ns_pR σ3 a0 2 (some (n))) fun σ4 => some (n + 1, σ4)
def g_N_init (n : Nat) (σ : ns_St) (a0 : Nat) : Option (Nat × ns_St) := grd (ns_kd a0 = 8 ∧ a0 < n) <| grd (ns_kd (n) = 7 ∧ n < ns_N) <| bnd (ns_z σ (n)) fun σ2 => cl2 (g_World_init (n + 1) σ2 n) fun n3 σ4 => grd (n + 1 ≤ n3) <| bnd (ns_pR σ4 a0 0 (some n)) fun σ5 => grd (ns_kd (n3) = 7 ∧ n3 < ns_N) <| bnd (ns_z σ5 (n3)) fun σ7 => cl2 (g_World_init (n3 + 1) σ7 (n3)) fun n8 σ9 => grd (n3 + 1 ≤ n8) <| bnd (ns_pR σ9 a0 1 (some (n3))) fun σ10 => grd (ns_kd (n8) = 7 ∧ n8 < ns_N) <| bnd (ns_z σ10 (n8)) fun σ12 => cl2 (g_World_init (n8 + 1) σ12 (n8)) fun n13 σ14 => grd (n8 + 1 ≤ n13) <| bnd (ns_pR σ14 a0 2 (some (n8))) fun σ15 => grd (ns_kd (n13) = 13 ∧ ns_ln (n13) = 8 ∧ n13 < ns_N) <| bnd (ns_z σ15 (n13)) fun σ17 => bnd (ns_pR σ17 a0 3 (some (n13))) fun σ18 => grd (ns_kd (n13 + 1) = 5 ∧ n13 + 1 < ns_N) <| bnd (ns_z σ18 (n13 + 1)) fun σ20 => cl2 (g_Tape_init (n13 + 1 + 1) σ20 (n13 + 1)) fun n21 σ22 => grd (n13 + 1 + 1 ≤ n21) <| bnd (ns_pR σ22 a0 4 (some (n13 + 1))) fun σ23 => grd (ns_kd (n21) = 6 ∧ n21 < ns_N) <| bnd (ns_z σ23 (n21)) fun σ25 => cl2 (g_TurnPlan_init (n21 + 1) σ25 (n21)) fun n26 σ27 => grd (n21 + 1 ≤ n26) <| bnd (ns_pR σ27 a0 5 (some (n21))) fun σ28 => grd (ns_kd (n26) = 4 ∧ n26 < ns_N) <| bnd (ns_z σ28 (n26)) fun σ30 => cl2 (g_StonePlan_init (n26 + 1) σ30 (n26)) fun n31 σ32 => grd (n26 + 1 ≤ n31) <| bnd (ns_pR σ32 a0 6 (some (n26))) fun σ33 => grd (ns_kd (n31) = 0 ∧ n31 < ns_N) <| bnd (ns_z σ33 (n31)) fun σ35 => cl2 (g_Chance_init (n31 + 1) σ35 (n31)) fun n36 σ37 => grd (n31 + 1 ≤ n36) <| bnd (ns_pR σ37 a0 7 (some (n31))) fun σ38 => grd (ns_kd (n36) = 2 ∧ n36 < ns_N) <| bnd (ns_z σ38 (n36)) fun σ40 => cl2 (g_Mule_init (n36 + 1) σ40 (n36)) fun n41 σ42 => grd (n36 + 1 ≤ n41) <| bnd (ns_pR σ42 a0 8 (some (n36))) fun σ43 => grd (ns_kd (n41) = 10 ∧ ns_ln (n41) = 61 ∧ n41 < ns_N) <| bnd (ns_z σ43 (n41)) fun σ45 => bnd (ns_pR σ45 a0 9 (some (n41))) fun σ46 => grd (ns_kd (n41 + 1) = 10 ∧ ns_ln (n41 + 1) = 5 ∧ n41 + 1 < ns_N) <| bnd (ns_z σ46 (n41 + 1)) fun σ48 => bnd (ns_pR σ48 a0 10 (some (n41 + 1))) fun σ49 => drf (σ49.2.2 a0 3) fun b50 => grd (ns_kd b50 = 13 ∧ b50 < n41 + 1 + 1) <| grd (ns_kd (n41 + 1 + 1) = 3 ∧ n41 + 1 + 1 < ns_N) <| bnd (ns_z σ49 (n41 + 1 + 1)) fun σ52 => cl2 (g_Shelf_init (n41 + 1 + 1 + 1) σ52 (n41 + 1 + 1)) fun n53 σ54 => grd (n41 + 1 + 1 + 1 ≤ n53) <| grd (ns_in (0 : Int32) (ns_ln b50)) <| bnd (ns_pR σ54 b50 (ns_ix (0 : Int32)) (some (n41 + 1 + 1))) fun σ56 => drf (σ56.2.2 a0 3) fun b57 => grd (ns_kd b57 = 13 ∧ b57 < n53) <| grd (ns_kd (n53) = 3 ∧ n53 < ns_N) <| bnd (ns_z σ56 (n53)) fun σ59 => cl2 (g_Shelf_init (n53 + 1) σ59 (n53)) fun n60 σ61 => grd (n53 + 1 ≤ n60) <| grd (ns_in (1 : Int32) (ns_ln b57)) <| bnd (ns_pR σ61 b57 (ns_ix (1 : Int32)) (some (n53))) fun σ63 => drf (σ63.2.2 a0 3) fun b64 => grd (ns_kd b64 = 13 ∧ b64 < n60) <| grd (ns_kd (n60) = 3 ∧ n60 < ns_N) <| bnd (ns_z σ63 (n60)) fun σ66 => cl2 (g_Shelf_init (n60 + 1) σ66 (n60)) fun n67 σ68 => grd (n60 + 1 ≤ n67) <| grd (ns_in (2 : Int32) (ns_ln b64)) <| bnd (ns_pR σ68 b64 (ns_ix (2 : Int32)) (some (n60))) fun σ70 => drf (σ70.2.2 a0 3) fun b71 => grd (ns_kd b71 = 13 ∧ b71 < n67) <| grd (ns_kd (n67) = 3 ∧ n67 < ns_N) <| bnd (ns_z σ70 (n67)) fun σ73 => cl2 (g_Shelf_init (n67 + 1) σ73 (n67)) fun n74 σ75 => grd (n67 + 1 ≤ n74) <| grd (ns_in (3 : Int32) (ns_ln b71)) <| bnd (ns_pR σ75 b71 (ns_ix (3 : Int32)) (some (n67))) fun σ77 => drf (σ77.2.2 a0 3) fun b78 => grd (ns_kd b78 = 13 ∧ b78 < n74) <| grd (ns_kd (n74) = 3 ∧ n74 < ns_N) <| bnd (ns_z σ77 (n74)) fun σ80 => cl2 (g_Shelf_init (n74 + 1) σ80 (n74)) fun n81 σ82 => grd (n74 + 1 ≤ n81) <| grd (ns_in (4 : Int32) (ns_ln b78)) <| bnd (ns_pR σ82 b78 (ns_ix (4 : Int32)) (some (n74))) fun σ84 => drf (σ84.2.2 a0 3) fun b85 => grd (ns_kd b85 = 13 ∧ b85 < n81) <| grd (ns_kd (n81) = 3 ∧ n81 < ns_N) <| bnd (ns_z σ84 (n81)) fun σ87 => cl2 (g_Shelf_init (n81 + 1) σ87 (n81)) fun n88 σ89 => grd (n81 + 1 ≤ n88) <| grd (ns_in (5 : Int32) (ns_ln b85)) <| bnd (ns_pR σ89 b85 (ns_ix (5 : Int32)) (some (n81))) fun σ91 => drf (σ91.2.2 a0 3) fun b92 => grd (ns_kd b92 = 13 ∧ b92 < n88) <| grd (ns_kd (n88) = 3 ∧ n88 < ns_N) <| bnd (ns_z σ91 (n88)) fun σ94 => cl2 (g_Shelf_init (n88 + 1) σ94 (n88)) fun n95 σ96 => grd (n88 + 1 ≤ n95) <| grd (ns_in (6 : Int32) (ns_ln b92)) <| bnd (ns_pR σ96 b92 (ns_ix (6 : Int32)) (some (n88))) fun σ98 => drf (σ98.2.2 a0 3) fun b99 => grd (ns_kd b99 = 13 ∧ b99 < n95) <| grd (ns_kd (n95) = 3 ∧ n95 < ns_N) <| bnd (ns_z σ98 (n95)) fun σ101 => cl2 (g_Shelf_init (n95 + 1) σ101 (n95)) fun n102 σ103 => grd (n95 + 1 ≤ n102) <| grd (ns_in (7 : Int32) (ns_ln b99)) <| bnd (ns_pR σ103 b99 (ns_ix (7 : Int32)) (some (n95))) fun σ105 => some (n102, σ105)
def g_M_init (n : Nat) (σ : ns_St) (a0 : Nat) : Option (Nat × ns_St) := grd (ns_kd a0 = 9 ∧ a0 < n) <| grd (ns_kd (n) = 10 ∧ ns_ln (n) = 8 ∧ n < ns_N) <| bnd (ns_z σ (n)) fun σ2 => bnd (ns_pR σ2 a0 0 (some (n))) fun σ3 => grd (ns_kd (n + 1) = 10 ∧ ns_ln (n + 1) = 8 ∧ n + 1 < ns_N) <| bnd (ns_z σ3 (n + 1)) fun σ5 => bnd (ns_pR σ5 a0 1 (some (n + 1))) fun σ6 => grd (ns_kd (n + 1 + 1) = 11 ∧ ns_ln (n + 1 + 1) = 320 ∧ n + 1 + 1 < ns_N) <| bnd (ns_z σ6 (n + 1 + 1)) fun σ8 => bnd (ns_pR σ8 a0 2 (some (n + 1 + 1))) fun σ9 => grd (ns_kd (n + 1 + 1 + 1) = 10 ∧ ns_ln (n + 1 + 1 + 1) = 61 ∧ n + 1 + 1 + 1 < ns_N) <| bnd (ns_z σ9 (n + 1 + 1 + 1)) fun σ11 => bnd (ns_pR σ11 a0 4 (some (n + 1 + 1 + 1))) fun σ12 => grd (ns_kd (n + 1 + 1 + 1 + 1) = 10 ∧ ns_ln (n + 1 + 1 + 1 + 1) = 6 ∧ n + 1 + 1 + 1 + 1 < ns_N) <| bnd (ns_z σ12 (n + 1 + 1 + 1 + 1)) fun σ14 => bnd (ns_pR σ14 a0 6 (some (n + 1 + 1 + 1 + 1))) fun σ15 => grd (ns_kd (n + 1 + 1 + 1 + 1 + 1) = 10 ∧ ns_ln (n + 1 + 1 + 1 + 1 + 1) = 6 ∧ n + 1 + 1 + 1 + 1 + 1 < ns_N) <| bnd (ns_z σ15 (n + 1 + 1 + 1 + 1 + 1)) fun σ17 => bnd (ns_pR σ17 a0 7 (some (n + 1 + 1 + 1 + 1 + 1))) fun σ18 => grd (ns_kd (n + 1 + 1 + 1 + 1 + 1 + 1) = 10 ∧ ns_ln (n + 1 + 1 + 1 + 1 + 1 + 1) = 6 ∧ n + 1 + 1 + 1 + 1 + 1 + 1 < ns_N) <| bnd (ns_z σ18 (n + 1 + 1 + 1 + 1 + 1 + 1)) fun σ20 => bnd (ns_pR σ20 a0 8 (some (n + 1 + 1 + 1 + 1 + 1 + 1))) fun σ21 => grd (ns_kd (n + 1 + 1 + 1 + 1 + 1 + 1 + 1) = 10 ∧ ns_ln (n + 1 + 1 + 1 + 1 + 1 + 1 + 1) = 6 ∧ n + 1 + 1 + 1 + 1 + 1 + 1 + 1 < ns_N) <| bnd (ns_z σ21 (n + 1 + 1 + 1 + 1 + 1 + 1 + 1)) fun σ23 => bnd (ns_pR σ23 a0 9 (some (n + 1 + 1 + 1 + 1 + 1 + 1 + 1))) fun σ24 => grd (ns_kd (n + 1 + 1 + 1 + 1 + 1 + 1 + 1 + 1) = 10 ∧ ns_ln (n + 1 + 1 + 1 + 1 + 1 + 1 + 1 + 1) = 6 ∧ n + 1 + 1 + 1 + 1 + 1 + 1 + 1 + 1 < ns_N) <| bnd (ns_z σ24 (n + 1 + 1 + 1 + 1 + 1 + 1 + 1 + 1)) fun σ26 => bnd (ns_pR σ26 a0 10 (some (n + 1 + 1 + 1 + 1 + 1 + 1 + 1 + 1))) fun σ27 => grd (ns_kd (n + 1 + 1 + 1 + 1 + 1 + 1 + 1 + 1 + 1) = 10 ∧ ns_ln (n + 1 + 1 + 1 + 1 + 1 + 1 + 1 + 1 + 1) = 6 ∧ n + 1 + 1 + 1 + 1 + 1 + 1 + 1 + 1 + 1 < ns_N) <| bnd (ns_z σ27 (n + 1 + 1 + 1 + 1 + 1 + 1 + 1 + 1 + 1)) fun σ29 => bnd (ns_pR σ29 a0 11 (some (n + 1 + 1 + 1 + 1 + 1 + 1 + 1 + 1 + 1))) fun σ30 => grd (ns_kd (n + 1 + 1 + 1 + 1 + 1 + 1 + 1 + 1 + 1 + 1) = 10 ∧ ns_ln (n + 1 + 1 + 1 + 1 + 1 + 1 + 1 + 1 + 1 + 1) = 250 ∧ n + 1 + 1 + 1 + 1 + 1 + 1 + 1 + 1 + 1 + 1 < ns_N) <| bnd (ns_z σ30 (n + 1 + 1 + 1 + 1 + 1 + 1 + 1 + 1 + 1 + 1)) fun σ32 => bnd (ns_pR σ32 a0 16 (some (n + 1 + 1 + 1 + 1 + 1 + 1 + 1 + 1 + 1 + 1))) fun σ33 => grd (ns_kd (n + 1 + 1 + 1 + 1 + 1 + 1 + 1 + 1 + 1 + 1 + 1) = 10 ∧ ns_ln (n + 1 + 1 + 1 + 1 + 1 + 1 + 1 + 1 + 1 + 1 + 1) = 7 ∧ n + 1 + 1 + 1 + 1 + 1 + 1 + 1 + 1 + 1 + 1 + 1 < ns_N) <| bnd (ns_z σ33 (n + 1 + 1 + 1 + 1 + 1 + 1 + 1 + 1 + 1 + 1 + 1)) fun σ35 => bnd (ns_pR σ35 a0 21 (some (n + 1 + 1 + 1 + 1 + 1 + 1 + 1 + 1 + 1 + 1 + 1))) fun σ36 => grd (ns_kd (n + 1 + 1 + 1 + 1 + 1 + 1 + 1 + 1 + 1 + 1 + 1 + 1) = 10 ∧ ns_ln (n + 1 + 1 + 1 + 1 + 1 + 1 + 1 + 1 + 1 + 1 + 1 + 1) = 102 ∧ n + 1 + 1 + 1 + 1 + 1 + 1 + 1 + 1 + 1 + 1 + 1 + 1 < ns_N) <| bnd (ns_z σ36 (n + 1 + 1 + 1 + 1 + 1 + 1 + 1 + 1 + 1 + 1 + 1 + 1)) fun σ38 => bnd (ns_pR σ38 a0 23 (some (n + 1 + 1 + 1 + 1 + 1 + 1 + 1 + 1 + 1 + 1 + 1 + 1))) fun σ39 => grd (ns_kd (n + 1 + 1 + 1 + 1 + 1 + 1 + 1 + 1 + 1 + 1 + 1 + 1 + 1) = 10 ∧ ns_ln (n + 1 + 1 + 1 + 1 + 1 + 1 + 1 + 1 + 1 + 1 + 1 + 1 + 1) = 102 ∧ n + 1 + 1 + 1 + 1 + 1 + 1 + 1 + 1 + 1 + 1 + 1 + 1 + 1 < ns_N) <| bnd (ns_z σ39 (n + 1 + 1 + 1 + 1 + 1 + 1 + 1 + 1 + 1 + 1 + 1 + 1 + 1)) fun σ41 => bnd (ns_pR σ41 a0 24 (some (n + 1 + 1 + 1 + 1 + 1 + 1 + 1 + 1 + 1 + 1 + 1 + 1 + 1))) fun σ42 => grd (ns_kd (n + 1 + 1 + 1 + 1 + 1 + 1 + 1 + 1 + 1 + 1 + 1 + 1 + 1 + 1) = 10 ∧ ns_ln (n + 1 + 1 + 1 + 1 + 1 + 1 + 1 + 1 + 1 + 1 + 1 + 1 + 1 + 1) = 8000 ∧ n + 1 + 1 + 1 + 1 + 1 + 1 + 1 + 1 + 1 + 1 + 1 + 1 + 1 + 1 < ns_N) <| bnd (ns_z σ42 (n + 1 + 1 + 1 + 1 + 1 + 1 + 1 + 1 + 1 + 1 + 1 + 1 + 1 + 1)) fun σ44 => bnd (ns_pR σ44 a0 29 (some (n + 1 + 1 + 1 + 1 + 1 + 1 + 1 + 1 + 1 + 1 + 1 + 1 + 1 + 1))) fun σ45 => grd (ns_kd (n + 1 + 1 + 1 + 1 + 1 + 1 + 1 + 1 + 1 + 1 + 1 + 1 + 1 + 1 + 1) = 10 ∧ ns_ln (n + 1 + 1 + 1 + 1 + 1 + 1 + 1 + 1 + 1 + 1 + 1 + 1 + 1 + 1 + 1) = 61 ∧ n + 1 + 1 + 1 + 1 + 1 + 1 + 1 + 1 + 1 + 1 + 1 + 1 + 1 + 1 + 1 < ns_N) <| bnd (ns_z σ45 (n + 1 + 1 + 1 + 1 + 1 + 1 + 1 + 1 + 1 + 1 + 1 + 1 + 1 + 1 + 1)) fun σ47 => bnd (ns_pR σ47 a0 30 (some (n + 1 + 1 + 1 + 1 + 1 + 1 + 1 + 1 + 1 + 1 + 1 + 1 + 1 + 1 + 1))) fun σ48 => drf (σ48.2.2 a0 0) fun b49 => grd (ns_kd b49 = 10 ∧ b49 < n + 1 + 1 + 1 + 1 + 1 + 1 + 1 + 1 + 1 + 1 + 1 + 1 + 1 + 1 + 1 + 1) <| grd (ns_in (0 : Int32) (ns_ln b49)) <| bnd (ns_pI σ48 b49 (ns_ix (0 : Int32)) (-1 : Int32)) fun σ51 => drf (σ51.2.2 a0 0) fun b52 => grd (ns_kd b52 = 10 ∧ b52 < n + 1 + 1 + 1 + 1 + 1 + 1 + 1 + 1 + 1 + 1 + 1 + 1 + 1 + 1 + 1 + 1) <| grd (ns_in (1 : Int32) (ns_ln b52)) <| bnd (ns_pI σ51 b52 (ns_ix (1 : Int32)) (-1 : Int32)) fun σ54 => drf (σ54.2.2 a0 0) fun b55 => grd (ns_kd b55 = 10 ∧ b55 < n + 1 + 1 + 1 + 1 + 1 + 1 + 1 + 1 + 1 + 1 + 1 + 1 + 1 + 1 + 1 + 1) <| grd (ns_in (2 : Int32) (ns_ln b55)) <| bnd (ns_pI σ54 b55 (ns_ix (2 : Int32)) (-1 : Int32)) fun σ57 => drf (σ57.2.2 a0 0) fun b58 => grd (ns_kd b58 = 10 ∧ b58 < n + 1 + 1 + 1 + 1 + 1 + 1 + 1 + 1 + 1 + 1 + 1 + 1 + 1 + 1 + 1 + 1) <| grd (ns_in (3 : Int32) (ns_ln b58)) <| bnd (ns_pI σ57 b58 (ns_ix (3 : Int32)) (-1 : Int32)) fun σ60 => drf (σ60.2.2 a0 0) fun b61 => grd (ns_kd b61 = 10 ∧ b61 < n + 1 + 1 + 1 + 1 + 1 + 1 + 1 + 1 + 1 + 1 + 1 + 1 + 1 + 1 + 1 + 1) <| grd (ns_in (4 : Int32) (ns_ln b61)) <| bnd (ns_pI σ60 b61 (ns_ix (4 : Int32)) (-1 : Int32)) fun σ63 => drf (σ63.2.2 a0 0) fun b64 => grd (ns_kd b64 = 10 ∧ b64 < n + 1 + 1 + 1 + 1 + 1 + 1 + 1 + 1 + 1 + 1 + 1 + 1 + 1 + 1 + 1 + 1) <| grd (ns_in (5 : Int32) (ns_ln b64)) <| bnd (ns_pI σ63 b64 (ns_ix (5 : Int32)) (-1 : Int32)) fun σ66 => drf (σ66.2.2 a0 0) fun b67 => grd (ns_kd b67 = 10 ∧ b67 < n + 1 + 1 + 1 + 1 + 1 + 1 + 1 + 1 + 1 + 1 + 1 + 1 + 1 + 1 + 1 + 1) <| grd (ns_in (6 : Int32) (ns_ln b67)) <| bnd (ns_pI σ66 b67 (ns_ix (6 : Int32)) (-1 : Int32)) fun σ69 => drf (σ69.2.2 a0 0) fun b70 => grd (ns_kd b70 = 10 ∧ b70 < n + 1 + 1 + 1 + 1 + 1 + 1 + 1 + 1 + 1 + 1 + 1 + 1 + 1 + 1 + 1 + 1) <| grd (ns_in (7 : Int32) (ns_ln b70)) <| bnd (ns_pI σ69 b70 (ns_ix (7 : Int32)) (-1 : Int32)) fun σ72 => bnd (ns_pI σ72 a0 3 (30 : Int32)) fun σ73 => bnd (ns_pI σ73 a0 14 (1 : Int32)) fun σ74 => some (n + 1 + 1 + 1 + 1 + 1 + 1 + 1 + 1 + 1 + 1 + 1 + 1 + 1 + 1 + 1 + 1, σ74)
theorem c_Mule_init (G : ns_G) (l : Launch) (n : Nat) (σ : ns_St) (a0 : Nat) {n' : Nat} {σ' : ns_St} (hf : g_Mule_init n σ a0 = some (n', σ')) : ns_ok G l ⟨"NinthStep$Mule", "<init>", "()V"⟩ prog_4_method_1_code 1 none 1 12 0 0 [.ref (G.1 + a0)] n σ none n' σ' := by
  refine v_open (by decide) (Nat.le_of_ble_eq_true rfl) rfl ?_
  intro p e s m below meth c C hr hname
  have C : ns_Cx G p s m _ meth c prog_4_method_1_code "NinthStep$Mule" 1 := C
  unfold g_Mule_init at hf
  obtain ⟨⟨hk_a0, hl_a0⟩, hf⟩ := grd_e hf
  refine v_aload_n C 0 0 rfl 1 rfl (by decide +kernel) ?_
  refine v_obj C 3 tw_81 tw_25 tw_26 (Nat.le_of_ble_eq_true rfl) (Nat.le_of_ble_eq_true rfl) 4 rfl (by decide +kernel) ?_
  obtain ⟨rfl, rfl⟩ := ret_e hf
  exact v_vret C hr (by decide +kernel)
theorem hd_Mule_init : (⟨"NinthStep$Mule", "<init>", "()V"⟩ : MethodName).cls ≠ "java/lang/invoke/MethodHandle" ∧ (⟨"NinthStep$Mule", "<init>", "()V"⟩ : MethodName).cls ≠ "java/lang/invoke/VarHandle" ∧ (parseMethodDescriptor (⟨"NinthStep$Mule", "<init>", "()V"⟩ : MethodName).desc).map (fun d => d.parameters.length) = some 0 := by decide +kernel
theorem c_Ground_init (G : ns_G) (l : Launch) (n : Nat) (σ : ns_St) (a0 : Nat) {n' : Nat} {σ' : ns_St} (hf : g_Ground_init n σ a0 = some (n', σ')) : ns_ok G l ⟨"NinthStep$Ground", "<init>", "()V"⟩ prog_3_method_1_code 1 none 1 12 0 0 [.ref (G.1 + a0)] n σ none n' σ' := by
  refine v_open (by decide) (Nat.le_of_ble_eq_true rfl) rfl ?_
  intro p e s m below meth c C hr hname
  have C : ns_Cx G p s m _ meth c prog_3_method_1_code "NinthStep$Ground" 1 := C
  unfold g_Ground_init at hf
  obtain ⟨⟨hk_a0, hl_a0⟩, hf⟩ := grd_e hf
  refine v_aload_n C 0 0 rfl 1 rfl (by decide +kernel) ?_
  refine v_obj C 3 tw_38 tw_25 tw_26 (Nat.le_of_ble_eq_true rfl) (Nat.le_of_ble_eq_true rfl) 4 rfl (by decide +kernel) ?_
  refine v_aload_n C 0 0 rfl 5 rfl (by decide +kernel) ?_
  refine v_bipush C (30) (30) (by decide) 7 rfl (by decide +kernel) ?_
  obtain ⟨σ1, hσ1, hf⟩ := bnd_e hf
  refine v_putI C 1 0 hσ1 rfl nin_1 ny_1 nty_1 nnm_1 (by omega) hk_a0 (by decide) (by decide) rfl rfl rfl rfl 9 tw_39 rfl 10 rfl (by decide +kernel) ?_
  obtain ⟨rfl, rfl⟩ := ret_e hf
  exact v_vret C hr (by decide +kernel)
theorem hd_Ground_init : (⟨"NinthStep$Ground", "<init>", "()V"⟩ : MethodName).cls ≠ "java/lang/invoke/MethodHandle" ∧ (⟨"NinthStep$Ground", "<init>", "()V"⟩ : MethodName).cls ≠ "java/lang/invoke/VarHandle" ∧ (parseMethodDescriptor (⟨"NinthStep$Ground", "<init>", "()V"⟩ : MethodName).desc).map (fun d => d.parameters.length) = some 0 := by decide +kernel
theorem c_World_init (G : ns_G) (l : Launch) (n : Nat) (σ : ns_St) (a0 : Nat) {n' : Nat} {σ' : ns_St} (hf : g_World_init n σ a0 = some (n', σ')) : ns_ok G l ⟨"NinthStep$World", "<init>", "()V"⟩ prog_9_method_1_code 2 none 2 32 8 59 [.ref (G.1 + a0)] n σ none n' σ' := by
  refine v_open (by decide) (Nat.le_of_ble_eq_true rfl) rfl ?_
  intro p e s m below meth c C hr hname
  have C : ns_Cx G p s m _ meth c prog_9_method_1_code "NinthStep$World" 2 := C
  unfold g_World_init at hf
  obtain ⟨⟨hk_a0, hl_a0⟩, hf⟩ := grd_e hf
  refine v_aload_n C 0 0 rfl 1 rfl (by decide +kernel) ?_
  refine v_obj C 3 tw_32 tw_25 tw_26 (Nat.le_of_ble_eq_true rfl) (Nat.le_of_ble_eq_true rfl) 4 rfl (by decide +kernel) ?_
  refine v_aload_n C 0 0 rfl 5 rfl (by decide +kernel) ?_
  obtain ⟨hn1, hf⟩ := grd_e hf
  obtain ⟨σ2, hσ2, hf⟩ := bnd_e hf
  refine v_new C 1 rfl nin_1 ny_1 nty_1 nz_1 hσ2 hn1 (by decide) 9 tw_33 tw_34 tw_3 (Nat.le_of_ble_eq_true rfl) (Nat.le_of_ble_eq_true rfl) 8 rfl (by decide +kernel) ?_
  refine v_dup C rfl 9 rfl (by decide +kernel) ?_
  obtain ⟨n3, σ4, hcn3, hf⟩ := cl2_e hf
  obtain ⟨hln3, hf⟩ := grd_e hf
  refine v_callIN C [] [.ref (G.1 + n), .ref (G.1 + a0)] (c_Ground_init G l (n + 1) σ2 n hcn3) 11 0 tw_37 tw_35 tw_36 tw_3 rfl hd_Ground_init rfl ⟨(Nat.le_of_ble_eq_true rfl), (Nat.le_of_ble_eq_true rfl)⟩ ⟨(Nat.le_of_ble_eq_true rfl), (Nat.le_of_ble_eq_true rfl)⟩ (Nat.le_of_ble_eq_true rfl) rfl 12 rfl (by decide +kernel) ?_
  obtain ⟨σ5, hσ5, hf⟩ := bnd_e hf
  refine v_putRF (x := some n) C hname 7 0 hσ5 rfl nin_7 ny_7 nty_7 nnm_7 (by omega) hk_a0 (by decide) (by decide) rfl rfl rfl rfl 12 tw_125 rfl rfl 15 rfl (by decide +kernel) ?_
  refine v_aload_n C 0 0 rfl 16 rfl (by decide +kernel) ?_
  refine v_bipush C (6) (6) (by decide) 18 rfl (by decide +kernel) ?_
  obtain ⟨hn6, hf⟩ := grd_e hf
  obtain ⟨σ7, hσ7, hf⟩ := bnd_e hf
  refine v_anew C 12 2 (by decide) rfl C.2.2.2.2.2.1.2.2.1 6 (by decide) (by decide) (by decide) hσ7 hn6 18 tw_75 (Nat.le_of_ble_eq_true rfl) (Nat.le_of_ble_eq_true rfl) 21 rfl (by decide +kernel) ?_
  obtain ⟨σ8, hσ8, hf⟩ := bnd_e hf
  refine v_putRF (x := some (n3)) C hname 7 1 hσ8 rfl nin_7 ny_7 nty_7 nnm_7 (by omega) hk_a0 (by decide) (by decide) rfl rfl rfl rfl 20 tw_129 rfl rfl 24 rfl (by decide +kernel) ?_
  refine v_aload_n C 0 0 rfl 25 rfl (by decide +kernel) ?_
  refine v_iconst C (1) (1) (by decide) 26 rfl (by decide +kernel) ?_
  obtain ⟨σ9, hσ9, hf⟩ := bnd_e hf
  refine v_putI C 7 5 hσ9 rfl nin_7 ny_7 nty_7 nnm_7 (by omega) hk_a0 (by decide) (by decide) rfl rfl rfl rfl 24 tw_140 rfl 29 rfl (by decide +kernel) ?_
  refine v_iconst C (0) (0) (by decide) 30 rfl (by decide +kernel) ?_
  refine v_istore_n C 1 [(1, .int (0 : Int32)), (0, .ref (G.1 + a0))] (by decide) rfl 31 rfl (by decide +kernel) ?_
  refine v_iload_n C 1 0 rfl 32 rfl (by decide +kernel) ?_
  refine v_bipush C (6) (6) (by decide) 34 rfl (by decide +kernel) ?_
  refine v_icmp_ge C 56 37 rfl (by decide +kernel) (fun h => absurd h (by decide)) (fun _ => ?_)
  refine v_aload_n C 0 1 rfl 38 rfl (by decide +kernel) ?_
  obtain ⟨b10, hb10, hf⟩ := drf_e hf
  obtain ⟨⟨hk_b10, hl_b10⟩, hf⟩ := grd_e hf
  refine v_getR C 7 1 hb10 rfl nin_7 (by omega) hk_a0 (by decide) (by decide) rfl 20 tw_129 rfl 41 rfl (by decide +kernel) ?_
  refine v_iload_n C 1 0 rfl 42 rfl (by decide +kernel) ?_
  obtain ⟨hn11, hf⟩ := grd_e hf
  obtain ⟨σ12, hσ12, hf⟩ := bnd_e hf
  refine v_new C 2 rfl nin_2 ny_2 nty_2 nz_2 hσ12 hn11 (by decide) 18 tw_75 tw_77 tw_4 (Nat.le_of_ble_eq_true rfl) (Nat.le_of_ble_eq_true rfl) 45 rfl (by decide +kernel) ?_
  refine v_dup C rfl 46 rfl (by decide +kernel) ?_
  obtain ⟨n13, σ14, hcn13, hf⟩ := cl2_e hf
  obtain ⟨hln13, hf⟩ := grd_e hf
  refine v_callIN C [] [.ref (G.1 + (n3 + 1)), .int (0 : Int32), .ref (G.1 + b10)] (c_Mule_init G l (n3 + 1 + 1) σ12 (n3 + 1) hcn13) 28 0 tw_80 tw_78 tw_79 tw_4 rfl hd_Mule_init rfl ⟨(Nat.le_of_ble_eq_true rfl), (Nat.le_of_ble_eq_true rfl)⟩ ⟨(Nat.le_of_ble_eq_true rfl), (Nat.le_of_ble_eq_true rfl)⟩ (Nat.le_of_ble_eq_true rfl) rfl 49 rfl (by decide +kernel) ?_
  obtain ⟨hi15, hf⟩ := grd_e hf
  obtain ⟨σ16, hσ16, hf⟩ := bnd_e hf
  refine v_aast C 12 2 2 rfl (by decide) rfl hσ16 (by omega) hk_b10 (by omega) hn11.1 (by decide) hi15 50 rfl (by decide +kernel) ?_
  refine v_iinc C 1 (1) 0 (1) rfl (by decide) [(1, .int (1 : Int32)), (0, .ref (G.1 + a0))] (by decide) rfl 53 rfl (by decide +kernel) ?_
  refine v_goto C 31 (by decide +kernel) ?_
  refine v_iload_n C 1 0 rfl 32 rfl (by decide +kernel) ?_
  refine v_bipush C (6) (6) (by decide) 34 rfl (by decide +kernel) ?_
  refine v_icmp_ge C 56 37 rfl (by decide +kernel) (fun h => absurd h (by decide)) (fun _ => ?_)
  refine v_aload_n C 0 1 rfl 38 rfl (by decide +kernel) ?_
  obtain ⟨b17, hb17, hf⟩ := drf_e hf
  obtain ⟨⟨hk_b17, hl_b17⟩, hf⟩ := grd_e hf
  refine v_getR C 7 1 hb17 rfl nin_7 (by omega) hk_a0 (by decide) (by decide) rfl 20 tw_129 rfl 41 rfl (by decide +kernel) ?_
  refine v_iload_n C 1 0 rfl 42 rfl (by decide +kernel) ?_
  obtain ⟨hn18, hf⟩ := grd_e hf
  obtain ⟨σ19, hσ19, hf⟩ := bnd_e hf
  refine v_new C 2 rfl nin_2 ny_2 nty_2 nz_2 hσ19 hn18 (by decide) 18 tw_75 tw_77 tw_4 (Nat.le_of_ble_eq_true rfl) (Nat.le_of_ble_eq_true rfl) 45 rfl (by decide +kernel) ?_
  refine v_dup C rfl 46 rfl (by decide +kernel) ?_
  obtain ⟨n20, σ21, hcn20, hf⟩ := cl2_e hf
  obtain ⟨hln20, hf⟩ := grd_e hf
  refine v_callIN C [] [.ref (G.1 + (n13)), .int (1 : Int32), .ref (G.1 + b17)] (c_Mule_init G l (n13 + 1) σ19 (n13) hcn20) 28 0 tw_80 tw_78 tw_79 tw_4 rfl hd_Mule_init rfl ⟨(Nat.le_of_ble_eq_true rfl), (Nat.le_of_ble_eq_true rfl)⟩ ⟨(Nat.le_of_ble_eq_true rfl), (Nat.le_of_ble_eq_true rfl)⟩ (Nat.le_of_ble_eq_true rfl) rfl 49 rfl (by decide +kernel) ?_
  obtain ⟨hi22, hf⟩ := grd_e hf
  obtain ⟨σ23, hσ23, hf⟩ := bnd_e hf
  refine v_aast C 12 2 2 rfl (by decide) rfl hσ23 (by omega) hk_b17 (by omega) hn18.1 (by decide) hi22 50 rfl (by decide +kernel) ?_
  refine v_iinc C 1 (1) 0 (2) rfl (by decide) [(1, .int (2 : Int32)), (0, .ref (G.1 + a0))] (by decide) rfl 53 rfl (by decide +kernel) ?_
  refine v_goto C 31 (by decide +kernel) ?_
  refine v_iload_n C 1 0 rfl 32 rfl (by decide +kernel) ?_
  refine v_bipush C (6) (6) (by decide) 34 rfl (by decide +kernel) ?_
  refine v_icmp_ge C 56 37 rfl (by decide +kernel) (fun h => absurd h (by decide)) (fun _ => ?_)
  refine v_aload_n C 0 1 rfl 38 rfl (by decide +kernel) ?_
  obtain ⟨b24, hb24, hf⟩ := drf_e hf
  obtain ⟨⟨hk_b24, hl_b24⟩, hf⟩ := grd_e hf
  refine v_getR C 7 1 hb24 rfl nin_7 (by omega) hk_a0 (by decide) (by decide) rfl 20 tw_129 rfl 41 rfl (by decide +kernel) ?_
  refine v_iload_n C 1 0 rfl 42 rfl (by decide +kernel) ?_
  obtain ⟨hn25, hf⟩ := grd_e hf
  obtain ⟨σ26, hσ26, hf⟩ := bnd_e hf
  refine v_new C 2 rfl nin_2 ny_2 nty_2 nz_2 hσ26 hn25 (by decide) 18 tw_75 tw_77 tw_4 (Nat.le_of_ble_eq_true rfl) (Nat.le_of_ble_eq_true rfl) 45 rfl (by decide +kernel) ?_
  refine v_dup C rfl 46 rfl (by decide +kernel) ?_
  obtain ⟨n27, σ28, hcn27, hf⟩ := cl2_e hf
  obtain ⟨hln27, hf⟩ := grd_e hf
  refine v_callIN C [] [.ref (G.1 + (n20)), .int (2 : Int32), .ref (G.1 + b24)] (c_Mule_init G l (n20 + 1) σ26 (n20) hcn27) 28 0 tw_80 tw_78 tw_79 tw_4 rfl hd_Mule_init rfl ⟨(Nat.le_of_ble_eq_true rfl), (Nat.le_of_ble_eq_true rfl)⟩ ⟨(Nat.le_of_ble_eq_true rfl), (Nat.le_of_ble_eq_true rfl)⟩ (Nat.le_of_ble_eq_true rfl) rfl 49 rfl (by decide +kernel) ?_
  obtain ⟨hi29, hf⟩ := grd_e hf
  obtain ⟨σ30, hσ30, hf⟩ := bnd_e hf
  refine v_aast C 12 2 2 rfl (by decide) rfl hσ30 (by omega) hk_b24 (by omega) hn25.1 (by decide) hi29 50 rfl (by decide +kernel) ?_
  refine v_iinc C 1 (1) 0 (3) rfl (by decide) [(1, .int (3 : Int32)), (0, .ref (G.1 + a0))] (by decide) rfl 53 rfl (by decide +kernel) ?_
  refine v_goto C 31 (by decide +kernel) ?_
  refine v_iload_n C 1 0 rfl 32 rfl (by decide +kernel) ?_
  refine v_bipush C (6) (6) (by decide) 34 rfl (by decide +kernel) ?_
  refine v_icmp_ge C 56 37 rfl (by decide +kernel) (fun h => absurd h (by decide)) (fun _ => ?_)
  refine v_aload_n C 0 1 rfl 38 rfl (by decide +kernel) ?_
  obtain ⟨b31, hb31, hf⟩ := drf_e hf
  obtain ⟨⟨hk_b31, hl_b31⟩, hf⟩ := grd_e hf
  refine v_getR C 7 1 hb31 rfl nin_7 (by omega) hk_a0 (by decide) (by decide) rfl 20 tw_129 rfl 41 rfl (by decide +kernel) ?_
  refine v_iload_n C 1 0 rfl 42 rfl (by decide +kernel) ?_
  obtain ⟨hn32, hf⟩ := grd_e hf
  obtain ⟨σ33, hσ33, hf⟩ := bnd_e hf
  refine v_new C 2 rfl nin_2 ny_2 nty_2 nz_2 hσ33 hn32 (by decide) 18 tw_75 tw_77 tw_4 (Nat.le_of_ble_eq_true rfl) (Nat.le_of_ble_eq_true rfl) 45 rfl (by decide +kernel) ?_
  refine v_dup C rfl 46 rfl (by decide +kernel) ?_
  obtain ⟨n34, σ35, hcn34, hf⟩ := cl2_e hf
  obtain ⟨hln34, hf⟩ := grd_e hf
  refine v_callIN C [] [.ref (G.1 + (n27)), .int (3 : Int32), .ref (G.1 + b31)] (c_Mule_init G l (n27 + 1) σ33 (n27) hcn34) 28 0 tw_80 tw_78 tw_79 tw_4 rfl hd_Mule_init rfl ⟨(Nat.le_of_ble_eq_true rfl), (Nat.le_of_ble_eq_true rfl)⟩ ⟨(Nat.le_of_ble_eq_true rfl), (Nat.le_of_ble_eq_true rfl)⟩ (Nat.le_of_ble_eq_true rfl) rfl 49 rfl (by decide +kernel) ?_
  obtain ⟨hi36, hf⟩ := grd_e hf
  obtain ⟨σ37, hσ37, hf⟩ := bnd_e hf
  refine v_aast C 12 2 2 rfl (by decide) rfl hσ37 (by omega) hk_b31 (by omega) hn32.1 (by decide) hi36 50 rfl (by decide +kernel) ?_
  refine v_iinc C 1 (1) 0 (4) rfl (by decide) [(1, .int (4 : Int32)), (0, .ref (G.1 + a0))] (by decide) rfl 53 rfl (by decide +kernel) ?_
  refine v_goto C 31 (by decide +kernel) ?_
  refine v_iload_n C 1 0 rfl 32 rfl (by decide +kernel) ?_
  refine v_bipush C (6) (6) (by decide) 34 rfl (by decide +kernel) ?_
  refine v_icmp_ge C 56 37 rfl (by decide +kernel) (fun h => absurd h (by decide)) (fun _ => ?_)
  refine v_aload_n C 0 1 rfl 38 rfl (by decide +kernel) ?_
  obtain ⟨b38, hb38, hf⟩ := drf_e hf
  obtain ⟨⟨hk_b38, hl_b38⟩, hf⟩ := grd_e hf
  refine v_getR C 7 1 hb38 rfl nin_7 (by omega) hk_a0 (by decide) (by decide) rfl 20 tw_129 rfl 41 rfl (by decide +kernel) ?_
  refine v_iload_n C 1 0 rfl 42 rfl (by decide +kernel) ?_
  obtain ⟨hn39, hf⟩ := grd_e hf
  obtain ⟨σ40, hσ40, hf⟩ := bnd_e hf
  refine v_new C 2 rfl nin_2 ny_2 nty_2 nz_2 hσ40 hn39 (by decide) 18 tw_75 tw_77 tw_4 (Nat.le_of_ble_eq_true rfl) (Nat.le_of_ble_eq_true rfl) 45 rfl (by decide +kernel) ?_
  refine v_dup C rfl 46 rfl (by decide +kernel) ?_
  obtain ⟨n41, σ42, hcn41, hf⟩ := cl2_e hf
  obtain ⟨hln41, hf⟩ := grd_e hf
  refine v_callIN C [] [.ref (G.1 + (n34)), .int (4 : Int32), .ref (G.1 + b38)] (c_Mule_init G l (n34 + 1) σ40 (n34) hcn41) 28 0 tw_80 tw_78 tw_79 tw_4 rfl hd_Mule_init rfl ⟨(Nat.le_of_ble_eq_true rfl), (Nat.le_of_ble_eq_true rfl)⟩ ⟨(Nat.le_of_ble_eq_true rfl), (Nat.le_of_ble_eq_true rfl)⟩ (Nat.le_of_ble_eq_true rfl) rfl 49 rfl (by decide +kernel) ?_
  obtain ⟨hi43, hf⟩ := grd_e hf
  obtain ⟨σ44, hσ44, hf⟩ := bnd_e hf
  refine v_aast C 12 2 2 rfl (by decide) rfl hσ44 (by omega) hk_b38 (by omega) hn39.1 (by decide) hi43 50 rfl (by decide +kernel) ?_
  refine v_iinc C 1 (1) 0 (5) rfl (by decide) [(1, .int (5 : Int32)), (0, .ref (G.1 + a0))] (by decide) rfl 53 rfl (by decide +kernel) ?_
  refine v_goto C 31 (by decide +kernel) ?_
  refine v_iload_n C 1 0 rfl 32 rfl (by decide +kernel) ?_
  refine v_bipush C (6) (6) (by decide) 34 rfl (by decide +kernel) ?_
  refine v_icmp_ge C 56 37 rfl (by decide +kernel) (fun h => absurd h (by decide)) (fun _ => ?_)
  refine v_aload_n C 0 1 rfl 38 rfl (by decide +kernel) ?_
  obtain ⟨b45, hb45, hf⟩ := drf_e hf
  obtain ⟨⟨hk_b45, hl_b45⟩, hf⟩ := grd_e hf
  refine v_getR C 7 1 hb45 rfl nin_7 (by omega) hk_a0 (by decide) (by decide) rfl 20 tw_129 rfl 41 rfl (by decide +kernel) ?_
  refine v_iload_n C 1 0 rfl 42 rfl (by decide +kernel) ?_
  obtain ⟨hn46, hf⟩ := grd_e hf
  obtain ⟨σ47, hσ47, hf⟩ := bnd_e hf
  refine v_new C 2 rfl nin_2 ny_2 nty_2 nz_2 hσ47 hn46 (by decide) 18 tw_75 tw_77 tw_4 (Nat.le_of_ble_eq_true rfl) (Nat.le_of_ble_eq_true rfl) 45 rfl (by decide +kernel) ?_
  refine v_dup C rfl 46 rfl (by decide +kernel) ?_
  obtain ⟨n48, σ49, hcn48, hf⟩ := cl2_e hf
  obtain ⟨hln48, hf⟩ := grd_e hf
  refine v_callIN C [] [.ref (G.1 + (n41)), .int (5 : Int32), .ref (G.1 + b45)] (c_Mule_init G l (n41 + 1) σ47 (n41) hcn48) 28 0 tw_80 tw_78 tw_79 tw_4 rfl hd_Mule_init rfl ⟨(Nat.le_of_ble_eq_true rfl), (Nat.le_of_ble_eq_true rfl)⟩ ⟨(Nat.le_of_ble_eq_true rfl), (Nat.le_of_ble_eq_true rfl)⟩ (Nat.le_of_ble_eq_true rfl) rfl 49 rfl (by decide +kernel) ?_
  obtain ⟨hi50, hf⟩ := grd_e hf
  obtain ⟨σ51, hσ51, hf⟩ := bnd_e hf
  refine v_aast C 12 2 2 rfl (by decide) rfl hσ51 (by omega) hk_b45 (by omega) hn46.1 (by decide) hi50 50 rfl (by decide +kernel) ?_
  refine v_iinc C 1 (1) 0 (6) rfl (by decide) [(1, .int (6 : Int32)), (0, .ref (G.1 + a0))] (by decide) rfl 53 rfl (by decide +kernel) ?_
  refine v_goto C 31 (by decide +kernel) ?_
  refine v_iload_n C 1 0 rfl 32 rfl (by decide +kernel) ?_
  refine v_bipush C (6) (6) (by decide) 34 rfl (by decide +kernel) ?_
  refine v_icmp_ge C 56 37 rfl (by decide +kernel) (fun _ => ?_) (fun h => absurd h (by decide))
  obtain ⟨rfl, rfl⟩ := ret_e hf
  exact v_vret C hr (by decide +kernel)
theorem hd_World_init : (⟨"NinthStep$World", "<init>", "()V"⟩ : MethodName).cls ≠ "java/lang/invoke/MethodHandle" ∧ (⟨"NinthStep$World", "<init>", "()V"⟩ : MethodName).cls ≠ "java/lang/invoke/VarHandle" ∧ (parseMethodDescriptor (⟨"NinthStep$World", "<init>", "()V"⟩ : MethodName).desc).map (fun d => d.parameters.length) = some 0 := by decide +kernel
theorem c_Tape_init (G : ns_G) (l : Launch) (n : Nat) (σ : ns_St) (a0 : Nat) {n' : Nat} {σ' : ns_St} (hf : g_Tape_init n σ a0 = some (n', σ')) : ns_ok G l ⟨"NinthStep$Tape", "<init>", "()V"⟩ prog_7_method_1_code 1 none 1 12 1 250 [.ref (G.1 + a0)] n σ none n' σ' := by
  refine v_open (by decide) (Nat.le_of_ble_eq_true rfl) rfl ?_
  intro p e s m below meth c C hr hname
  have C : ns_Cx G p s m _ meth c prog_7_method_1_code "NinthStep$Tape" 1 := C
  unfold g_Tape_init at hf
  obtain ⟨⟨hk_a0, hl_a0⟩, hf⟩ := grd_e hf
  refine v_aload_n C 0 0 rfl 1 rfl (by decide +kernel) ?_
  refine v_obj C 3 tw_162 tw_25 tw_26 (Nat.le_of_ble_eq_true rfl) (Nat.le_of_ble_eq_true rfl) 4 rfl (by decide +kernel) ?_
  refine v_aload_n C 0 0 rfl 5 rfl (by decide +kernel) ?_
  refine v_sipush C (250) (250) (by decide) 8 rfl (by decide +kernel) ?_
  obtain ⟨hn1, hf⟩ := grd_e hf
  obtain ⟨σ2, hσ2, hf⟩ := bnd_e hf
  refine v_newI C 250 (by decide) (by decide) (by decide) hσ2 hn1 tw_184 (Nat.le_of_ble_eq_true rfl) (Nat.le_of_ble_eq_true rfl) 10 rfl (by decide +kernel) ?_
  obtain ⟨σ3, hσ3, hf⟩ := bnd_e hf
  refine v_putRF (x := some (n)) C hname 5 0 hσ3 rfl nin_5 ny_5 nty_5 nnm_5 (by omega) hk_a0 (by decide) (by decide) rfl rfl rfl rfl 9 tw_163 rfl rfl 13 rfl (by decide +kernel) ?_
  obtain ⟨rfl, rfl⟩ := ret_e hf
  exact v_vret C hr (by decide +kernel)
theorem hd_Tape_init : (⟨"NinthStep$Tape", "<init>", "()V"⟩ : MethodName).cls ≠ "java/lang/invoke/MethodHandle" ∧ (⟨"NinthStep$Tape", "<init>", "()V"⟩ : MethodName).cls ≠ "java/lang/invoke/VarHandle" ∧ (parseMethodDescriptor (⟨"NinthStep$Tape", "<init>", "()V"⟩ : MethodName).desc).map (fun d => d.parameters.length) = some 0 := by decide +kernel
theorem c_TurnPlan_init (G : ns_G) (l : Launch) (n : Nat) (σ : ns_St) (a0 : Nat) {n' : Nat} {σ' : ns_St} (hf : g_TurnPlan_init n σ a0 = some (n', σ')) : ns_ok G l ⟨"NinthStep$TurnPlan", "<init>", "()V"⟩ prog_8_method_1_code 1 none 2 32 3 3973 [.ref (G.1 + a0)] n σ none n' σ' := by
  refine v_open (by decide) (Nat.le_of_ble_eq_true rfl) rfl ?_
  intro p e s m below meth c C hr hname
  have C : ns_Cx G p s m _ meth c prog_8_method_1_code "NinthStep$TurnPlan" 1 := C
  unfold g_TurnPlan_init at hf
  obtain ⟨⟨hk_a0, hl_a0⟩, hf⟩ := grd_e hf
  refine v_aload_n C 0 0 rfl 1 rfl (by decide +kernel) ?_
  refine v_obj C 3 tw_190 tw_25 tw_26 (Nat.le_of_ble_eq_true rfl) (Nat.le_of_ble_eq_true rfl) 4 rfl (by decide +kernel) ?_
  refine v_aload_n C 0 0 rfl 5 rfl (by decide +kernel) ?_
  refine v_sipush C (3904) (3904) (by decide) 8 rfl (by decide +kernel) ?_
  obtain ⟨hn1, hf⟩ := grd_e hf
  obtain ⟨σ2, hσ2, hf⟩ := bnd_e hf
  refine v_newI C 3904 (by decide) (by decide) (by decide) hσ2 hn1 tw_184 (Nat.le_of_ble_eq_true rfl) (Nat.le_of_ble_eq_true rfl) 10 rfl (by decide +kernel) ?_
  obtain ⟨σ3, hσ3, hf⟩ := bnd_e hf
  refine v_putRF (x := some (n)) C hname 6 0 hσ3 rfl nin_6 ny_6 nty_6 nnm_6 (by omega) hk_a0 (by decide) (by decide) rfl rfl rfl rfl 11 tw_193 rfl rfl 13 rfl (by decide +kernel) ?_
  refine v_aload_n C 0 0 rfl 14 rfl (by decide +kernel) ?_
  refine v_bipush C (61) (61) (by decide) 16 rfl (by decide +kernel) ?_
  obtain ⟨hn4, hf⟩ := grd_e hf
  obtain ⟨σ5, hσ5, hf⟩ := bnd_e hf
  refine v_newI C 61 (by decide) (by decide) (by decide) hσ5 hn4 tw_184 (Nat.le_of_ble_eq_true rfl) (Nat.le_of_ble_eq_true rfl) 18 rfl (by decide +kernel) ?_
  obtain ⟨σ6, hσ6, hf⟩ := bnd_e hf
  refine v_putRF (x := some (n + 1)) C hname 6 1 hσ6 rfl nin_6 ny_6 nty_6 nnm_6 (by omega) hk_a0 (by decide) (by decide) rfl rfl rfl rfl 15 tw_194 rfl rfl 21 rfl (by decide +kernel) ?_
  refine v_aload_n C 0 0 rfl 22 rfl (by decide +kernel) ?_
  obtain ⟨hn7, hf⟩ := grd_e hf
  obtain ⟨σ8, hσ8, hf⟩ := bnd_e hf
  refine v_new C 2 rfl nin_2 ny_2 nty_2 nz_2 hσ8 hn7 (by decide) 18 tw_191 tw_77 tw_4 (Nat.le_of_ble_eq_true rfl) (Nat.le_of_ble_eq_true rfl) 25 rfl (by decide +kernel) ?_
  refine v_dup C rfl 26 rfl (by decide +kernel) ?_
  obtain ⟨n9, σ10, hcn9, hf⟩ := cl2_e hf
  obtain ⟨hln9, hf⟩ := grd_e hf
  refine v_callIN C [] [.ref (G.1 + (n + 1 + 1)), .ref (G.1 + a0)] (c_Mule_init G l (n + 1 + 1 + 1) σ8 (n + 1 + 1) hcn9) 20 0 tw_80 tw_192 tw_79 tw_4 rfl hd_Mule_init rfl ⟨(Nat.le_of_ble_eq_true rfl), (Nat.le_of_ble_eq_true rfl)⟩ ⟨(Nat.le_of_ble_eq_true rfl), (Nat.le_of_ble_eq_true rfl)⟩ (Nat.le_of_ble_eq_true rfl) rfl 29 rfl (by decide +kernel) ?_
  obtain ⟨σ11, hσ11, hf⟩ := bnd_e hf
  refine v_putRF (x := some (n + 1 + 1)) C hname 6 2 hσ11 rfl nin_6 ny_6 nty_6 nnm_6 (by omega) hk_a0 (by decide) (by decide) rfl rfl rfl rfl 21 tw_195 rfl rfl 32 rfl (by decide +kernel) ?_
  obtain ⟨rfl, rfl⟩ := ret_e hf
  exact v_vret C hr (by decide +kernel)
theorem hd_TurnPlan_init : (⟨"NinthStep$TurnPlan", "<init>", "()V"⟩ : MethodName).cls ≠ "java/lang/invoke/MethodHandle" ∧ (⟨"NinthStep$TurnPlan", "<init>", "()V"⟩ : MethodName).cls ≠ "java/lang/invoke/VarHandle" ∧ (parseMethodDescriptor (⟨"NinthStep$TurnPlan", "<init>", "()V"⟩ : MethodName).desc).map (fun d => d.parameters.length) = some 0 := by decide +kernel
theorem c_StonePlan_init (G : ns_G) (l : Launch) (n : Nat) (σ : ns_St) (a0 : Nat) {n' : Nat} {σ' : ns_St} (hf : g_StonePlan_init n σ a0 = some (n', σ')) : ns_ok G l ⟨"NinthStep$StonePlan", "<init>", "()V"⟩ prog_6_method_1_code 1 none 2 32 7 215 [.ref (G.1 + a0)] n σ none n' σ' := by
  refine v_open (by decide) (Nat.le_of_ble_eq_true rfl) rfl ?_
  intro p e s m below meth c C hr hname
  have C : ns_Cx G p s m _ meth c prog_6_method_1_code "NinthStep$StonePlan" 1 := C
  unfold g_StonePlan_init at hf
  obtain ⟨⟨hk_a0, hl_a0⟩, hf⟩ := grd_e hf
  refine v_aload_n C 0 0 rfl 1 rfl (by decide +kernel) ?_
  refine v_obj C 3 tw_217 tw_25 tw_26 (Nat.le_of_ble_eq_true rfl) (Nat.le_of_ble_eq_true rfl) 4 rfl (by decide +kernel) ?_
  refine v_aload_n C 0 0 rfl 5 rfl (by decide +kernel) ?_
  refine v_bipush C (61) (61) (by decide) 7 rfl (by decide +kernel) ?_
  obtain ⟨hn1, hf⟩ := grd_e hf
  obtain ⟨σ2, hσ2, hf⟩ := bnd_e hf
  refine v_newJ C 61 (by decide) (by decide) (by decide) hσ2 hn1 tw_253 (Nat.le_of_ble_eq_true rfl) (Nat.le_of_ble_eq_true rfl) 9 rfl (by decide +kernel) ?_
  obtain ⟨σ3, hσ3, hf⟩ := bnd_e hf
  refine v_putRF (x := some (n)) C hname 4 0 hσ3 rfl nin_4 ny_4 nty_4 nnm_4 (by omega) hk_a0 (by decide) (by decide) rfl rfl rfl rfl 9 tw_220 rfl rfl 12 rfl (by decide +kernel) ?_
  refine v_aload_n C 0 0 rfl 13 rfl (by decide +kernel) ?_
  refine v_bipush C (61) (61) (by decide) 15 rfl (by decide +kernel) ?_
  obtain ⟨hn4, hf⟩ := grd_e hf
  obtain ⟨σ5, hσ5, hf⟩ := bnd_e hf
  refine v_newJ C 61 (by decide) (by decide) (by decide) hσ5 hn4 tw_253 (Nat.le_of_ble_eq_true rfl) (Nat.le_of_ble_eq_true rfl) 17 rfl (by decide +kernel) ?_
  obtain ⟨σ6, hσ6, hf⟩ := bnd_e hf
  refine v_putRF (x := some (n + 1)) C hname 4 1 hσ6 rfl nin_4 ny_4 nty_4 nnm_4 (by omega) hk_a0 (by decide) (by decide) rfl rfl rfl rfl 15 tw_221 rfl rfl 20 rfl (by decide +kernel) ?_
  refine v_aload_n C 0 0 rfl 21 rfl (by decide +kernel) ?_
  refine v_bipush C (61) (61) (by decide) 23 rfl (by decide +kernel) ?_
  obtain ⟨hn7, hf⟩ := grd_e hf
  obtain ⟨σ8, hσ8, hf⟩ := bnd_e hf
  refine v_newI C 61 (by decide) (by decide) (by decide) hσ8 hn7 tw_184 (Nat.le_of_ble_eq_true rfl) (Nat.le_of_ble_eq_true rfl) 25 rfl (by decide +kernel) ?_
  obtain ⟨σ9, hσ9, hf⟩ := bnd_e hf
  refine v_putRF (x := some (n + 1 + 1)) C hname 4 2 hσ9 rfl nin_4 ny_4 nty_4 nnm_4 (by omega) hk_a0 (by decide) (by decide) rfl rfl rfl rfl 18 tw_222 rfl rfl 28 rfl (by decide +kernel) ?_
  refine v_aload_n C 0 0 rfl 29 rfl (by decide +kernel) ?_
  obtain ⟨hn10, hf⟩ := grd_e hf
  obtain ⟨σ11, hσ11, hf⟩ := bnd_e hf
  refine v_new C 2 rfl nin_2 ny_2 nty_2 nz_2 hσ11 hn10 (by decide) 22 tw_218 tw_77 tw_4 (Nat.le_of_ble_eq_true rfl) (Nat.le_of_ble_eq_true rfl) 32 rfl (by decide +kernel) ?_
  refine v_dup C rfl 33 rfl (by decide +kernel) ?_
  obtain ⟨n12, σ13, hcn12, hf⟩ := cl2_e hf
  obtain ⟨hln12, hf⟩ := grd_e hf
  refine v_callIN C [] [.ref (G.1 + (n + 1 + 1 + 1)), .ref (G.1 + a0)] (c_Mule_init G l (n + 1 + 1 + 1 + 1) σ11 (n + 1 + 1 + 1) hcn12) 24 0 tw_80 tw_219 tw_79 tw_4 rfl hd_Mule_init rfl ⟨(Nat.le_of_ble_eq_true rfl), (Nat.le_of_ble_eq_true rfl)⟩ ⟨(Nat.le_of_ble_eq_true rfl), (Nat.le_of_ble_eq_true rfl)⟩ (Nat.le_of_ble_eq_true rfl) rfl 36 rfl (by decide +kernel) ?_
  obtain ⟨σ14, hσ14, hf⟩ := bnd_e hf
  refine v_putRF (x := some (n + 1 + 1 + 1)) C hname 4 3 hσ14 rfl nin_4 ny_4 nty_4 nnm_4 (by omega) hk_a0 (by decide) (by decide) rfl rfl rfl rfl 25 tw_223 rfl rfl 39 rfl (by decide +kernel) ?_
  refine v_aload_n C 0 0 rfl 40 rfl (by decide +kernel) ?_
  obtain ⟨hn15, hf⟩ := grd_e hf
  obtain ⟨σ16, hσ16, hf⟩ := bnd_e hf
  refine v_new C 2 rfl nin_2 ny_2 nty_2 nz_2 hσ16 hn15 (by decide) 22 tw_218 tw_77 tw_4 (Nat.le_of_ble_eq_true rfl) (Nat.le_of_ble_eq_true rfl) 43 rfl (by decide +kernel) ?_
  refine v_dup C rfl 44 rfl (by decide +kernel) ?_
  obtain ⟨n17, σ18, hcn17, hf⟩ := cl2_e hf
  obtain ⟨hln17, hf⟩ := grd_e hf
  refine v_callIN C [] [.ref (G.1 + (n12)), .ref (G.1 + a0)] (c_Mule_init G l (n12 + 1) σ16 (n12) hcn17) 24 0 tw_80 tw_219 tw_79 tw_4 rfl hd_Mule_init rfl ⟨(Nat.le_of_ble_eq_true rfl), (Nat.le_of_ble_eq_true rfl)⟩ ⟨(Nat.le_of_ble_eq_true rfl), (Nat.le_of_ble_eq_true rfl)⟩ (Nat.le_of_ble_eq_true rfl) rfl 47 rfl (by decide +kernel) ?_
  obtain ⟨σ19, hσ19, hf⟩ := bnd_e hf
  refine v_putRF (x := some (n12)) C hname 4 4 hσ19 rfl nin_4 ny_4 nty_4 nnm_4 (by omega) hk_a0 (by decide) (by decide) rfl rfl rfl rfl 29 tw_224 rfl rfl 50 rfl (by decide +kernel) ?_
  refine v_aload_n C 0 0 rfl 51 rfl (by decide +kernel) ?_
  obtain ⟨hn20, hf⟩ := grd_e hf
  obtain ⟨σ21, hσ21, hf⟩ := bnd_e hf
  refine v_new C 2 rfl nin_2 ny_2 nty_2 nz_2 hσ21 hn20 (by decide) 22 tw_218 tw_77 tw_4 (Nat.le_of_ble_eq_true rfl) (Nat.le_of_ble_eq_true rfl) 54 rfl (by decide +kernel) ?_
  refine v_dup C rfl 55 rfl (by decide +kernel) ?_
  obtain ⟨n22, σ23, hcn22, hf⟩ := cl2_e hf
  obtain ⟨hln22, hf⟩ := grd_e hf
  refine v_callIN C [] [.ref (G.1 + (n17)), .ref (G.1 + a0)] (c_Mule_init G l (n17 + 1) σ21 (n17) hcn22) 24 0 tw_80 tw_219 tw_79 tw_4 rfl hd_Mule_init rfl ⟨(Nat.le_of_ble_eq_true rfl), (Nat.le_of_ble_eq_true rfl)⟩ ⟨(Nat.le_of_ble_eq_true rfl), (Nat.le_of_ble_eq_true rfl)⟩ (Nat.le_of_ble_eq_true rfl) rfl 58 rfl (by decide +kernel) ?_
  obtain ⟨σ24, hσ24, hf⟩ := bnd_e hf
  refine v_putRF (x := some (n17)) C hname 4 5 hσ24 rfl nin_4 ny_4 nty_4 nnm_4 (by omega) hk_a0 (by decide) (by decide) rfl rfl rfl rfl 32 tw_225 rfl rfl 61 rfl (by decide +kernel) ?_
  refine v_aload_n C 0 0 rfl 62 rfl (by decide +kernel) ?_
  obtain ⟨hn25, hf⟩ := grd_e hf
  obtain ⟨σ26, hσ26, hf⟩ := bnd_e hf
  refine v_new C 2 rfl nin_2 ny_2 nty_2 nz_2 hσ26 hn25 (by decide) 22 tw_218 tw_77 tw_4 (Nat.le_of_ble_eq_true rfl) (Nat.le_of_ble_eq_true rfl) 65 rfl (by decide +kernel) ?_
  refine v_dup C rfl 66 rfl (by decide +kernel) ?_
  obtain ⟨n27, σ28, hcn27, hf⟩ := cl2_e hf
  obtain ⟨hln27, hf⟩ := grd_e hf
  refine v_callIN C [] [.ref (G.1 + (n22)), .ref (G.1 + a0)] (c_Mule_init G l (n22 + 1) σ26 (n22) hcn27) 24 0 tw_80 tw_219 tw_79 tw_4 rfl hd_Mule_init rfl ⟨(Nat.le_of_ble_eq_true rfl), (Nat.le_of_ble_eq_true rfl)⟩ ⟨(Nat.le_of_ble_eq_true rfl), (Nat.le_of_ble_eq_true rfl)⟩ (Nat.le_of_ble_eq_true rfl) rfl 69 rfl (by decide +kernel) ?_
  obtain ⟨σ29, hσ29, hf⟩ := bnd_e hf
  refine v_putRF (x := some (n22)) C hname 4 6 hσ29 rfl nin_4 ny_4 nty_4 nnm_4 (by omega) hk_a0 (by decide) (by decide) rfl rfl rfl rfl 35 tw_226 rfl rfl 72 rfl (by decide +kernel) ?_
  obtain ⟨rfl, rfl⟩ := ret_e hf
  exact v_vret C hr (by decide +kernel)
theorem hd_StonePlan_init : (⟨"NinthStep$StonePlan", "<init>", "()V"⟩ : MethodName).cls ≠ "java/lang/invoke/MethodHandle" ∧ (⟨"NinthStep$StonePlan", "<init>", "()V"⟩ : MethodName).cls ≠ "java/lang/invoke/VarHandle" ∧ (parseMethodDescriptor (⟨"NinthStep$StonePlan", "<init>", "()V"⟩ : MethodName).desc).map (fun d => d.parameters.length) = some 0 := by decide +kernel
theorem c_Chance_init (G : ns_G) (l : Launch) (n : Nat) (σ : ns_St) (a0 : Nat) {n' : Nat} {σ' : ns_St} (hf : g_Chance_init n σ a0 = some (n', σ')) : ns_ok G l ⟨"NinthStep$Chance", "<init>", "()V"⟩ prog_2_method_1_code 1 none 1 12 2 130 [.ref (G.1 + a0)] n σ none n' σ' := by
  refine v_open (by decide) (Nat.le_of_ble_eq_true rfl) rfl ?_
  intro p e s m below meth c C hr hname
  have C : ns_Cx G p s m _ meth c prog_2_method_1_code "NinthStep$Chance" 1 := C
  unfold g_Chance_init at hf
  obtain ⟨⟨hk_a0, hl_a0⟩, hf⟩ := grd_e hf
  refine v_aload_n C 0 0 rfl 1 rfl (by decide +kernel) ?_
  refine v_obj C 3 tw_259 tw_25 tw_26 (Nat.le_of_ble_eq_true rfl) (Nat.le_of_ble_eq_true rfl) 4 rfl (by decide +kernel) ?_
  refine v_aload_n C 0 0 rfl 5 rfl (by decide +kernel) ?_
  refine v_bipush C (65) (65) (by decide) 7 rfl (by decide +kernel) ?_
  obtain ⟨hn1, hf⟩ := grd_e hf
  obtain ⟨σ2, hσ2, hf⟩ := bnd_e hf
  refine v_newI C 65 (by decide) (by decide) (by decide) hσ2 hn1 tw_184 (Nat.le_of_ble_eq_true rfl) (Nat.le_of_ble_eq_true rfl) 9 rfl (by decide +kernel) ?_
  obtain ⟨σ3, hσ3, hf⟩ := bnd_e hf
  refine v_putRF (x := some (n)) C hname 0 0 hσ3 rfl nin_0 ny_0 nty_0 nnm_0 (by omega) hk_a0 (by decide) (by decide) rfl rfl rfl rfl 9 tw_260 rfl rfl 12 rfl (by decide +kernel) ?_
  refine v_aload_n C 0 0 rfl 13 rfl (by decide +kernel) ?_
  refine v_bipush C (65) (65) (by decide) 15 rfl (by decide +kernel) ?_
  obtain ⟨hn4, hf⟩ := grd_e hf
  obtain ⟨σ5, hσ5, hf⟩ := bnd_e hf
  refine v_newI C 65 (by decide) (by decide) (by decide) hσ5 hn4 tw_184 (Nat.le_of_ble_eq_true rfl) (Nat.le_of_ble_eq_true rfl) 17 rfl (by decide +kernel) ?_
  obtain ⟨σ6, hσ6, hf⟩ := bnd_e hf
  refine v_putRF (x := some (n + 1)) C hname 0 1 hσ6 rfl nin_0 ny_0 nty_0 nnm_0 (by omega) hk_a0 (by decide) (by decide) rfl rfl rfl rfl 15 tw_261 rfl rfl 20 rfl (by decide +kernel) ?_
  obtain ⟨rfl, rfl⟩ := ret_e hf
  exact v_vret C hr (by decide +kernel)
theorem hd_Chance_init : (⟨"NinthStep$Chance", "<init>", "()V"⟩ : MethodName).cls ≠ "java/lang/invoke/MethodHandle" ∧ (⟨"NinthStep$Chance", "<init>", "()V"⟩ : MethodName).cls ≠ "java/lang/invoke/VarHandle" ∧ (parseMethodDescriptor (⟨"NinthStep$Chance", "<init>", "()V"⟩ : MethodName).desc).map (fun d => d.parameters.length) = some 0 := by decide +kernel
theorem c_Shelf_init (G : ns_G) (l : Launch) (n : Nat) (σ : ns_St) (a0 : Nat) {n' : Nat} {σ' : ns_St} (hf : g_Shelf_init n σ a0 = some (n', σ')) : ns_ok G l ⟨"NinthStep$Shelf", "<init>", "()V"⟩ prog_5_method_1_code 1 none 1 12 1 40 [.ref (G.1 + a0)] n σ none n' σ' := by
  refine v_open (by decide) (Nat.le_of_ble_eq_true rfl) rfl ?_
  intro p e s m below meth c C hr hname
  have C : ns_Cx G p s m _ meth c prog_5_method_1_code "NinthStep$Shelf" 1 := C
  unfold g_Shelf_init at hf
  obtain ⟨⟨hk_a0, hl_a0⟩, hf⟩ := grd_e hf
  refine v_aload_n C 0 0 rfl 1 rfl (by decide +kernel) ?_
  refine v_obj C 3 tw_273 tw_25 tw_26 (Nat.le_of_ble_eq_true rfl) (Nat.le_of_ble_eq_true rfl) 4 rfl (by decide +kernel) ?_
  refine v_aload_n C 0 0 rfl 5 rfl (by decide +kernel) ?_
  refine v_iconst C (-1) (-1) (by decide) 6 rfl (by decide +kernel) ?_
  obtain ⟨σ1, hσ1, hf⟩ := bnd_e hf
  refine v_putI C 3 0 hσ1 rfl nin_3 ny_3 nty_3 nnm_3 (by omega) hk_a0 (by decide) (by decide) rfl rfl rfl rfl 9 tw_274 rfl 9 rfl (by decide +kernel) ?_
  refine v_aload_n C 0 0 rfl 10 rfl (by decide +kernel) ?_
  refine v_bipush C (40) (40) (by decide) 12 rfl (by decide +kernel) ?_
  obtain ⟨hn2, hf⟩ := grd_e hf
  obtain ⟨σ3, hσ3, hf⟩ := bnd_e hf
  refine v_newJ C 40 (by decide) (by decide) (by decide) hσ3 hn2 tw_253 (Nat.le_of_ble_eq_true rfl) (Nat.le_of_ble_eq_true rfl) 14 rfl (by decide +kernel) ?_
  obtain ⟨σ4, hσ4, hf⟩ := bnd_e hf
  refine v_putRF (x := some (n)) C hname 3 2 hσ4 rfl nin_3 ny_3 nty_3 nnm_3 (by omega) hk_a0 (by decide) (by decide) rfl rfl rfl rfl 15 tw_278 rfl rfl 17 rfl (by decide +kernel) ?_
  obtain ⟨rfl, rfl⟩ := ret_e hf
  exact v_vret C hr (by decide +kernel)
theorem hd_Shelf_init : (⟨"NinthStep$Shelf", "<init>", "()V"⟩ : MethodName).cls ≠ "java/lang/invoke/MethodHandle" ∧ (⟨"NinthStep$Shelf", "<init>", "()V"⟩ : MethodName).cls ≠ "java/lang/invoke/VarHandle" ∧ (parseMethodDescriptor (⟨"NinthStep$Shelf", "<init>", "()V"⟩ : MethodName).desc).map (fun d => d.parameters.length) = some 0 := by decide +kernel
theorem c_N_init (G : ns_G) (l : Launch) (n : Nat) (σ : ns_St) (a0 : Nat) {n' : Nat} {σ' : ns_St} (hf : g_N_init n σ a0 = some (n', σ')) : ns_ok G l ⟨"NinthStep", "<init>", "()V"⟩ prog_1_method_1_code 2 none 3 53 64 5213 [.ref (G.1 + a0)] n σ none n' σ' := by
  refine v_open (by decide) (Nat.le_of_ble_eq_true rfl) rfl ?_
  intro p e s m below meth c C hr hname
  have C : ns_Cx G p s m _ meth c prog_1_method_1_code "NinthStep" 2 := C
  unfold g_N_init at hf
  obtain ⟨⟨hk_a0, hl_a0⟩, hf⟩ := grd_e hf
  refine v_aload_n C 0 0 rfl 1 rfl (by decide +kernel) ?_
  refine v_obj C 3 tw_24 tw_25 tw_26 (Nat.le_of_ble_eq_true rfl) (Nat.le_of_ble_eq_true rfl) 4 rfl (by decide +kernel) ?_
  refine v_aload_n C 0 0 rfl 5 rfl (by decide +kernel) ?_
  obtain ⟨hn1, hf⟩ := grd_e hf
  obtain ⟨σ2, hσ2, hf⟩ := bnd_e hf
  refine v_new C 7 rfl nin_7 ny_7 nty_7 nz_7 hσ2 hn1 (by decide) 9 tw_27 tw_28 tw_2 (Nat.le_of_ble_eq_true rfl) (Nat.le_of_ble_eq_true rfl) 8 rfl (by decide +kernel) ?_
  refine v_dup C rfl 9 rfl (by decide +kernel) ?_
  obtain ⟨n3, σ4, hcn3, hf⟩ := cl2_e hf
  obtain ⟨hln3, hf⟩ := grd_e hf
  refine v_callIN C [] [.ref (G.1 + n), .ref (G.1 + a0)] (c_World_init G l (n + 1) σ2 n hcn3) 11 0 tw_31 tw_29 tw_30 tw_2 rfl hd_World_init rfl ⟨(Nat.le_of_ble_eq_true rfl), (Nat.le_of_ble_eq_true rfl)⟩ ⟨(Nat.le_of_ble_eq_true rfl), (Nat.le_of_ble_eq_true rfl)⟩ (Nat.le_of_ble_eq_true rfl) rfl 12 rfl (by decide +kernel) ?_
  obtain ⟨σ5, hσ5, hf⟩ := bnd_e hf
  refine v_putRF (x := some n) C hname 8 0 hσ5 rfl nin_8 ny_8 nty_8 nnm_8 (by omega) hk_a0 (by decide) (by decide) rfl rfl rfl rfl 12 tw_287 rfl rfl 15 rfl (by decide +kernel) ?_
  refine v_aload_n C 0 0 rfl 16 rfl (by decide +kernel) ?_
  obtain ⟨hn6, hf⟩ := grd_e hf
  obtain ⟨σ7, hσ7, hf⟩ := bnd_e hf
  refine v_new C 7 rfl nin_7 ny_7 nty_7 nz_7 hσ7 hn6 (by decide) 9 tw_27 tw_28 tw_2 (Nat.le_of_ble_eq_true rfl) (Nat.le_of_ble_eq_true rfl) 19 rfl (by decide +kernel) ?_
  refine v_dup C rfl 20 rfl (by decide +kernel) ?_
  obtain ⟨n8, σ9, hcn8, hf⟩ := cl2_e hf
  obtain ⟨hln8, hf⟩ := grd_e hf
  refine v_callIN C [] [.ref (G.1 + (n3)), .ref (G.1 + a0)] (c_World_init G l (n3 + 1) σ7 (n3) hcn8) 11 0 tw_31 tw_29 tw_30 tw_2 rfl hd_World_init rfl ⟨(Nat.le_of_ble_eq_true rfl), (Nat.le_of_ble_eq_true rfl)⟩ ⟨(Nat.le_of_ble_eq_true rfl), (Nat.le_of_ble_eq_true rfl)⟩ (Nat.le_of_ble_eq_true rfl) rfl 23 rfl (by decide +kernel) ?_
  obtain ⟨σ10, hσ10, hf⟩ := bnd_e hf
  refine v_putRF (x := some (n3)) C hname 8 1 hσ10 rfl nin_8 ny_8 nty_8 nnm_8 (by omega) hk_a0 (by decide) (by decide) rfl rfl rfl rfl 16 tw_288 rfl rfl 26 rfl (by decide +kernel) ?_
  refine v_aload_n C 0 0 rfl 27 rfl (by decide +kernel) ?_
  obtain ⟨hn11, hf⟩ := grd_e hf
  obtain ⟨σ12, hσ12, hf⟩ := bnd_e hf
  refine v_new C 7 rfl nin_7 ny_7 nty_7 nz_7 hσ12 hn11 (by decide) 9 tw_27 tw_28 tw_2 (Nat.le_of_ble_eq_true rfl) (Nat.le_of_ble_eq_true rfl) 30 rfl (by decide +kernel) ?_
  refine v_dup C rfl 31 rfl (by decide +kernel) ?_
  obtain ⟨n13, σ14, hcn13, hf⟩ := cl2_e hf
  obtain ⟨hln13, hf⟩ := grd_e hf
  refine v_callIN C [] [.ref (G.1 + (n8)), .ref (G.1 + a0)] (c_World_init G l (n8 + 1) σ12 (n8) hcn13) 11 0 tw_31 tw_29 tw_30 tw_2 rfl hd_World_init rfl ⟨(Nat.le_of_ble_eq_true rfl), (Nat.le_of_ble_eq_true rfl)⟩ ⟨(Nat.le_of_ble_eq_true rfl), (Nat.le_of_ble_eq_true rfl)⟩ (Nat.le_of_ble_eq_true rfl) rfl 34 rfl (by decide +kernel) ?_
  obtain ⟨σ15, hσ15, hf⟩ := bnd_e hf
  refine v_putRF (x := some (n8)) C hname 8 2 hσ15 rfl nin_8 ny_8 nty_8 nnm_8 (by omega) hk_a0 (by decide) (by decide) rfl rfl rfl rfl 19 tw_289 rfl rfl 37 rfl (by decide +kernel) ?_
  refine v_aload_n C 0 0 rfl 38 rfl (by decide +kernel) ?_
  refine v_bipush C (8) (8) (by decide) 40 rfl (by decide +kernel) ?_
  obtain ⟨hn16, hf⟩ := grd_e hf
  obtain ⟨σ17, hσ17, hf⟩ := bnd_e hf
  refine v_anew C 13 3 (by decide) rfl C.2.2.2.2.2.1.2.2.2.1 8 (by decide) (by decide) (by decide) hσ17 hn16 22 tw_155 (Nat.le_of_ble_eq_true rfl) (Nat.le_of_ble_eq_true rfl) 43 rfl (by decide +kernel) ?_
  obtain ⟨σ18, hσ18, hf⟩ := bnd_e hf
  refine v_putRF (x := some (n13)) C hname 8 3 hσ18 rfl nin_8 ny_8 nty_8 nnm_8 (by omega) hk_a0 (by decide) (by decide) rfl rfl rfl rfl 24 tw_290 rfl rfl 46 rfl (by decide +kernel) ?_
  refine v_aload_n C 0 0 rfl 47 rfl (by decide +kernel) ?_
  obtain ⟨hn19, hf⟩ := grd_e hf
  obtain ⟨σ20, hσ20, hf⟩ := bnd_e hf
  refine v_new C 5 rfl nin_5 ny_5 nty_5 nz_5 hσ20 hn19 (by decide) 28 tw_157 tw_158 tw_5 (Nat.le_of_ble_eq_true rfl) (Nat.le_of_ble_eq_true rfl) 50 rfl (by decide +kernel) ?_
  refine v_dup C rfl 51 rfl (by decide +kernel) ?_
  obtain ⟨n21, σ22, hcn21, hf⟩ := cl2_e hf
  obtain ⟨hln21, hf⟩ := grd_e hf
  refine v_callIN C [] [.ref (G.1 + (n13 + 1)), .ref (G.1 + a0)] (c_Tape_init G l (n13 + 1 + 1) σ20 (n13 + 1) hcn21) 30 0 tw_161 tw_159 tw_160 tw_5 rfl hd_Tape_init rfl ⟨(Nat.le_of_ble_eq_true rfl), (Nat.le_of_ble_eq_true rfl)⟩ ⟨(Nat.le_of_ble_eq_true rfl), (Nat.le_of_ble_eq_true rfl)⟩ (Nat.le_of_ble_eq_true rfl) rfl 54 rfl (by decide +kernel) ?_
  obtain ⟨σ23, hσ23, hf⟩ := bnd_e hf
  refine v_putRF (x := some (n13 + 1)) C hname 8 4 hσ23 rfl nin_8 ny_8 nty_8 nnm_8 (by omega) hk_a0 (by decide) (by decide) rfl rfl rfl rfl 31 tw_291 rfl rfl 57 rfl (by decide +kernel) ?_
  refine v_aload_n C 0 0 rfl 58 rfl (by decide +kernel) ?_
  obtain ⟨hn24, hf⟩ := grd_e hf
  obtain ⟨σ25, hσ25, hf⟩ := bnd_e hf
  refine v_new C 6 rfl nin_6 ny_6 nty_6 nz_6 hσ25 hn24 (by decide) 35 tw_185 tw_186 tw_6 (Nat.le_of_ble_eq_true rfl) (Nat.le_of_ble_eq_true rfl) 61 rfl (by decide +kernel) ?_
  refine v_dup C rfl 62 rfl (by decide +kernel) ?_
  obtain ⟨n26, σ27, hcn26, hf⟩ := cl2_e hf
  obtain ⟨hln26, hf⟩ := grd_e hf
  refine v_callIN C [] [.ref (G.1 + (n21)), .ref (G.1 + a0)] (c_TurnPlan_init G l (n21 + 1) σ25 (n21) hcn26) 37 0 tw_189 tw_187 tw_188 tw_6 rfl hd_TurnPlan_init rfl ⟨(Nat.le_of_ble_eq_true rfl), (Nat.le_of_ble_eq_true rfl)⟩ ⟨(Nat.le_of_ble_eq_true rfl), (Nat.le_of_ble_eq_true rfl)⟩ (Nat.le_of_ble_eq_true rfl) rfl 65 rfl (by decide +kernel) ?_
  obtain ⟨σ28, hσ28, hf⟩ := bnd_e hf
  refine v_putRF (x := some (n21)) C hname 8 5 hσ28 rfl nin_8 ny_8 nty_8 nnm_8 (by omega) hk_a0 (by decide) (by decide) rfl rfl rfl rfl 38 tw_292 rfl rfl 68 rfl (by decide +kernel) ?_
  refine v_aload_n C 0 0 rfl 69 rfl (by decide +kernel) ?_
  obtain ⟨hn29, hf⟩ := grd_e hf
  obtain ⟨σ30, hσ30, hf⟩ := bnd_e hf
  refine v_new C 4 rfl nin_4 ny_4 nty_4 nz_4 hσ30 hn29 (by decide) 42 tw_212 tw_213 tw_7 (Nat.le_of_ble_eq_true rfl) (Nat.le_of_ble_eq_true rfl) 72 rfl (by decide +kernel) ?_
  refine v_dup C rfl 73 rfl (by decide +kernel) ?_
  obtain ⟨n31, σ32, hcn31, hf⟩ := cl2_e hf
  obtain ⟨hln31, hf⟩ := grd_e hf
  refine v_callIN C [] [.ref (G.1 + (n26)), .ref (G.1 + a0)] (c_StonePlan_init G l (n26 + 1) σ30 (n26) hcn31) 44 0 tw_216 tw_214 tw_215 tw_7 rfl hd_StonePlan_init rfl ⟨(Nat.le_of_ble_eq_true rfl), (Nat.le_of_ble_eq_true rfl)⟩ ⟨(Nat.le_of_ble_eq_true rfl), (Nat.le_of_ble_eq_true rfl)⟩ (Nat.le_of_ble_eq_true rfl) rfl 76 rfl (by decide +kernel) ?_
  obtain ⟨σ33, hσ33, hf⟩ := bnd_e hf
  refine v_putRF (x := some (n26)) C hname 8 6 hσ33 rfl nin_8 ny_8 nty_8 nnm_8 (by omega) hk_a0 (by decide) (by decide) rfl rfl rfl rfl 45 tw_293 rfl rfl 79 rfl (by decide +kernel) ?_
  refine v_aload_n C 0 0 rfl 80 rfl (by decide +kernel) ?_
  obtain ⟨hn34, hf⟩ := grd_e hf
  obtain ⟨σ35, hσ35, hf⟩ := bnd_e hf
  refine v_new C 0 rfl nin_0 ny_0 nty_0 nz_0 hσ35 hn34 (by decide) 49 tw_254 tw_255 tw_8 (Nat.le_of_ble_eq_true rfl) (Nat.le_of_ble_eq_true rfl) 83 rfl (by decide +kernel) ?_
  refine v_dup C rfl 84 rfl (by decide +kernel) ?_
  obtain ⟨n36, σ37, hcn36, hf⟩ := cl2_e hf
  obtain ⟨hln36, hf⟩ := grd_e hf
  refine v_callIN C [] [.ref (G.1 + (n31)), .ref (G.1 + a0)] (c_Chance_init G l (n31 + 1) σ35 (n31) hcn36) 51 0 tw_258 tw_256 tw_257 tw_8 rfl hd_Chance_init rfl ⟨(Nat.le_of_ble_eq_true rfl), (Nat.le_of_ble_eq_true rfl)⟩ ⟨(Nat.le_of_ble_eq_true rfl), (Nat.le_of_ble_eq_true rfl)⟩ (Nat.le_of_ble_eq_true rfl) rfl 87 rfl (by decide +kernel) ?_
  obtain ⟨σ38, hσ38, hf⟩ := bnd_e hf
  refine v_putRF (x := some (n31)) C hname 8 7 hσ38 rfl nin_8 ny_8 nty_8 nnm_8 (by omega) hk_a0 (by decide) (by decide) rfl rfl rfl rfl 52 tw_294 rfl rfl 90 rfl (by decide +kernel) ?_
  refine v_aload_n C 0 0 rfl 91 rfl (by decide +kernel) ?_
  obtain ⟨hn39, hf⟩ := grd_e hf
  obtain ⟨σ40, hσ40, hf⟩ := bnd_e hf
  refine v_new C 2 rfl nin_2 ny_2 nty_2 nz_2 hσ40 hn39 (by decide) 56 tw_267 tw_77 tw_4 (Nat.le_of_ble_eq_true rfl) (Nat.le_of_ble_eq_true rfl) 94 rfl (by decide +kernel) ?_
  refine v_dup C rfl 95 rfl (by decide +kernel) ?_
  obtain ⟨n41, σ42, hcn41, hf⟩ := cl2_e hf
  obtain ⟨hln41, hf⟩ := grd_e hf
  refine v_callIN C [] [.ref (G.1 + (n36)), .ref (G.1 + a0)] (c_Mule_init G l (n36 + 1) σ40 (n36) hcn41) 58 0 tw_80 tw_268 tw_79 tw_4 rfl hd_Mule_init rfl ⟨(Nat.le_of_ble_eq_true rfl), (Nat.le_of_ble_eq_true rfl)⟩ ⟨(Nat.le_of_ble_eq_true rfl), (Nat.le_of_ble_eq_true rfl)⟩ (Nat.le_of_ble_eq_true rfl) rfl 98 rfl (by decide +kernel) ?_
  obtain ⟨σ43, hσ43, hf⟩ := bnd_e hf
  refine v_putRF (x := some (n36)) C hname 8 8 hσ43 rfl nin_8 ny_8 nty_8 nnm_8 (by omega) hk_a0 (by decide) (by decide) rfl rfl rfl rfl 59 tw_295 rfl rfl 101 rfl (by decide +kernel) ?_
  refine v_aload_n C 0 0 rfl 102 rfl (by decide +kernel) ?_
  refine v_bipush C (61) (61) (by decide) 104 rfl (by decide +kernel) ?_
  obtain ⟨hn44, hf⟩ := grd_e hf
  obtain ⟨σ45, hσ45, hf⟩ := bnd_e hf
  refine v_newI C 61 (by decide) (by decide) (by decide) hσ45 hn44 tw_184 (Nat.le_of_ble_eq_true rfl) (Nat.le_of_ble_eq_true rfl) 106 rfl (by decide +kernel) ?_
  obtain ⟨σ46, hσ46, hf⟩ := bnd_e hf
  refine v_putRF (x := some (n41)) C hname 8 9 hσ46 rfl nin_8 ny_8 nty_8 nnm_8 (by omega) hk_a0 (by decide) (by decide) rfl rfl rfl rfl 63 tw_296 rfl rfl 109 rfl (by decide +kernel) ?_
  refine v_aload_n C 0 0 rfl 110 rfl (by decide +kernel) ?_
  refine v_iconst C (5) (5) (by decide) 111 rfl (by decide +kernel) ?_
  obtain ⟨hn47, hf⟩ := grd_e hf
  obtain ⟨σ48, hσ48, hf⟩ := bnd_e hf
  refine v_newI C 5 (by decide) (by decide) (by decide) hσ48 hn47 tw_184 (Nat.le_of_ble_eq_true rfl) (Nat.le_of_ble_eq_true rfl) 113 rfl (by decide +kernel) ?_
  obtain ⟨σ49, hσ49, hf⟩ := bnd_e hf
  refine v_putRF (x := some (n41 + 1)) C hname 8 10 hσ49 rfl nin_8 ny_8 nty_8 nnm_8 (by omega) hk_a0 (by decide) (by decide) rfl rfl rfl rfl 67 tw_297 rfl rfl 116 rfl (by decide +kernel) ?_
  refine v_iconst C (0) (0) (by decide) 117 rfl (by decide +kernel) ?_
  refine v_istore_n C 1 [(1, .int (0 : Int32)), (0, .ref (G.1 + a0))] (by decide) rfl 118 rfl (by decide +kernel) ?_
  refine v_iload_n C 1 0 rfl 119 rfl (by decide +kernel) ?_
  refine v_bipush C (8) (8) (by decide) 121 rfl (by decide +kernel) ?_
  refine v_icmp_ge C 143 124 rfl (by decide +kernel) (fun h => absurd h (by decide)) (fun _ => ?_)
  refine v_aload_n C 0 1 rfl 125 rfl (by decide +kernel) ?_
  obtain ⟨b50, hb50, hf⟩ := drf_e hf
  obtain ⟨⟨hk_b50, hl_b50⟩, hf⟩ := grd_e hf
  refine v_getR C 8 3 hb50 rfl nin_8 (by omega) hk_a0 (by decide) (by decide) rfl 24 tw_290 rfl 128 rfl (by decide +kernel) ?_
  refine v_iload_n C 1 0 rfl 129 rfl (by decide +kernel) ?_
  obtain ⟨hn51, hf⟩ := grd_e hf
  obtain ⟨σ52, hσ52, hf⟩ := bnd_e hf
  refine v_new C 3 rfl nin_3 ny_3 nty_3 nz_3 hσ52 hn51 (by decide) 22 tw_155 tw_269 tw_9 (Nat.le_of_ble_eq_true rfl) (Nat.le_of_ble_eq_true rfl) 132 rfl (by decide +kernel) ?_
  refine v_dup C rfl 133 rfl (by decide +kernel) ?_
  obtain ⟨n53, σ54, hcn53, hf⟩ := cl2_e hf
  obtain ⟨hln53, hf⟩ := grd_e hf
  refine v_callIN C [] [.ref (G.1 + (n41 + 1 + 1)), .int (0 : Int32), .ref (G.1 + b50)] (c_Shelf_init G l (n41 + 1 + 1 + 1) σ52 (n41 + 1 + 1) hcn53) 70 0 tw_272 tw_270 tw_271 tw_9 rfl hd_Shelf_init rfl ⟨(Nat.le_of_ble_eq_true rfl), (Nat.le_of_ble_eq_true rfl)⟩ ⟨(Nat.le_of_ble_eq_true rfl), (Nat.le_of_ble_eq_true rfl)⟩ (Nat.le_of_ble_eq_true rfl) rfl 136 rfl (by decide +kernel) ?_
  obtain ⟨hi55, hf⟩ := grd_e hf
  obtain ⟨σ56, hσ56, hf⟩ := bnd_e hf
  refine v_aast C 13 3 3 rfl (by decide) rfl hσ56 (by omega) hk_b50 (by omega) hn51.1 (by decide) hi55 137 rfl (by decide +kernel) ?_
  refine v_iinc C 1 (1) 0 (1) rfl (by decide) [(1, .int (1 : Int32)), (0, .ref (G.1 + a0))] (by decide) rfl 140 rfl (by decide +kernel) ?_
  refine v_goto C 118 (by decide +kernel) ?_
  refine v_iload_n C 1 0 rfl 119 rfl (by decide +kernel) ?_
  refine v_bipush C (8) (8) (by decide) 121 rfl (by decide +kernel) ?_
  refine v_icmp_ge C 143 124 rfl (by decide +kernel) (fun h => absurd h (by decide)) (fun _ => ?_)
  refine v_aload_n C 0 1 rfl 125 rfl (by decide +kernel) ?_
  obtain ⟨b57, hb57, hf⟩ := drf_e hf
  obtain ⟨⟨hk_b57, hl_b57⟩, hf⟩ := grd_e hf
  refine v_getR C 8 3 hb57 rfl nin_8 (by omega) hk_a0 (by decide) (by decide) rfl 24 tw_290 rfl 128 rfl (by decide +kernel) ?_
  refine v_iload_n C 1 0 rfl 129 rfl (by decide +kernel) ?_
  obtain ⟨hn58, hf⟩ := grd_e hf
  obtain ⟨σ59, hσ59, hf⟩ := bnd_e hf
  refine v_new C 3 rfl nin_3 ny_3 nty_3 nz_3 hσ59 hn58 (by decide) 22 tw_155 tw_269 tw_9 (Nat.le_of_ble_eq_true rfl) (Nat.le_of_ble_eq_true rfl) 132 rfl (by decide +kernel) ?_
  refine v_dup C rfl 133 rfl (by decide +kernel) ?_
  obtain ⟨n60, σ61, hcn60, hf⟩ := cl2_e hf
  obtain ⟨hln60, hf⟩ := grd_e hf
  refine v_callIN C [] [.ref (G.1 + (n53)), .int (1 : Int32), .ref (G.1 + b57)] (c_Shelf_init G l (n53 + 1) σ59 (n53) hcn60) 70 0 tw_272 tw_270 tw_271 tw_9 rfl hd_Shelf_init rfl ⟨(Nat.le_of_ble_eq_true rfl), (Nat.le_of_ble_eq_true rfl)⟩ ⟨(Nat.le_of_ble_eq_true rfl), (Nat.le_of_ble_eq_true rfl)⟩ (Nat.le_of_ble_eq_true rfl) rfl 136 rfl (by decide +kernel) ?_
  obtain ⟨hi62, hf⟩ := grd_e hf
  obtain ⟨σ63, hσ63, hf⟩ := bnd_e hf
  refine v_aast C 13 3 3 rfl (by decide) rfl hσ63 (by omega) hk_b57 (by omega) hn58.1 (by decide) hi62 137 rfl (by decide +kernel) ?_
  refine v_iinc C 1 (1) 0 (2) rfl (by decide) [(1, .int (2 : Int32)), (0, .ref (G.1 + a0))] (by decide) rfl 140 rfl (by decide +kernel) ?_
  refine v_goto C 118 (by decide +kernel) ?_
  refine v_iload_n C 1 0 rfl 119 rfl (by decide +kernel) ?_
  refine v_bipush C (8) (8) (by decide) 121 rfl (by decide +kernel) ?_
  refine v_icmp_ge C 143 124 rfl (by decide +kernel) (fun h => absurd h (by decide)) (fun _ => ?_)
  refine v_aload_n C 0 1 rfl 125 rfl (by decide +kernel) ?_
  obtain ⟨b64, hb64, hf⟩ := drf_e hf
  obtain ⟨⟨hk_b64, hl_b64⟩, hf⟩ := grd_e hf
  refine v_getR C 8 3 hb64 rfl nin_8 (by omega) hk_a0 (by decide) (by decide) rfl 24 tw_290 rfl 128 rfl (by decide +kernel) ?_
  refine v_iload_n C 1 0 rfl 129 rfl (by decide +kernel) ?_
  obtain ⟨hn65, hf⟩ := grd_e hf
  obtain ⟨σ66, hσ66, hf⟩ := bnd_e hf
  refine v_new C 3 rfl nin_3 ny_3 nty_3 nz_3 hσ66 hn65 (by decide) 22 tw_155 tw_269 tw_9 (Nat.le_of_ble_eq_true rfl) (Nat.le_of_ble_eq_true rfl) 132 rfl (by decide +kernel) ?_
  refine v_dup C rfl 133 rfl (by decide +kernel) ?_
  obtain ⟨n67, σ68, hcn67, hf⟩ := cl2_e hf
  obtain ⟨hln67, hf⟩ := grd_e hf
  refine v_callIN C [] [.ref (G.1 + (n60)), .int (2 : Int32), .ref (G.1 + b64)] (c_Shelf_init G l (n60 + 1) σ66 (n60) hcn67) 70 0 tw_272 tw_270 tw_271 tw_9 rfl hd_Shelf_init rfl ⟨(Nat.le_of_ble_eq_true rfl), (Nat.le_of_ble_eq_true rfl)⟩ ⟨(Nat.le_of_ble_eq_true rfl), (Nat.le_of_ble_eq_true rfl)⟩ (Nat.le_of_ble_eq_true rfl) rfl 136 rfl (by decide +kernel) ?_
  obtain ⟨hi69, hf⟩ := grd_e hf
  obtain ⟨σ70, hσ70, hf⟩ := bnd_e hf
  refine v_aast C 13 3 3 rfl (by decide) rfl hσ70 (by omega) hk_b64 (by omega) hn65.1 (by decide) hi69 137 rfl (by decide +kernel) ?_
  refine v_iinc C 1 (1) 0 (3) rfl (by decide) [(1, .int (3 : Int32)), (0, .ref (G.1 + a0))] (by decide) rfl 140 rfl (by decide +kernel) ?_
  refine v_goto C 118 (by decide +kernel) ?_
  refine v_iload_n C 1 0 rfl 119 rfl (by decide +kernel) ?_
  refine v_bipush C (8) (8) (by decide) 121 rfl (by decide +kernel) ?_
  refine v_icmp_ge C 143 124 rfl (by decide +kernel) (fun h => absurd h (by decide)) (fun _ => ?_)
  refine v_aload_n C 0 1 rfl 125 rfl (by decide +kernel) ?_
  obtain ⟨b71, hb71, hf⟩ := drf_e hf
  obtain ⟨⟨hk_b71, hl_b71⟩, hf⟩ := grd_e hf
  refine v_getR C 8 3 hb71 rfl nin_8 (by omega) hk_a0 (by decide) (by decide) rfl 24 tw_290 rfl 128 rfl (by decide +kernel) ?_
  refine v_iload_n C 1 0 rfl 129 rfl (by decide +kernel) ?_
  obtain ⟨hn72, hf⟩ := grd_e hf
  obtain ⟨σ73, hσ73, hf⟩ := bnd_e hf
  refine v_new C 3 rfl nin_3 ny_3 nty_3 nz_3 hσ73 hn72 (by decide) 22 tw_155 tw_269 tw_9 (Nat.le_of_ble_eq_true rfl) (Nat.le_of_ble_eq_true rfl) 132 rfl (by decide +kernel) ?_
  refine v_dup C rfl 133 rfl (by decide +kernel) ?_
  obtain ⟨n74, σ75, hcn74, hf⟩ := cl2_e hf
  obtain ⟨hln74, hf⟩ := grd_e hf
  refine v_callIN C [] [.ref (G.1 + (n67)), .int (3 : Int32), .ref (G.1 + b71)] (c_Shelf_init G l (n67 + 1) σ73 (n67) hcn74) 70 0 tw_272 tw_270 tw_271 tw_9 rfl hd_Shelf_init rfl ⟨(Nat.le_of_ble_eq_true rfl), (Nat.le_of_ble_eq_true rfl)⟩ ⟨(Nat.le_of_ble_eq_true rfl), (Nat.le_of_ble_eq_true rfl)⟩ (Nat.le_of_ble_eq_true rfl) rfl 136 rfl (by decide +kernel) ?_
  obtain ⟨hi76, hf⟩ := grd_e hf
  obtain ⟨σ77, hσ77, hf⟩ := bnd_e hf
  refine v_aast C 13 3 3 rfl (by decide) rfl hσ77 (by omega) hk_b71 (by omega) hn72.1 (by decide) hi76 137 rfl (by decide +kernel) ?_
  refine v_iinc C 1 (1) 0 (4) rfl (by decide) [(1, .int (4 : Int32)), (0, .ref (G.1 + a0))] (by decide) rfl 140 rfl (by decide +kernel) ?_
  refine v_goto C 118 (by decide +kernel) ?_
  refine v_iload_n C 1 0 rfl 119 rfl (by decide +kernel) ?_
  refine v_bipush C (8) (8) (by decide) 121 rfl (by decide +kernel) ?_
  refine v_icmp_ge C 143 124 rfl (by decide +kernel) (fun h => absurd h (by decide)) (fun _ => ?_)
  refine v_aload_n C 0 1 rfl 125 rfl (by decide +kernel) ?_
  obtain ⟨b78, hb78, hf⟩ := drf_e hf
  obtain ⟨⟨hk_b78, hl_b78⟩, hf⟩ := grd_e hf
  refine v_getR C 8 3 hb78 rfl nin_8 (by omega) hk_a0 (by decide) (by decide) rfl 24 tw_290 rfl 128 rfl (by decide +kernel) ?_
  refine v_iload_n C 1 0 rfl 129 rfl (by decide +kernel) ?_
  obtain ⟨hn79, hf⟩ := grd_e hf
  obtain ⟨σ80, hσ80, hf⟩ := bnd_e hf
  refine v_new C 3 rfl nin_3 ny_3 nty_3 nz_3 hσ80 hn79 (by decide) 22 tw_155 tw_269 tw_9 (Nat.le_of_ble_eq_true rfl) (Nat.le_of_ble_eq_true rfl) 132 rfl (by decide +kernel) ?_
  refine v_dup C rfl 133 rfl (by decide +kernel) ?_
  obtain ⟨n81, σ82, hcn81, hf⟩ := cl2_e hf
  obtain ⟨hln81, hf⟩ := grd_e hf
  refine v_callIN C [] [.ref (G.1 + (n74)), .int (4 : Int32), .ref (G.1 + b78)] (c_Shelf_init G l (n74 + 1) σ80 (n74) hcn81) 70 0 tw_272 tw_270 tw_271 tw_9 rfl hd_Shelf_init rfl ⟨(Nat.le_of_ble_eq_true rfl), (Nat.le_of_ble_eq_true rfl)⟩ ⟨(Nat.le_of_ble_eq_true rfl), (Nat.le_of_ble_eq_true rfl)⟩ (Nat.le_of_ble_eq_true rfl) rfl 136 rfl (by decide +kernel) ?_
  obtain ⟨hi83, hf⟩ := grd_e hf
  obtain ⟨σ84, hσ84, hf⟩ := bnd_e hf
  refine v_aast C 13 3 3 rfl (by decide) rfl hσ84 (by omega) hk_b78 (by omega) hn79.1 (by decide) hi83 137 rfl (by decide +kernel) ?_
  refine v_iinc C 1 (1) 0 (5) rfl (by decide) [(1, .int (5 : Int32)), (0, .ref (G.1 + a0))] (by decide) rfl 140 rfl (by decide +kernel) ?_
  refine v_goto C 118 (by decide +kernel) ?_
  refine v_iload_n C 1 0 rfl 119 rfl (by decide +kernel) ?_
  refine v_bipush C (8) (8) (by decide) 121 rfl (by decide +kernel) ?_
  refine v_icmp_ge C 143 124 rfl (by decide +kernel) (fun h => absurd h (by decide)) (fun _ => ?_)
  refine v_aload_n C 0 1 rfl 125 rfl (by decide +kernel) ?_
  obtain ⟨b85, hb85, hf⟩ := drf_e hf
  obtain ⟨⟨hk_b85, hl_b85⟩, hf⟩ := grd_e hf
  refine v_getR C 8 3 hb85 rfl nin_8 (by omega) hk_a0 (by decide) (by decide) rfl 24 tw_290 rfl 128 rfl (by decide +kernel) ?_
  refine v_iload_n C 1 0 rfl 129 rfl (by decide +kernel) ?_
  obtain ⟨hn86, hf⟩ := grd_e hf
  obtain ⟨σ87, hσ87, hf⟩ := bnd_e hf
  refine v_new C 3 rfl nin_3 ny_3 nty_3 nz_3 hσ87 hn86 (by decide) 22 tw_155 tw_269 tw_9 (Nat.le_of_ble_eq_true rfl) (Nat.le_of_ble_eq_true rfl) 132 rfl (by decide +kernel) ?_
  refine v_dup C rfl 133 rfl (by decide +kernel) ?_
  obtain ⟨n88, σ89, hcn88, hf⟩ := cl2_e hf
  obtain ⟨hln88, hf⟩ := grd_e hf
  refine v_callIN C [] [.ref (G.1 + (n81)), .int (5 : Int32), .ref (G.1 + b85)] (c_Shelf_init G l (n81 + 1) σ87 (n81) hcn88) 70 0 tw_272 tw_270 tw_271 tw_9 rfl hd_Shelf_init rfl ⟨(Nat.le_of_ble_eq_true rfl), (Nat.le_of_ble_eq_true rfl)⟩ ⟨(Nat.le_of_ble_eq_true rfl), (Nat.le_of_ble_eq_true rfl)⟩ (Nat.le_of_ble_eq_true rfl) rfl 136 rfl (by decide +kernel) ?_
  obtain ⟨hi90, hf⟩ := grd_e hf
  obtain ⟨σ91, hσ91, hf⟩ := bnd_e hf
  refine v_aast C 13 3 3 rfl (by decide) rfl hσ91 (by omega) hk_b85 (by omega) hn86.1 (by decide) hi90 137 rfl (by decide +kernel) ?_
  refine v_iinc C 1 (1) 0 (6) rfl (by decide) [(1, .int (6 : Int32)), (0, .ref (G.1 + a0))] (by decide) rfl 140 rfl (by decide +kernel) ?_
  refine v_goto C 118 (by decide +kernel) ?_
  refine v_iload_n C 1 0 rfl 119 rfl (by decide +kernel) ?_
  refine v_bipush C (8) (8) (by decide) 121 rfl (by decide +kernel) ?_
  refine v_icmp_ge C 143 124 rfl (by decide +kernel) (fun h => absurd h (by decide)) (fun _ => ?_)
  refine v_aload_n C 0 1 rfl 125 rfl (by decide +kernel) ?_
  obtain ⟨b92, hb92, hf⟩ := drf_e hf
  obtain ⟨⟨hk_b92, hl_b92⟩, hf⟩ := grd_e hf
  refine v_getR C 8 3 hb92 rfl nin_8 (by omega) hk_a0 (by decide) (by decide) rfl 24 tw_290 rfl 128 rfl (by decide +kernel) ?_
  refine v_iload_n C 1 0 rfl 129 rfl (by decide +kernel) ?_
  obtain ⟨hn93, hf⟩ := grd_e hf
  obtain ⟨σ94, hσ94, hf⟩ := bnd_e hf
  refine v_new C 3 rfl nin_3 ny_3 nty_3 nz_3 hσ94 hn93 (by decide) 22 tw_155 tw_269 tw_9 (Nat.le_of_ble_eq_true rfl) (Nat.le_of_ble_eq_true rfl) 132 rfl (by decide +kernel) ?_
  refine v_dup C rfl 133 rfl (by decide +kernel) ?_
  obtain ⟨n95, σ96, hcn95, hf⟩ := cl2_e hf
  obtain ⟨hln95, hf⟩ := grd_e hf
  refine v_callIN C [] [.ref (G.1 + (n88)), .int (6 : Int32), .ref (G.1 + b92)] (c_Shelf_init G l (n88 + 1) σ94 (n88) hcn95) 70 0 tw_272 tw_270 tw_271 tw_9 rfl hd_Shelf_init rfl ⟨(Nat.le_of_ble_eq_true rfl), (Nat.le_of_ble_eq_true rfl)⟩ ⟨(Nat.le_of_ble_eq_true rfl), (Nat.le_of_ble_eq_true rfl)⟩ (Nat.le_of_ble_eq_true rfl) rfl 136 rfl (by decide +kernel) ?_
  obtain ⟨hi97, hf⟩ := grd_e hf
  obtain ⟨σ98, hσ98, hf⟩ := bnd_e hf
  refine v_aast C 13 3 3 rfl (by decide) rfl hσ98 (by omega) hk_b92 (by omega) hn93.1 (by decide) hi97 137 rfl (by decide +kernel) ?_
  refine v_iinc C 1 (1) 0 (7) rfl (by decide) [(1, .int (7 : Int32)), (0, .ref (G.1 + a0))] (by decide) rfl 140 rfl (by decide +kernel) ?_
  refine v_goto C 118 (by decide +kernel) ?_
  refine v_iload_n C 1 0 rfl 119 rfl (by decide +kernel) ?_
  refine v_bipush C (8) (8) (by decide) 121 rfl (by decide +kernel) ?_
  refine v_icmp_ge C 143 124 rfl (by decide +kernel) (fun h => absurd h (by decide)) (fun _ => ?_)
  refine v_aload_n C 0 1 rfl 125 rfl (by decide +kernel) ?_
  obtain ⟨b99, hb99, hf⟩ := drf_e hf
  obtain ⟨⟨hk_b99, hl_b99⟩, hf⟩ := grd_e hf
  refine v_getR C 8 3 hb99 rfl nin_8 (by omega) hk_a0 (by decide) (by decide) rfl 24 tw_290 rfl 128 rfl (by decide +kernel) ?_
  refine v_iload_n C 1 0 rfl 129 rfl (by decide +kernel) ?_
  obtain ⟨hn100, hf⟩ := grd_e hf
  obtain ⟨σ101, hσ101, hf⟩ := bnd_e hf
  refine v_new C 3 rfl nin_3 ny_3 nty_3 nz_3 hσ101 hn100 (by decide) 22 tw_155 tw_269 tw_9 (Nat.le_of_ble_eq_true rfl) (Nat.le_of_ble_eq_true rfl) 132 rfl (by decide +kernel) ?_
  refine v_dup C rfl 133 rfl (by decide +kernel) ?_
  obtain ⟨n102, σ103, hcn102, hf⟩ := cl2_e hf
  obtain ⟨hln102, hf⟩ := grd_e hf
  refine v_callIN C [] [.ref (G.1 + (n95)), .int (7 : Int32), .ref (G.1 + b99)] (c_Shelf_init G l (n95 + 1) σ101 (n95) hcn102) 70 0 tw_272 tw_270 tw_271 tw_9 rfl hd_Shelf_init rfl ⟨(Nat.le_of_ble_eq_true rfl), (Nat.le_of_ble_eq_true rfl)⟩ ⟨(Nat.le_of_ble_eq_true rfl), (Nat.le_of_ble_eq_true rfl)⟩ (Nat.le_of_ble_eq_true rfl) rfl 136 rfl (by decide +kernel) ?_
  obtain ⟨hi104, hf⟩ := grd_e hf
  obtain ⟨σ105, hσ105, hf⟩ := bnd_e hf
  refine v_aast C 13 3 3 rfl (by decide) rfl hσ105 (by omega) hk_b99 (by omega) hn100.1 (by decide) hi104 137 rfl (by decide +kernel) ?_
  refine v_iinc C 1 (1) 0 (8) rfl (by decide) [(1, .int (8 : Int32)), (0, .ref (G.1 + a0))] (by decide) rfl 140 rfl (by decide +kernel) ?_
  refine v_goto C 118 (by decide +kernel) ?_
  refine v_iload_n C 1 0 rfl 119 rfl (by decide +kernel) ?_
  refine v_bipush C (8) (8) (by decide) 121 rfl (by decide +kernel) ?_
  refine v_icmp_ge C 143 124 rfl (by decide +kernel) (fun _ => ?_) (fun h => absurd h (by decide))
  obtain ⟨rfl, rfl⟩ := ret_e hf
  exact v_vret C hr (by decide +kernel)
theorem hd_N_init : (⟨"NinthStep", "<init>", "()V"⟩ : MethodName).cls ≠ "java/lang/invoke/MethodHandle" ∧ (⟨"NinthStep", "<init>", "()V"⟩ : MethodName).cls ≠ "java/lang/invoke/VarHandle" ∧ (parseMethodDescriptor (⟨"NinthStep", "<init>", "()V"⟩ : MethodName).desc).map (fun d => d.parameters.length) = some 0 := by decide +kernel
theorem c_M_init (G : ns_G) (l : Launch) (n : Nat) (σ : ns_St) (a0 : Nat) {n' : Nat} {σ' : ns_St} (hf : g_M_init n σ a0 = some (n', σ')) : ns_ok G l ⟨"NinthStepModel", "<init>", "()V"⟩ prog_11_method_1_code 2 none 1 12 16 8955 [.ref (G.1 + a0)] n σ none n' σ' := by
  refine v_open (by decide) (Nat.le_of_ble_eq_true rfl) rfl ?_
  intro p e s m below meth c C hr hname
  have C : ns_Cx G p s m _ meth c prog_11_method_1_code "NinthStepModel" 2 := C
  unfold g_M_init at hf
  obtain ⟨⟨hk_a0, hl_a0⟩, hf⟩ := grd_e hf
  refine v_aload_n C 0 0 rfl 1 rfl (by decide +kernel) ?_
  refine v_obj C 1 tw_974 tw_25 tw_26 (Nat.le_of_ble_eq_true rfl) (Nat.le_of_ble_eq_true rfl) 4 rfl (by decide +kernel) ?_
  refine v_aload_n C 0 0 rfl 5 rfl (by decide +kernel) ?_
  refine v_bipush C (8) (8) (by decide) 7 rfl (by decide +kernel) ?_
  obtain ⟨hn1, hf⟩ := grd_e hf
  obtain ⟨σ2, hσ2, hf⟩ := bnd_e hf
  refine v_newI C 8 (by decide) (by decide) (by decide) hσ2 hn1 tw_184 (Nat.le_of_ble_eq_true rfl) (Nat.le_of_ble_eq_true rfl) 9 rfl (by decide +kernel) ?_
  obtain ⟨σ3, hσ3, hf⟩ := bnd_e hf
  refine v_putRF (x := some (n)) C hname 9 0 hσ3 rfl nin_9 ny_9 nty_9 nnm_9 (by omega) hk_a0 (by decide) (by decide) rfl rfl rfl rfl 7 tw_975 rfl rfl 12 rfl (by decide +kernel) ?_
  refine v_aload_n C 0 0 rfl 13 rfl (by decide +kernel) ?_
  refine v_bipush C (8) (8) (by decide) 15 rfl (by decide +kernel) ?_
  obtain ⟨hn4, hf⟩ := grd_e hf
  obtain ⟨σ5, hσ5, hf⟩ := bnd_e hf
  refine v_newI C 8 (by decide) (by decide) (by decide) hσ5 hn4 tw_184 (Nat.le_of_ble_eq_true rfl) (Nat.le_of_ble_eq_true rfl) 17 rfl (by decide +kernel) ?_
  obtain ⟨σ6, hσ6, hf⟩ := bnd_e hf
  refine v_putRF (x := some (n + 1)) C hname 9 1 hσ6 rfl nin_9 ny_9 nty_9 nnm_9 (by omega) hk_a0 (by decide) (by decide) rfl rfl rfl rfl 13 tw_976 rfl rfl 20 rfl (by decide +kernel) ?_
  refine v_aload_n C 0 0 rfl 21 rfl (by decide +kernel) ?_
  refine v_sipush C (320) (320) (by decide) 24 rfl (by decide +kernel) ?_
  obtain ⟨hn7, hf⟩ := grd_e hf
  obtain ⟨σ8, hσ8, hf⟩ := bnd_e hf
  refine v_newJ C 320 (by decide) (by decide) (by decide) hσ8 hn7 tw_253 (Nat.le_of_ble_eq_true rfl) (Nat.le_of_ble_eq_true rfl) 26 rfl (by decide +kernel) ?_
  obtain ⟨σ9, hσ9, hf⟩ := bnd_e hf
  refine v_putRF (x := some (n + 1 + 1)) C hname 9 2 hσ9 rfl nin_9 ny_9 nty_9 nnm_9 (by omega) hk_a0 (by decide) (by decide) rfl rfl rfl rfl 16 tw_977 rfl rfl 29 rfl (by decide +kernel) ?_
  refine v_aload_n C 0 0 rfl 30 rfl (by decide +kernel) ?_
  refine v_bipush C (61) (61) (by decide) 32 rfl (by decide +kernel) ?_
  obtain ⟨hn10, hf⟩ := grd_e hf
  obtain ⟨σ11, hσ11, hf⟩ := bnd_e hf
  refine v_newI C 61 (by decide) (by decide) (by decide) hσ11 hn10 tw_184 (Nat.le_of_ble_eq_true rfl) (Nat.le_of_ble_eq_true rfl) 34 rfl (by decide +kernel) ?_
  obtain ⟨σ12, hσ12, hf⟩ := bnd_e hf
  refine v_putRF (x := some (n + 1 + 1 + 1)) C hname 9 4 hσ12 rfl nin_9 ny_9 nty_9 nnm_9 (by omega) hk_a0 (by decide) (by decide) rfl rfl rfl rfl 20 tw_979 rfl rfl 37 rfl (by decide +kernel) ?_
  refine v_aload_n C 0 0 rfl 38 rfl (by decide +kernel) ?_
  refine v_bipush C (6) (6) (by decide) 40 rfl (by decide +kernel) ?_
  obtain ⟨hn13, hf⟩ := grd_e hf
  obtain ⟨σ14, hσ14, hf⟩ := bnd_e hf
  refine v_newI C 6 (by decide) (by decide) (by decide) hσ14 hn13 tw_184 (Nat.le_of_ble_eq_true rfl) (Nat.le_of_ble_eq_true rfl) 42 rfl (by decide +kernel) ?_
  obtain ⟨σ15, hσ15, hf⟩ := bnd_e hf
  refine v_putRF (x := some (n + 1 + 1 + 1 + 1)) C hname 9 6 hσ15 rfl nin_9 ny_9 nty_9 nnm_9 (by omega) hk_a0 (by decide) (by decide) rfl rfl rfl rfl 23 tw_981 rfl rfl 45 rfl (by decide +kernel) ?_
  refine v_aload_n C 0 0 rfl 46 rfl (by decide +kernel) ?_
  refine v_bipush C (6) (6) (by decide) 48 rfl (by decide +kernel) ?_
  obtain ⟨hn16, hf⟩ := grd_e hf
  obtain ⟨σ17, hσ17, hf⟩ := bnd_e hf
  refine v_newI C 6 (by decide) (by decide) (by decide) hσ17 hn16 tw_184 (Nat.le_of_ble_eq_true rfl) (Nat.le_of_ble_eq_true rfl) 50 rfl (by decide +kernel) ?_
  obtain ⟨σ18, hσ18, hf⟩ := bnd_e hf
  refine v_putRF (x := some (n + 1 + 1 + 1 + 1 + 1)) C hname 9 7 hσ18 rfl nin_9 ny_9 nty_9 nnm_9 (by omega) hk_a0 (by decide) (by decide) rfl rfl rfl rfl 26 tw_982 rfl rfl 53 rfl (by decide +kernel) ?_
  refine v_aload_n C 0 0 rfl 54 rfl (by decide +kernel) ?_
  refine v_bipush C (6) (6) (by decide) 56 rfl (by decide +kernel) ?_
  obtain ⟨hn19, hf⟩ := grd_e hf
  obtain ⟨σ20, hσ20, hf⟩ := bnd_e hf
  refine v_newI C 6 (by decide) (by decide) (by decide) hσ20 hn19 tw_184 (Nat.le_of_ble_eq_true rfl) (Nat.le_of_ble_eq_true rfl) 58 rfl (by decide +kernel) ?_
  obtain ⟨σ21, hσ21, hf⟩ := bnd_e hf
  refine v_putRF (x := some (n + 1 + 1 + 1 + 1 + 1 + 1)) C hname 9 8 hσ21 rfl nin_9 ny_9 nty_9 nnm_9 (by omega) hk_a0 (by decide) (by decide) rfl rfl rfl rfl 29 tw_983 rfl rfl 61 rfl (by decide +kernel) ?_
  refine v_aload_n C 0 0 rfl 62 rfl (by decide +kernel) ?_
  refine v_bipush C (6) (6) (by decide) 64 rfl (by decide +kernel) ?_
  obtain ⟨hn22, hf⟩ := grd_e hf
  obtain ⟨σ23, hσ23, hf⟩ := bnd_e hf
  refine v_newI C 6 (by decide) (by decide) (by decide) hσ23 hn22 tw_184 (Nat.le_of_ble_eq_true rfl) (Nat.le_of_ble_eq_true rfl) 66 rfl (by decide +kernel) ?_
  obtain ⟨σ24, hσ24, hf⟩ := bnd_e hf
  refine v_putRF (x := some (n + 1 + 1 + 1 + 1 + 1 + 1 + 1)) C hname 9 9 hσ24 rfl nin_9 ny_9 nty_9 nnm_9 (by omega) hk_a0 (by decide) (by decide) rfl rfl rfl rfl 32 tw_984 rfl rfl 69 rfl (by decide +kernel) ?_
  refine v_aload_n C 0 0 rfl 70 rfl (by decide +kernel) ?_
  refine v_bipush C (6) (6) (by decide) 72 rfl (by decide +kernel) ?_
  obtain ⟨hn25, hf⟩ := grd_e hf
  obtain ⟨σ26, hσ26, hf⟩ := bnd_e hf
  refine v_newI C 6 (by decide) (by decide) (by decide) hσ26 hn25 tw_184 (Nat.le_of_ble_eq_true rfl) (Nat.le_of_ble_eq_true rfl) 74 rfl (by decide +kernel) ?_
  obtain ⟨σ27, hσ27, hf⟩ := bnd_e hf
  refine v_putRF (x := some (n + 1 + 1 + 1 + 1 + 1 + 1 + 1 + 1)) C hname 9 10 hσ27 rfl nin_9 ny_9 nty_9 nnm_9 (by omega) hk_a0 (by decide) (by decide) rfl rfl rfl rfl 35 tw_985 rfl rfl 77 rfl (by decide +kernel) ?_
  refine v_aload_n C 0 0 rfl 78 rfl (by decide +kernel) ?_
  refine v_bipush C (6) (6) (by decide) 80 rfl (by decide +kernel) ?_
  obtain ⟨hn28, hf⟩ := grd_e hf
  obtain ⟨σ29, hσ29, hf⟩ := bnd_e hf
  refine v_newI C 6 (by decide) (by decide) (by decide) hσ29 hn28 tw_184 (Nat.le_of_ble_eq_true rfl) (Nat.le_of_ble_eq_true rfl) 82 rfl (by decide +kernel) ?_
  obtain ⟨σ30, hσ30, hf⟩ := bnd_e hf
  refine v_putRF (x := some (n + 1 + 1 + 1 + 1 + 1 + 1 + 1 + 1 + 1)) C hname 9 11 hσ30 rfl nin_9 ny_9 nty_9 nnm_9 (by omega) hk_a0 (by decide) (by decide) rfl rfl rfl rfl 38 tw_986 rfl rfl 85 rfl (by decide +kernel) ?_
  refine v_aload_n C 0 0 rfl 86 rfl (by decide +kernel) ?_
  refine v_sipush C (250) (250) (by decide) 89 rfl (by decide +kernel) ?_
  obtain ⟨hn31, hf⟩ := grd_e hf
  obtain ⟨σ32, hσ32, hf⟩ := bnd_e hf
  refine v_newI C 250 (by decide) (by decide) (by decide) hσ32 hn31 tw_184 (Nat.le_of_ble_eq_true rfl) (Nat.le_of_ble_eq_true rfl) 91 rfl (by decide +kernel) ?_
  obtain ⟨σ33, hσ33, hf⟩ := bnd_e hf
  refine v_putRF (x := some (n + 1 + 1 + 1 + 1 + 1 + 1 + 1 + 1 + 1 + 1)) C hname 9 16 hσ33 rfl nin_9 ny_9 nty_9 nnm_9 (by omega) hk_a0 (by decide) (by decide) rfl rfl rfl rfl 41 tw_991 rfl rfl 94 rfl (by decide +kernel) ?_
  refine v_aload_n C 0 0 rfl 95 rfl (by decide +kernel) ?_
  refine v_bipush C (7) (7) (by decide) 97 rfl (by decide +kernel) ?_
  obtain ⟨hn34, hf⟩ := grd_e hf
  obtain ⟨σ35, hσ35, hf⟩ := bnd_e hf
  refine v_newI C 7 (by decide) (by decide) (by decide) hσ35 hn34 tw_184 (Nat.le_of_ble_eq_true rfl) (Nat.le_of_ble_eq_true rfl) 99 rfl (by decide +kernel) ?_
  obtain ⟨σ36, hσ36, hf⟩ := bnd_e hf
  refine v_putRF (x := some (n + 1 + 1 + 1 + 1 + 1 + 1 + 1 + 1 + 1 + 1 + 1)) C hname 9 21 hσ36 rfl nin_9 ny_9 nty_9 nnm_9 (by omega) hk_a0 (by decide) (by decide) rfl rfl rfl rfl 44 tw_996 rfl rfl 102 rfl (by decide +kernel) ?_
  refine v_aload_n C 0 0 rfl 103 rfl (by decide +kernel) ?_
  refine v_bipush C (102) (102) (by decide) 105 rfl (by decide +kernel) ?_
  obtain ⟨hn37, hf⟩ := grd_e hf
  obtain ⟨σ38, hσ38, hf⟩ := bnd_e hf
  refine v_newI C 102 (by decide) (by decide) (by decide) hσ38 hn37 tw_184 (Nat.le_of_ble_eq_true rfl) (Nat.le_of_ble_eq_true rfl) 107 rfl (by decide +kernel) ?_
  obtain ⟨σ39, hσ39, hf⟩ := bnd_e hf
  refine v_putRF (x := some (n + 1 + 1 + 1 + 1 + 1 + 1 + 1 + 1 + 1 + 1 + 1 + 1)) C hname 9 23 hσ39 rfl nin_9 ny_9 nty_9 nnm_9 (by omega) hk_a0 (by decide) (by decide) rfl rfl rfl rfl 47 tw_998 rfl rfl 110 rfl (by decide +kernel) ?_
  refine v_aload_n C 0 0 rfl 111 rfl (by decide +kernel) ?_
  refine v_bipush C (102) (102) (by decide) 113 rfl (by decide +kernel) ?_
  obtain ⟨hn40, hf⟩ := grd_e hf
  obtain ⟨σ41, hσ41, hf⟩ := bnd_e hf
  refine v_newI C 102 (by decide) (by decide) (by decide) hσ41 hn40 tw_184 (Nat.le_of_ble_eq_true rfl) (Nat.le_of_ble_eq_true rfl) 115 rfl (by decide +kernel) ?_
  obtain ⟨σ42, hσ42, hf⟩ := bnd_e hf
  refine v_putRF (x := some (n + 1 + 1 + 1 + 1 + 1 + 1 + 1 + 1 + 1 + 1 + 1 + 1 + 1)) C hname 9 24 hσ42 rfl nin_9 ny_9 nty_9 nnm_9 (by omega) hk_a0 (by decide) (by decide) rfl rfl rfl rfl 50 tw_999 rfl rfl 118 rfl (by decide +kernel) ?_
  refine v_aload_n C 0 0 rfl 119 rfl (by decide +kernel) ?_
  refine v_sipush C (8000) (8000) (by decide) 122 rfl (by decide +kernel) ?_
  obtain ⟨hn43, hf⟩ := grd_e hf
  obtain ⟨σ44, hσ44, hf⟩ := bnd_e hf
  refine v_newI C 8000 (by decide) (by decide) (by decide) hσ44 hn43 tw_184 (Nat.le_of_ble_eq_true rfl) (Nat.le_of_ble_eq_true rfl) 124 rfl (by decide +kernel) ?_
  obtain ⟨σ45, hσ45, hf⟩ := bnd_e hf
  refine v_putRF (x := some (n + 1 + 1 + 1 + 1 + 1 + 1 + 1 + 1 + 1 + 1 + 1 + 1 + 1 + 1)) C hname 9 29 hσ45 rfl nin_9 ny_9 nty_9 nnm_9 (by omega) hk_a0 (by decide) (by decide) rfl rfl rfl rfl 53 tw_1004 rfl rfl 127 rfl (by decide +kernel) ?_
  refine v_aload_n C 0 0 rfl 128 rfl (by decide +kernel) ?_
  refine v_bipush C (61) (61) (by decide) 130 rfl (by decide +kernel) ?_
  obtain ⟨hn46, hf⟩ := grd_e hf
  obtain ⟨σ47, hσ47, hf⟩ := bnd_e hf
  refine v_newI C 61 (by decide) (by decide) (by decide) hσ47 hn46 tw_184 (Nat.le_of_ble_eq_true rfl) (Nat.le_of_ble_eq_true rfl) 132 rfl (by decide +kernel) ?_
  obtain ⟨σ48, hσ48, hf⟩ := bnd_e hf
  refine v_putRF (x := some (n + 1 + 1 + 1 + 1 + 1 + 1 + 1 + 1 + 1 + 1 + 1 + 1 + 1 + 1 + 1)) C hname 9 30 hσ48 rfl nin_9 ny_9 nty_9 nnm_9 (by omega) hk_a0 (by decide) (by decide) rfl rfl rfl rfl 56 tw_1005 rfl rfl 135 rfl (by decide +kernel) ?_
  refine v_iconst C (0) (0) (by decide) 136 rfl (by decide +kernel) ?_
  refine v_istore_n C 1 [(1, .int (0 : Int32)), (0, .ref (G.1 + a0))] (by decide) rfl 137 rfl (by decide +kernel) ?_
  refine v_iload_n C 1 0 rfl 138 rfl (by decide +kernel) ?_
  refine v_bipush C (8) (8) (by decide) 140 rfl (by decide +kernel) ?_
  refine v_icmp_ge C 156 143 rfl (by decide +kernel) (fun h => absurd h (by decide)) (fun _ => ?_)
  refine v_aload_n C 0 1 rfl 144 rfl (by decide +kernel) ?_
  obtain ⟨b49, hb49, hf⟩ := drf_e hf
  obtain ⟨⟨hk_b49, hl_b49⟩, hf⟩ := grd_e hf
  refine v_getR C 9 0 hb49 rfl nin_9 (by omega) hk_a0 (by decide) (by decide) rfl 7 tw_975 rfl 147 rfl (by decide +kernel) ?_
  refine v_iload_n C 1 0 rfl 148 rfl (by decide +kernel) ?_
  refine v_iconst C (-1) (-1) (by decide) 149 rfl (by decide +kernel) ?_
  obtain ⟨hi50, hf⟩ := grd_e hf
  obtain ⟨σ51, hσ51, hf⟩ := bnd_e hf
  refine v_iast C hσ51 (by omega) hk_b49 hi50 150 rfl (by decide +kernel) ?_
  refine v_iinc C 1 (1) 0 (1) rfl (by decide) [(1, .int (1 : Int32)), (0, .ref (G.1 + a0))] (by decide) rfl 153 rfl (by decide +kernel) ?_
  refine v_goto C 137 (by decide +kernel) ?_
  refine v_iload_n C 1 0 rfl 138 rfl (by decide +kernel) ?_
  refine v_bipush C (8) (8) (by decide) 140 rfl (by decide +kernel) ?_
  refine v_icmp_ge C 156 143 rfl (by decide +kernel) (fun h => absurd h (by decide)) (fun _ => ?_)
  refine v_aload_n C 0 1 rfl 144 rfl (by decide +kernel) ?_
  obtain ⟨b52, hb52, hf⟩ := drf_e hf
  obtain ⟨⟨hk_b52, hl_b52⟩, hf⟩ := grd_e hf
  refine v_getR C 9 0 hb52 rfl nin_9 (by omega) hk_a0 (by decide) (by decide) rfl 7 tw_975 rfl 147 rfl (by decide +kernel) ?_
  refine v_iload_n C 1 0 rfl 148 rfl (by decide +kernel) ?_
  refine v_iconst C (-1) (-1) (by decide) 149 rfl (by decide +kernel) ?_
  obtain ⟨hi53, hf⟩ := grd_e hf
  obtain ⟨σ54, hσ54, hf⟩ := bnd_e hf
  refine v_iast C hσ54 (by omega) hk_b52 hi53 150 rfl (by decide +kernel) ?_
  refine v_iinc C 1 (1) 0 (2) rfl (by decide) [(1, .int (2 : Int32)), (0, .ref (G.1 + a0))] (by decide) rfl 153 rfl (by decide +kernel) ?_
  refine v_goto C 137 (by decide +kernel) ?_
  refine v_iload_n C 1 0 rfl 138 rfl (by decide +kernel) ?_
  refine v_bipush C (8) (8) (by decide) 140 rfl (by decide +kernel) ?_
  refine v_icmp_ge C 156 143 rfl (by decide +kernel) (fun h => absurd h (by decide)) (fun _ => ?_)
  refine v_aload_n C 0 1 rfl 144 rfl (by decide +kernel) ?_
  obtain ⟨b55, hb55, hf⟩ := drf_e hf
  obtain ⟨⟨hk_b55, hl_b55⟩, hf⟩ := grd_e hf
  refine v_getR C 9 0 hb55 rfl nin_9 (by omega) hk_a0 (by decide) (by decide) rfl 7 tw_975 rfl 147 rfl (by decide +kernel) ?_
  refine v_iload_n C 1 0 rfl 148 rfl (by decide +kernel) ?_
  refine v_iconst C (-1) (-1) (by decide) 149 rfl (by decide +kernel) ?_
  obtain ⟨hi56, hf⟩ := grd_e hf
  obtain ⟨σ57, hσ57, hf⟩ := bnd_e hf
  refine v_iast C hσ57 (by omega) hk_b55 hi56 150 rfl (by decide +kernel) ?_
  refine v_iinc C 1 (1) 0 (3) rfl (by decide) [(1, .int (3 : Int32)), (0, .ref (G.1 + a0))] (by decide) rfl 153 rfl (by decide +kernel) ?_
  refine v_goto C 137 (by decide +kernel) ?_
  refine v_iload_n C 1 0 rfl 138 rfl (by decide +kernel) ?_
  refine v_bipush C (8) (8) (by decide) 140 rfl (by decide +kernel) ?_
  refine v_icmp_ge C 156 143 rfl (by decide +kernel) (fun h => absurd h (by decide)) (fun _ => ?_)
  refine v_aload_n C 0 1 rfl 144 rfl (by decide +kernel) ?_
  obtain ⟨b58, hb58, hf⟩ := drf_e hf
  obtain ⟨⟨hk_b58, hl_b58⟩, hf⟩ := grd_e hf
  refine v_getR C 9 0 hb58 rfl nin_9 (by omega) hk_a0 (by decide) (by decide) rfl 7 tw_975 rfl 147 rfl (by decide +kernel) ?_
  refine v_iload_n C 1 0 rfl 148 rfl (by decide +kernel) ?_
  refine v_iconst C (-1) (-1) (by decide) 149 rfl (by decide +kernel) ?_
  obtain ⟨hi59, hf⟩ := grd_e hf
  obtain ⟨σ60, hσ60, hf⟩ := bnd_e hf
  refine v_iast C hσ60 (by omega) hk_b58 hi59 150 rfl (by decide +kernel) ?_
  refine v_iinc C 1 (1) 0 (4) rfl (by decide) [(1, .int (4 : Int32)), (0, .ref (G.1 + a0))] (by decide) rfl 153 rfl (by decide +kernel) ?_
  refine v_goto C 137 (by decide +kernel) ?_
  refine v_iload_n C 1 0 rfl 138 rfl (by decide +kernel) ?_
  refine v_bipush C (8) (8) (by decide) 140 rfl (by decide +kernel) ?_
  refine v_icmp_ge C 156 143 rfl (by decide +kernel) (fun h => absurd h (by decide)) (fun _ => ?_)
  refine v_aload_n C 0 1 rfl 144 rfl (by decide +kernel) ?_
  obtain ⟨b61, hb61, hf⟩ := drf_e hf
  obtain ⟨⟨hk_b61, hl_b61⟩, hf⟩ := grd_e hf
  refine v_getR C 9 0 hb61 rfl nin_9 (by omega) hk_a0 (by decide) (by decide) rfl 7 tw_975 rfl 147 rfl (by decide +kernel) ?_
  refine v_iload_n C 1 0 rfl 148 rfl (by decide +kernel) ?_
  refine v_iconst C (-1) (-1) (by decide) 149 rfl (by decide +kernel) ?_
  obtain ⟨hi62, hf⟩ := grd_e hf
  obtain ⟨σ63, hσ63, hf⟩ := bnd_e hf
  refine v_iast C hσ63 (by omega) hk_b61 hi62 150 rfl (by decide +kernel) ?_
  refine v_iinc C 1 (1) 0 (5) rfl (by decide) [(1, .int (5 : Int32)), (0, .ref (G.1 + a0))] (by decide) rfl 153 rfl (by decide +kernel) ?_
  refine v_goto C 137 (by decide +kernel) ?_
  refine v_iload_n C 1 0 rfl 138 rfl (by decide +kernel) ?_
  refine v_bipush C (8) (8) (by decide) 140 rfl (by decide +kernel) ?_
  refine v_icmp_ge C 156 143 rfl (by decide +kernel) (fun h => absurd h (by decide)) (fun _ => ?_)
  refine v_aload_n C 0 1 rfl 144 rfl (by decide +kernel) ?_
  obtain ⟨b64, hb64, hf⟩ := drf_e hf
  obtain ⟨⟨hk_b64, hl_b64⟩, hf⟩ := grd_e hf
  refine v_getR C 9 0 hb64 rfl nin_9 (by omega) hk_a0 (by decide) (by decide) rfl 7 tw_975 rfl 147 rfl (by decide +kernel) ?_
  refine v_iload_n C 1 0 rfl 148 rfl (by decide +kernel) ?_
  refine v_iconst C (-1) (-1) (by decide) 149 rfl (by decide +kernel) ?_
  obtain ⟨hi65, hf⟩ := grd_e hf
  obtain ⟨σ66, hσ66, hf⟩ := bnd_e hf
  refine v_iast C hσ66 (by omega) hk_b64 hi65 150 rfl (by decide +kernel) ?_
  refine v_iinc C 1 (1) 0 (6) rfl (by decide) [(1, .int (6 : Int32)), (0, .ref (G.1 + a0))] (by decide) rfl 153 rfl (by decide +kernel) ?_
  refine v_goto C 137 (by decide +kernel) ?_
  refine v_iload_n C 1 0 rfl 138 rfl (by decide +kernel) ?_
  refine v_bipush C (8) (8) (by decide) 140 rfl (by decide +kernel) ?_
  refine v_icmp_ge C 156 143 rfl (by decide +kernel) (fun h => absurd h (by decide)) (fun _ => ?_)
  refine v_aload_n C 0 1 rfl 144 rfl (by decide +kernel) ?_
  obtain ⟨b67, hb67, hf⟩ := drf_e hf
  obtain ⟨⟨hk_b67, hl_b67⟩, hf⟩ := grd_e hf
  refine v_getR C 9 0 hb67 rfl nin_9 (by omega) hk_a0 (by decide) (by decide) rfl 7 tw_975 rfl 147 rfl (by decide +kernel) ?_
  refine v_iload_n C 1 0 rfl 148 rfl (by decide +kernel) ?_
  refine v_iconst C (-1) (-1) (by decide) 149 rfl (by decide +kernel) ?_
  obtain ⟨hi68, hf⟩ := grd_e hf
  obtain ⟨σ69, hσ69, hf⟩ := bnd_e hf
  refine v_iast C hσ69 (by omega) hk_b67 hi68 150 rfl (by decide +kernel) ?_
  refine v_iinc C 1 (1) 0 (7) rfl (by decide) [(1, .int (7 : Int32)), (0, .ref (G.1 + a0))] (by decide) rfl 153 rfl (by decide +kernel) ?_
  refine v_goto C 137 (by decide +kernel) ?_
  refine v_iload_n C 1 0 rfl 138 rfl (by decide +kernel) ?_
  refine v_bipush C (8) (8) (by decide) 140 rfl (by decide +kernel) ?_
  refine v_icmp_ge C 156 143 rfl (by decide +kernel) (fun h => absurd h (by decide)) (fun _ => ?_)
  refine v_aload_n C 0 1 rfl 144 rfl (by decide +kernel) ?_
  obtain ⟨b70, hb70, hf⟩ := drf_e hf
  obtain ⟨⟨hk_b70, hl_b70⟩, hf⟩ := grd_e hf
  refine v_getR C 9 0 hb70 rfl nin_9 (by omega) hk_a0 (by decide) (by decide) rfl 7 tw_975 rfl 147 rfl (by decide +kernel) ?_
  refine v_iload_n C 1 0 rfl 148 rfl (by decide +kernel) ?_
  refine v_iconst C (-1) (-1) (by decide) 149 rfl (by decide +kernel) ?_
  obtain ⟨hi71, hf⟩ := grd_e hf
  obtain ⟨σ72, hσ72, hf⟩ := bnd_e hf
  refine v_iast C hσ72 (by omega) hk_b70 hi71 150 rfl (by decide +kernel) ?_
  refine v_iinc C 1 (1) 0 (8) rfl (by decide) [(1, .int (8 : Int32)), (0, .ref (G.1 + a0))] (by decide) rfl 153 rfl (by decide +kernel) ?_
  refine v_goto C 137 (by decide +kernel) ?_
  refine v_iload_n C 1 0 rfl 138 rfl (by decide +kernel) ?_
  refine v_bipush C (8) (8) (by decide) 140 rfl (by decide +kernel) ?_
  refine v_icmp_ge C 156 143 rfl (by decide +kernel) (fun _ => ?_) (fun h => absurd h (by decide))
  refine v_aload_n C 0 1 rfl 157 rfl (by decide +kernel) ?_
  refine v_bipush C (30) (30) (by decide) 159 rfl (by decide +kernel) ?_
  obtain ⟨σ73, hσ73, hf⟩ := bnd_e hf
  refine v_putI C 9 3 hσ73 rfl nin_9 ny_9 nty_9 nnm_9 (by omega) hk_a0 (by decide) (by decide) rfl rfl rfl rfl 59 tw_978 rfl 162 rfl (by decide +kernel) ?_
  refine v_aload_n C 0 1 rfl 163 rfl (by decide +kernel) ?_
  refine v_iconst C (1) (1) (by decide) 164 rfl (by decide +kernel) ?_
  obtain ⟨σ74, hσ74, hf⟩ := bnd_e hf
  refine v_putI C 9 14 hσ74 rfl nin_9 ny_9 nty_9 nnm_9 (by omega) hk_a0 (by decide) (by decide) rfl rfl rfl rfl 63 tw_989 rfl 167 rfl (by decide +kernel) ?_
  obtain ⟨rfl, rfl⟩ := ret_e hf
  exact v_vret C hr (by decide +kernel)
theorem hd_M_init : (⟨"NinthStepModel", "<init>", "()V"⟩ : MethodName).cls ≠ "java/lang/invoke/MethodHandle" ∧ (⟨"NinthStepModel", "<init>", "()V"⟩ : MethodName).cls ≠ "java/lang/invoke/VarHandle" ∧ (parseMethodDescriptor (⟨"NinthStepModel", "<init>", "()V"⟩ : MethodName).desc).map (fun d => d.parameters.length) = some 0 := by decide +kernel

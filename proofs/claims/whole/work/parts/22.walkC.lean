abbrev rmX1_measure : Room := { frames := 3, cells := 0, slots := 0, locals := 69 }

def f_X1_measure (σ : St) : Option St := bnd (f_X5_measure σ) (fun r1 => bnd (f_X3_measure r1) (fun r2 => some r2))
set_option maxHeartbeats 4000000 in
set_option maxRecDepth 100000 in
theorem c_X1_measure (l : Launch) (G : EV)   (σ : St) (r : St) (hE : f_X1_measure σ = some r) : MetV l G yX1_measure wsX1_measure rmX1_measure [.ref (aD G 22)] (wC G σ) (wC G r) := by
  refine Met.of0 (Qf := PV G (wC G r)) (cc := cX1_measure) (maxL := 1) (ret := none) (by decide) rfl (Nat.le_of_ble_eq_true rfl) ?_
  intro p e s m below meth c args A hx hb hr hts hown hlocks hml hin0 hA hS hP hK hD hX ls hl
  have hl : lv_has ls 1 [(0, .ref (aD G 22))] := hl
  generalize hQ : MQ below (PV G (wC G r) A) args s 0 0 A = Q
  unfold f_X1_measure at hE
  refine lv_aload_n hx hb dX1_measure_0 rfl (lv_at hl 0 rfl) ?_
  refine va_get (ci := 1) (v := .ref (aD G 20)) (C := RX1) (T := TX1) (N := 9) hx hb hts (fun _ h => List.mem_cons_of_mem _ (List.mem_append_left _ (List.mem_append_left _ (List.mem_append_left _ (List.mem_append_right _ h))))) hown hK hP 22 rfl rfl 1 (by decide) (hts (.fieldLink RX1 21 "FillCells$Filling" "windows" "LFillCells$Windows;") (List.mem_of_getElem? (i := 1) rfl)) (fun _ h9 => h9) rfl dX1_measure_1 ?_
  refine lv_aload_n hx hb dX1_measure_4 rfl (lv_at hl 0 rfl) ?_
  refine va_get (ci := 1) (v := .ref (aD G 19)) (C := RX1) (T := TX1) (N := 9) hx hb hts (fun _ h => List.mem_cons_of_mem _ (List.mem_append_left _ (List.mem_append_left _ (List.mem_append_left _ (List.mem_append_right _ h))))) hown hK hP 22 rfl rfl 0 (by decide) (hts (.fieldLink RX1 12 "FillCells$Filling" "field" "LFillCells$Field;") (List.mem_of_getElem? (i := 2) rfl)) (fun _ h9 => h9) rfl dX1_measure_5 ?_
  obtain ⟨r1, hC, hE⟩ := bnd_some hE
  refine cv (va_runV (As := [.ref (aD G 19)]) (rest := []) ⟨hx, hb, hml, hown, hts⟩ (c_X5_measure l G σ r1 hC _) (cwV 1 hts gX1_measure_X5_measure rfl rfl rfl (by decide +kernel) ⟨Nat.le_of_ble_eq_true rfl, Nat.le_of_ble_eq_true rfl⟩) (preV hK hP hD hS hA hX (va_recv hK hP (ci := 5) (q0 := 20) rfl rfl)) rfl rfl hl.1 rfl (lv_room (Nat.le_of_ble_eq_true rfl)) dX1_measure_8 ⟨Nat.le_of_ble_eq_true rfl, Nat.le_of_ble_eq_true rfl⟩) hD hS hA (fun H locs hP hD hS => ?_)
  refine lv_aload_n hx hb dX1_measure_11 rfl (lv_at hl 0 rfl) ?_
  refine va_get (ci := 1) (v := .ref (aD G 21)) (C := RX1) (T := TX1) (N := 9) hx hb hts (fun _ h => List.mem_cons_of_mem _ (List.mem_append_left _ (List.mem_append_left _ (List.mem_append_left _ (List.mem_append_right _ h))))) hown hK hP 22 rfl rfl 2 (by decide) (hts (.fieldLink RX1 28 "FillCells$Filling" "nets" "LFillCells$Nets;") (List.mem_of_getElem? (i := 3) rfl)) (fun _ h9 => h9) rfl dX1_measure_12 ?_
  refine lv_aload_n hx hb dX1_measure_15 rfl (lv_at hl 0 rfl) ?_
  refine va_get (ci := 1) (v := .ref (aD G 19)) (C := RX1) (T := TX1) (N := 9) hx hb hts (fun _ h => List.mem_cons_of_mem _ (List.mem_append_left _ (List.mem_append_left _ (List.mem_append_left _ (List.mem_append_right _ h))))) hown hK hP 22 rfl rfl 0 (by decide) (hts (.fieldLink RX1 12 "FillCells$Filling" "field" "LFillCells$Field;") (List.mem_of_getElem? (i := 2) rfl)) (fun _ h9 => h9) rfl dX1_measure_16 ?_
  obtain ⟨r2, hC, hE⟩ := bnd_some hE
  refine cv (va_runV (As := [.ref (aD G 19)]) (rest := []) ⟨hx, hb, hml, hown, hts⟩ (c_X3_measure l G r1 r2 hC _) (cwV 1 hts gX1_measure_X3_measure rfl rfl rfl (by decide +kernel) ⟨Nat.le_of_ble_eq_true rfl, Nat.le_of_ble_eq_true rfl⟩) (preV hK hP hD hS hA hX (va_recv hK hP (ci := 3) (q0 := 21) rfl rfl)) rfl rfl hl.1 rfl (lv_room (Nat.le_of_ble_eq_true rfl)) dX1_measure_19 ⟨Nat.le_of_ble_eq_true rfl, Nat.le_of_ble_eq_true rfl⟩) hD hS hA (fun H locs hP hD hS => ?_)
  rw [← hQ, ← Option.some.inj hE]
  exact rv hx hb hr hlocks hK hP hD hS dX1_measure_22
abbrev rmX1_loneMay : Room := { frames := 2, cells := 0, slots := 0, locals := 47 }

def f_X1_loneMay (x1 : Int32) (σ : St) : Option Int32 := gd x1 80 (bnd (f_X0_room x1 σ) (fun r1 => if r1 ≤ (rd σ 4 x1) then (some (0 : Int32)) else (gd x1 80 (if (rd σ 7 x1) = 0 then (bnd (f_X3_bear x1 (0 : Int32) σ) (fun r2 => if r2 = 0 then (some (0 : Int32)) else (some (1 : Int32)))) else (some (0 : Int32))))))
set_option maxHeartbeats 4000000 in
set_option maxRecDepth 100000 in
theorem c_X1_loneMay (l : Launch) (G : EV)  (x1 : Int32) (σ : St) (r : Int32) (hE : f_X1_loneMay x1 σ = some r) : MetI l G yX1_loneMay wsX1_loneMay rmX1_loneMay [.ref (aD G 22), .int x1] (wC G σ) r (wC G σ) := by
  refine Met.of0 (Qf := PI G r (wC G σ)) (cc := cX1_loneMay) (maxL := 2) (ret := (some .boolean)) (by decide) rfl (Nat.le_of_ble_eq_true rfl) ?_
  intro p e s m below meth c args A hx hb hr hts hown hlocks hml hin0 hA hS hP hK hD hX ls hl
  have hl : lv_has ls 2 [(0, .ref (aD G 22)), (1, .int x1)] := hl
  generalize hQ : MQ below (PI G r (wC G σ) A) args s 0 0 A = Q
  unfold f_X1_loneMay at hE
  refine lv_aload_n hx hb dX1_loneMay_0 rfl (lv_at hl 0 rfl) ?_
  refine va_get (ci := 1) (v := .ref (aD G 19)) (C := RX1) (T := TX1) (N := 9) hx hb hts (fun _ h => List.mem_cons_of_mem _ (List.mem_append_left _ (List.mem_append_left _ (List.mem_append_left _ (List.mem_append_right _ h))))) hown hK hP 22 rfl rfl 0 (by decide) (hts (.fieldLink RX1 12 "FillCells$Filling" "field" "LFillCells$Field;") (List.mem_of_getElem? (i := 1) rfl)) (fun _ h9 => h9) rfl dX1_loneMay_1 ?_
  refine va_get (ci := 0) (v := .ref (aD G 4)) (C := RX0) (T := TX0) (N := 5) hx hb hts (fun _ h => List.mem_cons_of_mem _ (List.mem_append_left _ (List.mem_append_left _ (List.mem_append_right _ h)))) hown hK hP 19 rfl rfl 4 (by decide) (hts (.fieldLink RX1 69 "FillCells$Field" "fill" "[I") (List.mem_of_getElem? (i := 2) rfl)) (fun _ h9 => h9) rfl dX1_loneMay_4 ?_
  refine lv_iload_n hx hb dX1_loneMay_7 rfl (lv_at hl 1 rfl) ?_
  obtain ⟨h_i, hE⟩ := gd_some hE
  refine ldC hx hb hK hP 4 (by decide) h_i dX1_loneMay_8 ?_
  refine lv_aload_n hx hb dX1_loneMay_9 rfl (lv_at hl 0 rfl) ?_
  refine va_get (ci := 1) (v := .ref (aD G 19)) (C := RX1) (T := TX1) (N := 9) hx hb hts (fun _ h => List.mem_cons_of_mem _ (List.mem_append_left _ (List.mem_append_left _ (List.mem_append_left _ (List.mem_append_right _ h))))) hown hK hP 22 rfl rfl 0 (by decide) (hts (.fieldLink RX1 12 "FillCells$Filling" "field" "LFillCells$Field;") (List.mem_of_getElem? (i := 1) rfl)) (fun _ h9 => h9) rfl dX1_loneMay_10 ?_
  refine lv_iload_n hx hb dX1_loneMay_13 rfl (lv_at hl 1 rfl) ?_
  obtain ⟨r1, hC, hE⟩ := bnd_some hE
  refine ci (va_runV (As := [.int x1]) (rest := [.int (rd σ 4 x1)]) ⟨hx, hb, hml, hown, hts⟩ (c_X0_room l G x1 σ r1 hC _) (cwV 1 hts gX1_loneMay_X0_room rfl rfl rfl (by decide +kernel) ⟨Nat.le_of_ble_eq_true rfl, Nat.le_of_ble_eq_true rfl⟩) (preV hK hP hD hS hA hX (va_recv hK hP (ci := 0) (q0 := 19) rfl rfl)) rfl rfl hl.1 rfl (lv_room (Nat.le_of_ble_eq_true rfl)) dX1_loneMay_14 ⟨Nat.le_of_ble_eq_true rfl, Nat.le_of_ble_eq_true rfl⟩) hD hS hA (fun H locs hP hD hS => ?_)
  refine lv_icmp_ge (tgt := 48) hx hb dX1_loneMay_17 (by decide) (fun c_ => ?_) (fun c_ => ?_)
  · have hE := ip c_ hE
    refine lv_iconst (v := (0 : Int32)) hx hb dX1_loneMay_48 (by decide) ?_
    rw [← hQ, ← Option.some.inj hE]
    exact rz (v := (0 : Int32)) hx hb hr hlocks hK hP hD hS rfl dX1_loneMay_49
  · have hE := im c_ hE
    refine lv_aload_n hx hb dX1_loneMay_20 rfl (lv_at hl 0 rfl) ?_
    refine va_get (ci := 1) (v := .ref (aD G 20)) (C := RX1) (T := TX1) (N := 9) hx hb hts (fun _ h => List.mem_cons_of_mem _ (List.mem_append_left _ (List.mem_append_left _ (List.mem_append_left _ (List.mem_append_right _ h))))) hown hK hP 22 rfl rfl 1 (by decide) (hts (.fieldLink RX1 21 "FillCells$Filling" "windows" "LFillCells$Windows;") (List.mem_of_getElem? (i := 3) rfl)) (fun _ h9 => h9) rfl dX1_loneMay_21 ?_
    refine va_get (ci := 5) (v := .ref (aD G 7)) (C := RX5) (T := TX5) (N := 8) hx hb hts (fun _ h => List.mem_cons_of_mem _ (List.mem_append_left _ (List.mem_append_right _ h))) hown hK hP 20 rfl rfl 6 (by decide) (hts (.fieldLink RX1 76 "FillCells$Windows" "fullOver" "[I") (List.mem_of_getElem? (i := 4) rfl)) (fun _ h9 => h9) rfl dX1_loneMay_24 ?_
    refine lv_iload_n hx hb dX1_loneMay_27 rfl (lv_at hl 1 rfl) ?_
    obtain ⟨h_i, hE⟩ := gd_some hE
    refine ldC hx hb hK hP 7 (by decide) h_i dX1_loneMay_28 ?_
    refine lv_if_ne (tgt := 48) hx hb dX1_loneMay_29 (by decide) (fun c_ => ?_) (fun c_ => ?_)
    · have hE := im c_ hE
      refine lv_iconst (v := (0 : Int32)) hx hb dX1_loneMay_48 (by decide) ?_
      rw [← hQ, ← Option.some.inj hE]
      exact rz (v := (0 : Int32)) hx hb hr hlocks hK hP hD hS rfl dX1_loneMay_49
    · have hE := ip c_ hE
      refine lv_aload_n hx hb dX1_loneMay_32 rfl (lv_at hl 0 rfl) ?_
      refine va_get (ci := 1) (v := .ref (aD G 21)) (C := RX1) (T := TX1) (N := 9) hx hb hts (fun _ h => List.mem_cons_of_mem _ (List.mem_append_left _ (List.mem_append_left _ (List.mem_append_left _ (List.mem_append_right _ h))))) hown hK hP 22 rfl rfl 2 (by decide) (hts (.fieldLink RX1 28 "FillCells$Filling" "nets" "LFillCells$Nets;") (List.mem_of_getElem? (i := 5) rfl)) (fun _ h9 => h9) rfl dX1_loneMay_33 ?_
      refine lv_iload_n hx hb dX1_loneMay_36 rfl (lv_at hl 1 rfl) ?_
      refine lv_iconst (v := (0 : Int32)) hx hb dX1_loneMay_37 (by decide) ?_
      obtain ⟨r2, hC, hE⟩ := bnd_some hE
      refine ci (va_runV (As := [.int x1, .int (0 : Int32)]) (rest := []) ⟨hx, hb, hml, hown, hts⟩ (c_X3_bear l G x1 (0 : Int32) σ r2 hC _) (cwV 2 hts gX1_loneMay_X3_bear rfl rfl rfl (by decide +kernel) ⟨Nat.le_of_ble_eq_true rfl, Nat.le_of_ble_eq_true rfl⟩) (preV hK hP hD hS hA hX (va_recv hK hP (ci := 3) (q0 := 21) rfl rfl)) rfl rfl hl.1 rfl (lv_room (Nat.le_of_ble_eq_true rfl)) dX1_loneMay_38 ⟨Nat.le_of_ble_eq_true rfl, Nat.le_of_ble_eq_true rfl⟩) hD hS hA (fun H locs hP hD hS => ?_)
      refine lv_if_eq (tgt := 48) hx hb dX1_loneMay_41 (by decide) (fun c_ => ?_) (fun c_ => ?_)
      · have hE := ip c_ hE
        refine lv_iconst (v := (0 : Int32)) hx hb dX1_loneMay_48 (by decide) ?_
        rw [← hQ, ← Option.some.inj hE]
        exact rz (v := (0 : Int32)) hx hb hr hlocks hK hP hD hS rfl dX1_loneMay_49
      · have hE := im c_ hE
        refine lv_iconst (v := (1 : Int32)) hx hb dX1_loneMay_44 (by decide) ?_
        refine lv_goto (tgt := 49) hx hb dX1_loneMay_45 (by decide) ?_
        rw [← hQ, ← Option.some.inj hE]
        exact rz (v := (1 : Int32)) hx hb hr hlocks hK hP hD hS rfl dX1_loneMay_49
abbrev rmX1_twinsMay : Room := { frames := 2, cells := 0, slots := 0, locals := 47 }
def f_X1_twinsMay_J49 (x1 : Int32) (x2 : Int32) (σ : St) : Option Int32 := bnd (f_X5_bearTwins x1 σ) (fun r1 => if r1 = 0 then (some (0 : Int32)) else (bnd (f_X3_bear x2 x1 σ) (fun r2 => if r2 = 0 then (some (0 : Int32)) else (some (1 : Int32)))))
def f_X1_twinsMay_L2 (x1 : Int32) (x2 : Int32) (σ : St) (v2 : Int32) : Option (((Int32 ⊕ (Unit))) ⊕ (Int32)) := if (80 : Int32) ≤ v2 then (some (.inl (.inr ()))) else (gd v2 80 (if (rd σ 3 v2) = x1 then (gd v2 80 (bnd (f_X0_room v2 σ) (fun r3 => if (rd σ 4 v2) < r3 then (some (.inr ((v2 + (1 : Int32))))) else (some (.inl (.inl (0 : Int32))))))) else (some (.inr ((v2 + (1 : Int32)))))))
def f_X1_twinsMay_J2 (x1 : Int32) (x2 : Int32) (x3 : Int32) (σ : St) : Option Int32 := bnd (loopN (f_X1_twinsMay_L2 x1 x2 σ) 4096 (x3)) (fun y2 => ear (fun q => q) y2 (fun y2 => f_X1_twinsMay_J49 x1 x2 σ))
def f_X1_twinsMay (x1 x2 : Int32) (σ : St) : Option Int32 := f_X1_twinsMay_J2 x1 x2 (0 : Int32) σ
set_option maxHeartbeats 4000000 in
set_option maxRecDepth 100000 in
theorem c_X1_twinsMay (l : Launch) (G : EV)  (x1 x2 : Int32) (σ : St) (r : Int32) (hE : f_X1_twinsMay x1 x2 σ = some r) : MetI l G yX1_twinsMay wsX1_twinsMay rmX1_twinsMay [.ref (aD G 22), .int x1, .int x2] (wC G σ) r (wC G σ) := by
  refine Met.of0 (Qf := PI G r (wC G σ)) (cc := cX1_twinsMay) (maxL := 4) (ret := (some .boolean)) (by decide) rfl (Nat.le_of_ble_eq_true rfl) ?_
  intro p e s m below meth c args A hx hb hr hts hown hlocks hml hin0 hA hS hP hK hD hX ls hl
  have hl : lv_has ls 4 [(0, .ref (aD G 22)), (1, .int x1), (2, .int x2)] := hl
  generalize hQ : MQ below (PI G r (wC G σ) A) args s 0 0 A = Q
  unfold f_X1_twinsMay at hE
  have J_49 : ∀ (H : Heap) (locs : List Loc) (ls : Array Slot), va_P G.1 vwCl (wC G σ) H → va_D A (wC G σ) → va_S A s.heap H locs → lv_has ls 4 [(0, .ref (aD G 22)), (1, .int x1), (2, .int x2)] → f_X1_twinsMay_J49 x1 x2 σ = some r → W p l e rmX1_twinsMay s m args below meth c H locs 0 0 Q (F0 m 49 ls []) := by
    intro  H locs ls hP hD hS hl hE
    unfold f_X1_twinsMay_J49 at hE
    refine lv_aload_n hx hb dX1_twinsMay_49 rfl (lv_at hl 0 rfl) ?_
    refine va_get (ci := 1) (v := .ref (aD G 20)) (C := RX1) (T := TX1) (N := 9) hx hb hts (fun _ h => List.mem_cons_of_mem _ (List.mem_append_left _ (List.mem_append_left _ (List.mem_append_left _ (List.mem_append_right _ h))))) hown hK hP 22 rfl rfl 1 (by decide) (hts (.fieldLink RX1 21 "FillCells$Filling" "windows" "LFillCells$Windows;") (List.mem_of_getElem? (i := 4) rfl)) (fun _ h9 => h9) rfl dX1_twinsMay_50 ?_
    refine lv_iload_n hx hb dX1_twinsMay_53 rfl (lv_at hl 1 rfl) ?_
    obtain ⟨r1, hC, hE⟩ := bnd_some hE
    refine ci (va_runV (As := [.int x1]) (rest := []) ⟨hx, hb, hml, hown, hts⟩ (c_X5_bearTwins l G x1 σ r1 hC _) (cwV 1 hts gX1_twinsMay_X5_bearTwins rfl rfl rfl (by decide +kernel) ⟨Nat.le_of_ble_eq_true rfl, Nat.le_of_ble_eq_true rfl⟩) (preV hK hP hD hS hA hX (va_recv hK hP (ci := 5) (q0 := 20) rfl rfl)) rfl rfl hl.1 rfl (lv_room (Nat.le_of_ble_eq_true rfl)) dX1_twinsMay_54 ⟨Nat.le_of_ble_eq_true rfl, Nat.le_of_ble_eq_true rfl⟩) hD hS hA (fun H locs hP hD hS => ?_)
    refine lv_if_eq (tgt := 76) hx hb dX1_twinsMay_57 (by decide) (fun c_ => ?_) (fun c_ => ?_)
    · have hE := ip c_ hE
      refine lv_iconst (v := (0 : Int32)) hx hb dX1_twinsMay_76 (by decide) ?_
      rw [← hQ, ← Option.some.inj hE]
      exact rz (v := (0 : Int32)) hx hb hr hlocks hK hP hD hS rfl dX1_twinsMay_77
    · have hE := im c_ hE
      refine lv_aload_n hx hb dX1_twinsMay_60 rfl (lv_at hl 0 rfl) ?_
      refine va_get (ci := 1) (v := .ref (aD G 21)) (C := RX1) (T := TX1) (N := 9) hx hb hts (fun _ h => List.mem_cons_of_mem _ (List.mem_append_left _ (List.mem_append_left _ (List.mem_append_left _ (List.mem_append_right _ h))))) hown hK hP 22 rfl rfl 2 (by decide) (hts (.fieldLink RX1 28 "FillCells$Filling" "nets" "LFillCells$Nets;") (List.mem_of_getElem? (i := 5) rfl)) (fun _ h9 => h9) rfl dX1_twinsMay_61 ?_
      refine lv_iload_n hx hb dX1_twinsMay_64 rfl (lv_at hl 2 rfl) ?_
      refine lv_iload_n hx hb dX1_twinsMay_65 rfl (lv_at hl 1 rfl) ?_
      obtain ⟨r2, hC, hE⟩ := bnd_some hE
      refine ci (va_runV (As := [.int x2, .int x1]) (rest := []) ⟨hx, hb, hml, hown, hts⟩ (c_X3_bear l G x2 x1 σ r2 hC _) (cwV 2 hts gX1_twinsMay_X3_bear rfl rfl rfl (by decide +kernel) ⟨Nat.le_of_ble_eq_true rfl, Nat.le_of_ble_eq_true rfl⟩) (preV hK hP hD hS hA hX (va_recv hK hP (ci := 3) (q0 := 21) rfl rfl)) rfl rfl hl.1 rfl (lv_room (Nat.le_of_ble_eq_true rfl)) dX1_twinsMay_66 ⟨Nat.le_of_ble_eq_true rfl, Nat.le_of_ble_eq_true rfl⟩) hD hS hA (fun H locs hP hD hS => ?_)
      refine lv_if_eq (tgt := 76) hx hb dX1_twinsMay_69 (by decide) (fun c_ => ?_) (fun c_ => ?_)
      · have hE := ip c_ hE
        refine lv_iconst (v := (0 : Int32)) hx hb dX1_twinsMay_76 (by decide) ?_
        rw [← hQ, ← Option.some.inj hE]
        exact rz (v := (0 : Int32)) hx hb hr hlocks hK hP hD hS rfl dX1_twinsMay_77
      · have hE := im c_ hE
        refine lv_iconst (v := (1 : Int32)) hx hb dX1_twinsMay_72 (by decide) ?_
        refine lv_goto (tgt := 77) hx hb dX1_twinsMay_73 (by decide) ?_
        rw [← hQ, ← Option.some.inj hE]
        exact rz (v := (1 : Int32)) hx hb hr hlocks hK hP hD hS rfl dX1_twinsMay_77
  have J_2 : ∀ (x3 : Int32) (H : Heap) (locs : List Loc) (ls : Array Slot), va_P G.1 vwCl (wC G σ) H → va_D A (wC G σ) → va_S A s.heap H locs → lv_has ls 4 [(0, .ref (aD G 22)), (1, .int x1), (2, .int x2), (3, .int x3)] → f_X1_twinsMay_J2 x1 x2 x3 σ = some r → W p l e rmX1_twinsMay s m args below meth c H locs 0 0 Q (F0 m 2 ls []) := by
    intro x3 H locs ls hP hD hS hl hE
    unfold f_X1_twinsMay_J2 at hE
    obtain ⟨y2, hL, hE2⟩ := bnd_some hE
    refine loop_W (body := f_X1_twinsMay_L2 x1 x2 σ) (y := y2) (P := fun v2 => ∀ (H : Heap) (locs : List Loc) (ls : Array Slot), va_P G.1 vwCl (wC G σ) H → va_D A (wC G σ) → va_S A s.heap H locs → lv_has ls 4 [(0, .ref (aD G 22)), (1, .int x1), (2, .int x2), (3, .int v2)] → W p l e rmX1_twinsMay s m args below meth c H locs 0 0 Q (F0 m 2 ls [])) ?_ _ _ hL H locs ls hP hD hS hl
    clear hP hD hS hl hE hL
    intro v2 t2 hE hN2 hY2
    intro H locs ls hP hD hS hl
    unfold f_X1_twinsMay_L2 at hE
    refine lv_iload_n hx hb dX1_twinsMay_2 rfl (lv_at hl 3 rfl) ?_
    refine lv_bipush (v := (80 : Int32)) hx hb dX1_twinsMay_3 (by decide) ?_
    refine lv_icmp_ge (tgt := 49) hx hb dX1_twinsMay_5 (by decide) (fun c_ => ?_) (fun c_ => ?_)
    · have hE := ip c_ hE
      have e9 := hY2 _ (Option.some.inj hE).symm
      have hE := ear_r _ e9 hE2
      exact J_49  _ _ _ hP hD hS (lv_sub hl [0, 1, 2] rfl) hE
    · have hE := im c_ hE
      refine lv_aload_n hx hb dX1_twinsMay_8 rfl (lv_at hl 0 rfl) ?_
      refine va_get (ci := 1) (v := .ref (aD G 19)) (C := RX1) (T := TX1) (N := 9) hx hb hts (fun _ h => List.mem_cons_of_mem _ (List.mem_append_left _ (List.mem_append_left _ (List.mem_append_left _ (List.mem_append_right _ h))))) hown hK hP 22 rfl rfl 0 (by decide) (hts (.fieldLink RX1 12 "FillCells$Filling" "field" "LFillCells$Field;") (List.mem_of_getElem? (i := 1) rfl)) (fun _ h9 => h9) rfl dX1_twinsMay_9 ?_
      refine va_get (ci := 0) (v := .ref (aD G 3)) (C := RX0) (T := TX0) (N := 5) hx hb hts (fun _ h => List.mem_cons_of_mem _ (List.mem_append_left _ (List.mem_append_left _ (List.mem_append_right _ h)))) hown hK hP 19 rfl rfl 3 (by decide) (hts (.fieldLink RX1 58 "FillCells$Field" "twins" "[I") (List.mem_of_getElem? (i := 2) rfl)) (fun _ h9 => h9) rfl dX1_twinsMay_12 ?_
      refine lv_iload_n hx hb dX1_twinsMay_15 rfl (lv_at hl 3 rfl) ?_
      obtain ⟨h_i, hE⟩ := gd_some hE
      refine ldC hx hb hK hP 3 (by decide) h_i dX1_twinsMay_16 ?_
      refine lv_iload_n hx hb dX1_twinsMay_17 rfl (lv_at hl 1 rfl) ?_
      refine lv_icmp_ne (tgt := 43) hx hb dX1_twinsMay_18 (by decide) (fun c_ => ?_) (fun c_ => ?_)
      · have hE := im c_ hE
        refine lv_iinc (v := (v2 + (1 : Int32))) (lv' := [(3, .int (v2 + (1 : Int32))), (0, .ref (aD G 22)), (1, .int x1), (2, .int x2)]) hx hb dX1_twinsMay_43 hl (k := 3) rfl rfl (by decide) rfl (fun ls hl => ?_)
        refine lv_goto (tgt := 2) hx hb dX1_twinsMay_46 (by decide) ?_
        exact hN2 _ (Option.some.inj hE).symm _ _ _ hP hD hS (lv_sub hl [1, 2, 3, 0] rfl)
      · have hE := ip c_ hE
        refine lv_aload_n hx hb dX1_twinsMay_21 rfl (lv_at hl 0 rfl) ?_
        refine va_get (ci := 1) (v := .ref (aD G 19)) (C := RX1) (T := TX1) (N := 9) hx hb hts (fun _ h => List.mem_cons_of_mem _ (List.mem_append_left _ (List.mem_append_left _ (List.mem_append_left _ (List.mem_append_right _ h))))) hown hK hP 22 rfl rfl 0 (by decide) (hts (.fieldLink RX1 12 "FillCells$Filling" "field" "LFillCells$Field;") (List.mem_of_getElem? (i := 1) rfl)) (fun _ h9 => h9) rfl dX1_twinsMay_22 ?_
        refine va_get (ci := 0) (v := .ref (aD G 4)) (C := RX0) (T := TX0) (N := 5) hx hb hts (fun _ h => List.mem_cons_of_mem _ (List.mem_append_left _ (List.mem_append_left _ (List.mem_append_right _ h)))) hown hK hP 19 rfl rfl 4 (by decide) (hts (.fieldLink RX1 69 "FillCells$Field" "fill" "[I") (List.mem_of_getElem? (i := 3) rfl)) (fun _ h9 => h9) rfl dX1_twinsMay_25 ?_
        refine lv_iload_n hx hb dX1_twinsMay_28 rfl (lv_at hl 3 rfl) ?_
        obtain ⟨h_i, hE⟩ := gd_some hE
        refine ldC hx hb hK hP 4 (by decide) h_i dX1_twinsMay_29 ?_
        refine lv_aload_n hx hb dX1_twinsMay_30 rfl (lv_at hl 0 rfl) ?_
        refine va_get (ci := 1) (v := .ref (aD G 19)) (C := RX1) (T := TX1) (N := 9) hx hb hts (fun _ h => List.mem_cons_of_mem _ (List.mem_append_left _ (List.mem_append_left _ (List.mem_append_left _ (List.mem_append_right _ h))))) hown hK hP 22 rfl rfl 0 (by decide) (hts (.fieldLink RX1 12 "FillCells$Filling" "field" "LFillCells$Field;") (List.mem_of_getElem? (i := 1) rfl)) (fun _ h9 => h9) rfl dX1_twinsMay_31 ?_
        refine lv_iload_n hx hb dX1_twinsMay_34 rfl (lv_at hl 3 rfl) ?_
        obtain ⟨r3, hC, hE⟩ := bnd_some hE
        refine ci (va_runV (As := [.int v2]) (rest := [.int (rd σ 4 v2)]) ⟨hx, hb, hml, hown, hts⟩ (c_X0_room l G v2 σ r3 hC _) (cwV 1 hts gX1_twinsMay_X0_room rfl rfl rfl (by decide +kernel) ⟨Nat.le_of_ble_eq_true rfl, Nat.le_of_ble_eq_true rfl⟩) (preV hK hP hD hS hA hX (va_recv hK hP (ci := 0) (q0 := 19) rfl rfl)) rfl rfl hl.1 rfl (lv_room (Nat.le_of_ble_eq_true rfl)) dX1_twinsMay_35 ⟨Nat.le_of_ble_eq_true rfl, Nat.le_of_ble_eq_true rfl⟩) hD hS hA (fun H locs hP hD hS => ?_)
        refine lv_icmp_lt (tgt := 43) hx hb dX1_twinsMay_38 (by decide) (fun c_ => ?_) (fun c_ => ?_)
        · have hE := ip c_ hE
          refine lv_iinc (v := (v2 + (1 : Int32))) (lv' := [(3, .int (v2 + (1 : Int32))), (0, .ref (aD G 22)), (1, .int x1), (2, .int x2)]) hx hb dX1_twinsMay_43 hl (k := 3) rfl rfl (by decide) rfl (fun ls hl => ?_)
          refine lv_goto (tgt := 2) hx hb dX1_twinsMay_46 (by decide) ?_
          exact hN2 _ (Option.some.inj hE).symm _ _ _ hP hD hS (lv_sub hl [1, 2, 3, 0] rfl)
        · have hE := im c_ hE
          refine lv_iconst (v := (0 : Int32)) hx hb dX1_twinsMay_41 (by decide) ?_
          have hE := ear_l _ (hY2 _ (Option.some.inj hE).symm) hE2
          rw [← hQ, ← Option.some.inj hE]
          exact rz (v := (0 : Int32)) hx hb hr hlocks hK hP hD hS rfl dX1_twinsMay_42
  refine lv_iconst (v := (0 : Int32)) hx hb dX1_twinsMay_0 (by decide) ?_
  refine lv_istore_n (lv' := [(3, .int (0 : Int32)), (0, .ref (aD G 22)), (1, .int x1), (2, .int x2)]) hx hb dX1_twinsMay_1 rfl hl (by decide) rfl (fun ls hl => ?_)
  exact J_2 (0 : Int32) _ _ _ hP hD hS (lv_sub hl [1, 2, 3, 0] rfl) hE
abbrev rmX1_may : Room := { frames := 3, cells := 0, slots := 0, locals := 70 }

def f_X1_may (x1 : Int32) (σ : St) : Option Int32 := gd x1 80 (if (rd σ 3 x1) = 0 then (bnd (f_X1_loneMay x1 σ) (fun r2 => gb r2 (some r2))) else (bnd (f_X1_twinsMay (rd σ 3 x1) x1 σ) (fun r1 => gb r1 (some r1))))
set_option maxHeartbeats 4000000 in
set_option maxRecDepth 100000 in
theorem c_X1_may (l : Launch) (G : EV)  (x1 : Int32) (σ : St) (r : Int32) (hE : f_X1_may x1 σ = some r) : MetI l G yX1_may wsX1_may rmX1_may [.ref (aD G 22), .int x1] (wC G σ) r (wC G σ) := by
  refine Met.of0 (Qf := PI G r (wC G σ)) (cc := cX1_may) (maxL := 3) (ret := (some .boolean)) (by decide) rfl (Nat.le_of_ble_eq_true rfl) ?_
  intro p e s m below meth c args A hx hb hr hts hown hlocks hml hin0 hA hS hP hK hD hX ls hl
  have hl : lv_has ls 3 [(0, .ref (aD G 22)), (1, .int x1)] := hl
  generalize hQ : MQ below (PI G r (wC G σ) A) args s 0 0 A = Q
  unfold f_X1_may at hE
  refine lv_aload_n hx hb dX1_may_0 rfl (lv_at hl 0 rfl) ?_
  refine va_get (ci := 1) (v := .ref (aD G 19)) (C := RX1) (T := TX1) (N := 9) hx hb hts (fun _ h => List.mem_cons_of_mem _ (List.mem_append_left _ (List.mem_append_left _ (List.mem_append_left _ (List.mem_append_right _ h))))) hown hK hP 22 rfl rfl 0 (by decide) (hts (.fieldLink RX1 12 "FillCells$Filling" "field" "LFillCells$Field;") (List.mem_of_getElem? (i := 1) rfl)) (fun _ h9 => h9) rfl dX1_may_1 ?_
  refine va_get (ci := 0) (v := .ref (aD G 3)) (C := RX0) (T := TX0) (N := 5) hx hb hts (fun _ h => List.mem_cons_of_mem _ (List.mem_append_left _ (List.mem_append_left _ (List.mem_append_right _ h)))) hown hK hP 19 rfl rfl 3 (by decide) (hts (.fieldLink RX1 58 "FillCells$Field" "twins" "[I") (List.mem_of_getElem? (i := 2) rfl)) (fun _ h9 => h9) rfl dX1_may_4 ?_
  refine lv_iload_n hx hb dX1_may_7 rfl (lv_at hl 1 rfl) ?_
  obtain ⟨h_i, hE⟩ := gd_some hE
  refine ldC hx hb hK hP 3 (by decide) h_i dX1_may_8 ?_
  refine lv_istore_n (lv' := [(2, .int (rd σ 3 x1)), (0, .ref (aD G 22)), (1, .int x1)]) hx hb dX1_may_9 rfl hl (by decide) rfl (fun ls hl => ?_)
  refine lv_iload_n hx hb dX1_may_10 rfl (lv_at hl 0 rfl) ?_
  refine lv_if_ne (tgt := 22) hx hb dX1_may_11 (by decide) (fun c_ => ?_) (fun c_ => ?_)
  · have hE := im c_ hE
    refine lv_aload_n hx hb dX1_may_22 rfl (lv_at hl 1 rfl) ?_
    refine lv_iload_n hx hb dX1_may_23 rfl (lv_at hl 0 rfl) ?_
    refine lv_iload_n hx hb dX1_may_24 rfl (lv_at hl 2 rfl) ?_
    obtain ⟨r1, hC, hE⟩ := bnd_some hE
    refine ci (va_runV (As := [.int (rd σ 3 x1), .int x1]) (rest := []) ⟨hx, hb, hml, hown, hts⟩ (c_X1_twinsMay l G (rd σ 3 x1) x1 σ r1 hC _) (cwV 2 hts gX1_may_X1_twinsMay rfl rfl rfl (by decide +kernel) ⟨Nat.le_of_ble_eq_true rfl, Nat.le_of_ble_eq_true rfl⟩) (preV hK hP hD hS hA hX (va_recv hK hP (ci := 1) (q0 := 22) rfl rfl)) rfl rfl hl.1 rfl (lv_room (Nat.le_of_ble_eq_true rfl)) dX1_may_25 ⟨Nat.le_of_ble_eq_true rfl, Nat.le_of_ble_eq_true rfl⟩) hD hS hA (fun H locs hP hD hS => ?_)
    obtain ⟨h_n, hE⟩ := gb_some hE
    rw [← hQ, ← Option.some.inj hE]
    exact rz hx hb hr hlocks hK hP hD hS h_n dX1_may_28
  · have hE := ip c_ hE
    refine lv_aload_n hx hb dX1_may_14 rfl (lv_at hl 1 rfl) ?_
    refine lv_iload_n hx hb dX1_may_15 rfl (lv_at hl 2 rfl) ?_
    obtain ⟨r2, hC, hE⟩ := bnd_some hE
    refine ci (va_runV (As := [.int x1]) (rest := []) ⟨hx, hb, hml, hown, hts⟩ (c_X1_loneMay l G x1 σ r2 hC _) (cwV 1 hts gX1_may_X1_loneMay rfl rfl rfl (by decide +kernel) ⟨Nat.le_of_ble_eq_true rfl, Nat.le_of_ble_eq_true rfl⟩) (preV hK hP hD hS hA hX (va_recv hK hP (ci := 1) (q0 := 22) rfl rfl)) rfl rfl hl.1 rfl (lv_room (Nat.le_of_ble_eq_true rfl)) dX1_may_16 ⟨Nat.le_of_ble_eq_true rfl, Nat.le_of_ble_eq_true rfl⟩) hD hS hA (fun H locs hP hD hS => ?_)
    refine lv_goto (tgt := 28) hx hb dX1_may_19 (by decide) ?_
    obtain ⟨h_n, hE⟩ := gb_some hE
    rw [← hQ, ← Option.some.inj hE]
    exact rz hx hb hr hlocks hK hP hD hS h_n dX1_may_28
abbrev rmX1_isWanted : Room := { frames := 1, cells := 0, slots := 0, locals := 24 }

def f_X1_isWanted (x1 x2 : Int32) (σ : St) : Option Int32 := if x2 = (-1 : Int32) then (gd x1 80 (if (rd σ 6 x1) ≤ 0 then (some (0 : Int32)) else (some (1 : Int32)))) else (bnd (f_X5_has x2 x1 σ) (fun r1 => gb r1 (some r1)))
set_option maxHeartbeats 4000000 in
set_option maxRecDepth 100000 in
theorem c_X1_isWanted (l : Launch) (G : EV)  (x1 x2 : Int32) (σ : St) (r : Int32) (hE : f_X1_isWanted x1 x2 σ = some r) : MetI l G yX1_isWanted wsX1_isWanted rmX1_isWanted [.ref (aD G 22), .int x1, .int x2] (wC G σ) r (wC G σ) := by
  refine Met.of0 (Qf := PI G r (wC G σ)) (cc := cX1_isWanted) (maxL := 3) (ret := (some .boolean)) (by decide) rfl (Nat.le_of_ble_eq_true rfl) ?_
  intro p e s m below meth c args A hx hb hr hts hown hlocks hml hin0 hA hS hP hK hD hX ls hl
  have hl : lv_has ls 3 [(0, .ref (aD G 22)), (1, .int x1), (2, .int x2)] := hl
  generalize hQ : MQ below (PI G r (wC G σ) A) args s 0 0 A = Q
  unfold f_X1_isWanted at hE
  refine lv_iload_n hx hb dX1_isWanted_0 rfl (lv_at hl 2 rfl) ?_
  refine lv_iconst (v := (-1 : Int32)) hx hb dX1_isWanted_1 (by decide) ?_
  refine lv_icmp_ne (tgt := 25) hx hb dX1_isWanted_2 (by decide) (fun c_ => ?_) (fun c_ => ?_)
  · have hE := im c_ hE
    refine lv_aload_n hx hb dX1_isWanted_25 rfl (lv_at hl 0 rfl) ?_
    refine va_get (ci := 1) (v := .ref (aD G 20)) (C := RX1) (T := TX1) (N := 9) hx hb hts (fun _ h => List.mem_cons_of_mem _ (List.mem_append_left _ (List.mem_append_right _ h))) hown hK hP 22 rfl rfl 1 (by decide) (hts (.fieldLink RX1 21 "FillCells$Filling" "windows" "LFillCells$Windows;") (List.mem_of_getElem? (i := 1) rfl)) (fun _ h9 => h9) rfl dX1_isWanted_26 ?_
    refine lv_iload_n hx hb dX1_isWanted_29 rfl (lv_at hl 2 rfl) ?_
    refine lv_iload_n hx hb dX1_isWanted_30 rfl (lv_at hl 1 rfl) ?_
    obtain ⟨r1, hC, hE⟩ := bnd_some hE
    refine ci (va_runV (As := [.int x2, .int x1]) (rest := []) ⟨hx, hb, hml, hown, hts⟩ (c_X5_has l G x2 x1 σ r1 hC _) (cwV 2 hts gX1_isWanted_X5_has rfl rfl rfl (by decide +kernel) ⟨Nat.le_of_ble_eq_true rfl, Nat.le_of_ble_eq_true rfl⟩) (preV hK hP hD hS hA hX (va_recv hK hP (ci := 5) (q0 := 20) rfl rfl)) rfl rfl hl.1 rfl (lv_room (Nat.le_of_ble_eq_true rfl)) dX1_isWanted_31 ⟨Nat.le_of_ble_eq_true rfl, Nat.le_of_ble_eq_true rfl⟩) hD hS hA (fun H locs hP hD hS => ?_)
    obtain ⟨h_n, hE⟩ := gb_some hE
    rw [← hQ, ← Option.some.inj hE]
    exact rz hx hb hr hlocks hK hP hD hS h_n dX1_isWanted_34
  · have hE := ip c_ hE
    refine lv_aload_n hx hb dX1_isWanted_5 rfl (lv_at hl 0 rfl) ?_
    refine va_get (ci := 1) (v := .ref (aD G 20)) (C := RX1) (T := TX1) (N := 9) hx hb hts (fun _ h => List.mem_cons_of_mem _ (List.mem_append_left _ (List.mem_append_right _ h))) hown hK hP 22 rfl rfl 1 (by decide) (hts (.fieldLink RX1 21 "FillCells$Filling" "windows" "LFillCells$Windows;") (List.mem_of_getElem? (i := 1) rfl)) (fun _ h9 => h9) rfl dX1_isWanted_6 ?_
    refine va_get (ci := 5) (v := .ref (aD G 6)) (C := RX5) (T := TX5) (N := 8) hx hb hts (fun _ h => List.mem_cons_of_mem _ (List.mem_append_right _ h)) hown hK hP 20 rfl rfl 5 (by decide) (hts (.fieldLink RX1 109 "FillCells$Windows" "thinOver" "[I") (List.mem_of_getElem? (i := 2) rfl)) (fun _ h9 => h9) rfl dX1_isWanted_9 ?_
    refine lv_iload_n hx hb dX1_isWanted_12 rfl (lv_at hl 1 rfl) ?_
    obtain ⟨h_i, hE⟩ := gd_some hE
    refine ldC hx hb hK hP 6 (by decide) h_i dX1_isWanted_13 ?_
    refine lv_if_le (tgt := 21) hx hb dX1_isWanted_14 (by decide) (fun c_ => ?_) (fun c_ => ?_)
    · have hE := ip c_ hE
      refine lv_iconst (v := (0 : Int32)) hx hb dX1_isWanted_21 (by decide) ?_
      refine lv_goto (tgt := 34) hx hb dX1_isWanted_22 (by decide) ?_
      rw [← hQ, ← Option.some.inj hE]
      exact rz (v := (0 : Int32)) hx hb hr hlocks hK hP hD hS rfl dX1_isWanted_34
    · have hE := im c_ hE
      refine lv_iconst (v := (1 : Int32)) hx hb dX1_isWanted_17 (by decide) ?_
      refine lv_goto (tgt := 34) hx hb dX1_isWanted_18 (by decide) ?_
      rw [← hQ, ← Option.some.inj hE]
      exact rz (v := (1 : Int32)) hx hb hr hlocks hK hP hD hS rfl dX1_isWanted_34
abbrev rmX1_wantedTwin : Room := { frames := 2, cells := 0, slots := 0, locals := 46 }
def f_X1_wantedTwin_L2 (x1 : Int32) (x2 : Int32) (σ : St) (v2 : Int32) : Option (((Int32 ⊕ (Unit))) ⊕ (Int32)) := if (80 : Int32) ≤ v2 then (some (.inl (.inr ()))) else (gd v2 80 (if (rd σ 3 v2) = x1 then (bnd (f_X1_isWanted v2 x2 σ) (fun r1 => if r1 = 0 then (some (.inr ((v2 + (1 : Int32))))) else (some (.inl (.inl v2))))) else (some (.inr ((v2 + (1 : Int32)))))))
def f_X1_wantedTwin_J2 (x1 : Int32) (x2 : Int32) (x3 : Int32) (σ : St) : Option Int32 := bnd (loopN (f_X1_wantedTwin_L2 x1 x2 σ) 4096 (x3)) (fun y2 => ear (fun q => q) y2 (fun y2 => some (-1 : Int32)))
def f_X1_wantedTwin (x1 x2 : Int32) (σ : St) : Option Int32 := f_X1_wantedTwin_J2 x1 x2 (0 : Int32) σ
set_option maxHeartbeats 4000000 in
set_option maxRecDepth 100000 in
theorem c_X1_wantedTwin (l : Launch) (G : EV)  (x1 x2 : Int32) (σ : St) (r : Int32) (hE : f_X1_wantedTwin x1 x2 σ = some r) : MetI l G yX1_wantedTwin wsX1_wantedTwin rmX1_wantedTwin [.ref (aD G 22), .int x1, .int x2] (wC G σ) r (wC G σ) := by
  refine Met.of0 (Qf := PI G r (wC G σ)) (cc := cX1_wantedTwin) (maxL := 4) (ret := (some .int)) (by decide) rfl (Nat.le_of_ble_eq_true rfl) ?_
  intro p e s m below meth c args A hx hb hr hts hown hlocks hml hin0 hA hS hP hK hD hX ls hl
  have hl : lv_has ls 4 [(0, .ref (aD G 22)), (1, .int x1), (2, .int x2)] := hl
  generalize hQ : MQ below (PI G r (wC G σ) A) args s 0 0 A = Q
  unfold f_X1_wantedTwin at hE
  have J_2 : ∀ (x3 : Int32) (H : Heap) (locs : List Loc) (ls : Array Slot), va_P G.1 vwCl (wC G σ) H → va_D A (wC G σ) → va_S A s.heap H locs → lv_has ls 4 [(0, .ref (aD G 22)), (1, .int x1), (2, .int x2), (3, .int x3)] → f_X1_wantedTwin_J2 x1 x2 x3 σ = some r → W p l e rmX1_wantedTwin s m args below meth c H locs 0 0 Q (F0 m 2 ls []) := by
    intro x3 H locs ls hP hD hS hl hE
    unfold f_X1_wantedTwin_J2 at hE
    obtain ⟨y2, hL, hE2⟩ := bnd_some hE
    refine loop_W (body := f_X1_wantedTwin_L2 x1 x2 σ) (y := y2) (P := fun v2 => ∀ (H : Heap) (locs : List Loc) (ls : Array Slot), va_P G.1 vwCl (wC G σ) H → va_D A (wC G σ) → va_S A s.heap H locs → lv_has ls 4 [(0, .ref (aD G 22)), (1, .int x1), (2, .int x2), (3, .int v2)] → W p l e rmX1_wantedTwin s m args below meth c H locs 0 0 Q (F0 m 2 ls [])) ?_ _ _ hL H locs ls hP hD hS hl
    clear hP hD hS hl hE hL
    intro v2 t2 hE hN2 hY2
    intro H locs ls hP hD hS hl
    unfold f_X1_wantedTwin_L2 at hE
    refine lv_iload_n hx hb dX1_wantedTwin_2 rfl (lv_at hl 3 rfl) ?_
    refine lv_bipush (v := (80 : Int32)) hx hb dX1_wantedTwin_3 (by decide) ?_
    refine lv_icmp_ge (tgt := 38) hx hb dX1_wantedTwin_5 (by decide) (fun c_ => ?_) (fun c_ => ?_)
    · have hE := ip c_ hE
      have e9 := hY2 _ (Option.some.inj hE).symm
      have hE := ear_r _ e9 hE2
      refine lv_iconst (v := (-1 : Int32)) hx hb dX1_wantedTwin_38 (by decide) ?_
      rw [← hQ, ← Option.some.inj hE]
      exact ri hx hb hr hlocks hK hP hD hS dX1_wantedTwin_39
    · have hE := im c_ hE
      refine lv_aload_n hx hb dX1_wantedTwin_8 rfl (lv_at hl 0 rfl) ?_
      refine va_get (ci := 1) (v := .ref (aD G 19)) (C := RX1) (T := TX1) (N := 9) hx hb hts (fun _ h => List.mem_cons_of_mem _ (List.mem_append_left _ (List.mem_append_left _ (List.mem_append_right _ h)))) hown hK hP 22 rfl rfl 0 (by decide) (hts (.fieldLink RX1 12 "FillCells$Filling" "field" "LFillCells$Field;") (List.mem_of_getElem? (i := 1) rfl)) (fun _ h9 => h9) rfl dX1_wantedTwin_9 ?_
      refine va_get (ci := 0) (v := .ref (aD G 3)) (C := RX0) (T := TX0) (N := 5) hx hb hts (fun _ h => List.mem_cons_of_mem _ (List.mem_append_left _ (List.mem_append_right _ h))) hown hK hP 19 rfl rfl 3 (by decide) (hts (.fieldLink RX1 58 "FillCells$Field" "twins" "[I") (List.mem_of_getElem? (i := 2) rfl)) (fun _ h9 => h9) rfl dX1_wantedTwin_12 ?_
      refine lv_iload_n hx hb dX1_wantedTwin_15 rfl (lv_at hl 3 rfl) ?_
      obtain ⟨h_i, hE⟩ := gd_some hE
      refine ldC hx hb hK hP 3 (by decide) h_i dX1_wantedTwin_16 ?_
      refine lv_iload_n hx hb dX1_wantedTwin_17 rfl (lv_at hl 1 rfl) ?_
      refine lv_icmp_ne (tgt := 32) hx hb dX1_wantedTwin_18 (by decide) (fun c_ => ?_) (fun c_ => ?_)
      · have hE := im c_ hE
        refine lv_iinc (v := (v2 + (1 : Int32))) (lv' := [(3, .int (v2 + (1 : Int32))), (0, .ref (aD G 22)), (1, .int x1), (2, .int x2)]) hx hb dX1_wantedTwin_32 hl (k := 3) rfl rfl (by decide) rfl (fun ls hl => ?_)
        refine lv_goto (tgt := 2) hx hb dX1_wantedTwin_35 (by decide) ?_
        exact hN2 _ (Option.some.inj hE).symm _ _ _ hP hD hS (lv_sub hl [1, 2, 3, 0] rfl)
      · have hE := ip c_ hE
        refine lv_aload_n hx hb dX1_wantedTwin_21 rfl (lv_at hl 0 rfl) ?_
        refine lv_iload_n hx hb dX1_wantedTwin_22 rfl (lv_at hl 3 rfl) ?_
        refine lv_iload_n hx hb dX1_wantedTwin_23 rfl (lv_at hl 2 rfl) ?_
        obtain ⟨r1, hC, hE⟩ := bnd_some hE
        refine ci (va_runV (As := [.int v2, .int x2]) (rest := []) ⟨hx, hb, hml, hown, hts⟩ (c_X1_isWanted l G v2 x2 σ r1 hC _) (cwV 2 hts gX1_wantedTwin_X1_isWanted rfl rfl rfl (by decide +kernel) ⟨Nat.le_of_ble_eq_true rfl, Nat.le_of_ble_eq_true rfl⟩) (preV hK hP hD hS hA hX (va_recv hK hP (ci := 1) (q0 := 22) rfl rfl)) rfl rfl hl.1 rfl (lv_room (Nat.le_of_ble_eq_true rfl)) dX1_wantedTwin_24 ⟨Nat.le_of_ble_eq_true rfl, Nat.le_of_ble_eq_true rfl⟩) hD hS hA (fun H locs hP hD hS => ?_)
        refine lv_if_eq (tgt := 32) hx hb dX1_wantedTwin_27 (by decide) (fun c_ => ?_) (fun c_ => ?_)
        · have hE := ip c_ hE
          refine lv_iinc (v := (v2 + (1 : Int32))) (lv' := [(3, .int (v2 + (1 : Int32))), (0, .ref (aD G 22)), (1, .int x1), (2, .int x2)]) hx hb dX1_wantedTwin_32 hl (k := 3) rfl rfl (by decide) rfl (fun ls hl => ?_)
          refine lv_goto (tgt := 2) hx hb dX1_wantedTwin_35 (by decide) ?_
          exact hN2 _ (Option.some.inj hE).symm _ _ _ hP hD hS (lv_sub hl [1, 2, 3, 0] rfl)
        · have hE := im c_ hE
          refine lv_iload_n hx hb dX1_wantedTwin_30 rfl (lv_at hl 3 rfl) ?_
          have hE := ear_l _ (hY2 _ (Option.some.inj hE).symm) hE2
          rw [← hQ, ← Option.some.inj hE]
          exact ri hx hb hr hlocks hK hP hD hS dX1_wantedTwin_31
  refine lv_iconst (v := (0 : Int32)) hx hb dX1_wantedTwin_0 (by decide) ?_
  refine lv_istore_n (lv' := [(3, .int (0 : Int32)), (0, .ref (aD G 22)), (1, .int x1), (2, .int x2)]) hx hb dX1_wantedTwin_1 rfl hl (by decide) rfl (fun ls hl => ?_)
  exact J_2 (0 : Int32) _ _ _ hP hD hS (lv_sub hl [1, 2, 3, 0] rfl) hE
abbrev rmX1_chooseTwins : Room := { frames := 3, cells := 0, slots := 0, locals := 70 }
def f_X1_chooseTwins_J38 (x1 : Int32) (x2 : Int32) (t0 : Int32) (t1 : Int32) (σ : St) : Option (((St)) ⊕ (Int32 × St)) := gd t1 4 (some (.inr ((x2 + (1 : Int32)), (sA σ 18 t1 (vp_nar .boolean t0)))))
def f_X1_chooseTwins_J37 (x1 : Int32) (x2 : Int32) (t0 : Int32) (σ : St) : Option (((St)) ⊕ (Int32 × St)) := f_X1_chooseTwins_J38 x1 x2 (0 : Int32) t0 σ
def f_X1_chooseTwins_L2 (x1 : Int32) (v2 : Int32 × St) : Option (((St)) ⊕ (Int32 × St)) := if (4 : Int32) ≤ v2.1 then (some (.inl (v2.2))) else (bnd (f_X1_wantedTwin v2.1 x1 v2.2) (fun r1 => if r1 = (-1 : Int32) then (f_X1_chooseTwins_J37 x1 v2.1 v2.1 v2.2) else (bnd (f_X1_twinsMay v2.1 r1 v2.2) (fun r2 => if r2 = 0 then (f_X1_chooseTwins_J37 x1 v2.1 v2.1 v2.2) else (f_X1_chooseTwins_J38 x1 v2.1 (1 : Int32) v2.1 v2.2)))))
def f_X1_chooseTwins_J2 (x1 : Int32) (x2 : Int32) (σ : St) : Option St := bnd (loopN (f_X1_chooseTwins_L2 x1) 4096 (x2, σ)) (fun y2 => some y2)
def f_X1_chooseTwins (x1 : Int32) (σ : St) : Option St := f_X1_chooseTwins_J2 x1 (1 : Int32) σ
set_option maxHeartbeats 4000000 in
set_option maxRecDepth 100000 in
theorem c_X1_chooseTwins (l : Launch) (G : EV)  (x1 : Int32) (σ : St) (r : St) (hE : f_X1_chooseTwins x1 σ = some r) : MetV l G yX1_chooseTwins wsX1_chooseTwins rmX1_chooseTwins [.ref (aD G 22), .int x1] (wC G σ) (wC G r) := by
  refine Met.of0 (Qf := PV G (wC G r)) (cc := cX1_chooseTwins) (maxL := 4) (ret := none) (by decide) rfl (Nat.le_of_ble_eq_true rfl) ?_
  intro p e s m below meth c args A hx hb hr hts hown hlocks hml hin0 hA hS hP hK hD hX ls hl
  have hl : lv_has ls 4 [(0, .ref (aD G 22)), (1, .int x1)] := hl
  generalize hQ : MQ below (PV G (wC G r) A) args s 0 0 A = Q
  unfold f_X1_chooseTwins at hE
  have J_2 : ∀ (x2 : Int32) (σ : St) (H : Heap) (locs : List Loc) (ls : Array Slot), va_P G.1 vwCl (wC G σ) H → va_D A (wC G σ) → va_S A s.heap H locs → lv_has ls 4 [(0, .ref (aD G 22)), (1, .int x1), (2, .int x2)] → f_X1_chooseTwins_J2 x1 x2 σ = some r → W p l e rmX1_chooseTwins s m args below meth c H locs 0 0 Q (F0 m 2 ls []) := by
    intro x2 σ H locs ls hP hD hS hl hE
    unfold f_X1_chooseTwins_J2 at hE
    obtain ⟨y2, hL, hE2⟩ := bnd_some hE
    refine loop_W (body := f_X1_chooseTwins_L2 x1) (y := y2) (P := fun v2 => ∀ (H : Heap) (locs : List Loc) (ls : Array Slot), va_P G.1 vwCl (wC G v2.2) H → va_D A (wC G v2.2) → va_S A s.heap H locs → lv_has ls 4 [(0, .ref (aD G 22)), (1, .int x1), (2, .int v2.1)] → W p l e rmX1_chooseTwins s m args below meth c H locs 0 0 Q (F0 m 2 ls [])) ?_ _ _ hL H locs ls hP hD hS hl
    clear hP hD hS hl hE hL
    intro v2 t2 hE hN2 hY2
    intro H locs ls hP hD hS hl
    unfold f_X1_chooseTwins_L2 at hE
    have J_38 : ∀ (x2 : Int32) (t0 : Int32) (t1 : Int32) (σ : St) (H : Heap) (locs : List Loc) (ls : Array Slot), va_P G.1 vwCl (wC G σ) H → va_D A (wC G σ) → va_S A s.heap H locs → lv_has ls 4 [(0, .ref (aD G 22)), (1, .int x1), (2, .int x2)] → f_X1_chooseTwins_J38 x1 x2 t0 t1 σ = some t2 → W p l e rmX1_chooseTwins s m args below meth c H locs 0 0 Q (F0 m 38 ls [.int t0, .int t1, .ref (aD G 18)]) := by
      intro x2 t0 t1 σ H locs ls hP hD hS hl hE
      unfold f_X1_chooseTwins_J38 at hE
      obtain ⟨h_i, hE⟩ := gd_some hE
      refine va_zast hx hb hK hP hD hS 18 1 rfl rfl h_i dX1_chooseTwins_38 (fun H locs hP hD hS => ?_)
      have hP : va_P G.1 vwCl (wC G (sA σ 18 t1 (vp_nar .boolean t0))) H := hP
      have hD : va_D A (wC G (sA σ 18 t1 (vp_nar .boolean t0))) := hD
      refine lv_iinc (v := (x2 + (1 : Int32))) (lv' := [(2, .int (x2 + (1 : Int32))), (0, .ref (aD G 22)), (1, .int x1)]) hx hb dX1_chooseTwins_39 hl (k := 2) rfl rfl (by decide) rfl (fun ls hl => ?_)
      refine lv_goto (tgt := 2) hx hb dX1_chooseTwins_42 (by decide) ?_
      exact hN2 _ (Option.some.inj hE).symm _ _ _ hP hD hS (lv_sub hl [1, 2, 0] rfl)
    have J_37 : ∀ (x2 : Int32) (t0 : Int32) (σ : St) (H : Heap) (locs : List Loc) (ls : Array Slot), va_P G.1 vwCl (wC G σ) H → va_D A (wC G σ) → va_S A s.heap H locs → lv_has ls 4 [(0, .ref (aD G 22)), (1, .int x1), (2, .int x2)] → f_X1_chooseTwins_J37 x1 x2 t0 σ = some t2 → W p l e rmX1_chooseTwins s m args below meth c H locs 0 0 Q (F0 m 37 ls [.int t0, .ref (aD G 18)]) := by
      intro x2 t0 σ H locs ls hP hD hS hl hE
      unfold f_X1_chooseTwins_J37 at hE
      refine lv_iconst (v := (0 : Int32)) hx hb dX1_chooseTwins_37 (by decide) ?_
      exact J_38 x2 (0 : Int32) t0 σ _ _ _ hP hD hS (lv_sub hl [0, 1, 2] rfl) hE
    refine lv_iload_n hx hb dX1_chooseTwins_2 rfl (lv_at hl 2 rfl) ?_
    refine lv_iconst (v := (4 : Int32)) hx hb dX1_chooseTwins_3 (by decide) ?_
    refine lv_icmp_ge (tgt := 45) hx hb dX1_chooseTwins_4 (by decide) (fun c_ => ?_) (fun c_ => ?_)
    · have hE := ip c_ hE
      have e9 := hY2 _ (Option.some.inj hE).symm
      have hE := hE2
      rw [← e9] at hE
      rw [← hQ, ← Option.some.inj hE]
      exact rv hx hb hr hlocks hK hP hD hS dX1_chooseTwins_45
    · have hE := im c_ hE
      refine lv_aload_n hx hb dX1_chooseTwins_7 rfl (lv_at hl 0 rfl) ?_
      refine lv_iload_n hx hb dX1_chooseTwins_8 rfl (lv_at hl 2 rfl) ?_
      refine lv_iload_n hx hb dX1_chooseTwins_9 rfl (lv_at hl 1 rfl) ?_
      obtain ⟨r1, hC, hE⟩ := bnd_some hE
      refine ci (va_runV (As := [.int v2.1, .int x1]) (rest := []) ⟨hx, hb, hml, hown, hts⟩ (c_X1_wantedTwin l G v2.1 x1 v2.2 r1 hC _) (cwV 2 hts gX1_chooseTwins_X1_wantedTwin rfl rfl rfl (by decide +kernel) ⟨Nat.le_of_ble_eq_true rfl, Nat.le_of_ble_eq_true rfl⟩) (preV hK hP hD hS hA hX (va_recv hK hP (ci := 1) (q0 := 22) rfl rfl)) rfl rfl hl.1 rfl (lv_room (Nat.le_of_ble_eq_true rfl)) dX1_chooseTwins_10 ⟨Nat.le_of_ble_eq_true rfl, Nat.le_of_ble_eq_true rfl⟩) hD hS hA (fun H locs hP hD hS => ?_)
      refine lv_istore_n (lv' := [(3, .int r1), (0, .ref (aD G 22)), (1, .int x1), (2, .int v2.1)]) hx hb dX1_chooseTwins_13 rfl hl (by decide) rfl (fun ls hl => ?_)
      refine lv_aload_n hx hb dX1_chooseTwins_14 rfl (lv_at hl 1 rfl) ?_
      refine va_get (ci := 1) (v := .ref (aD G 18)) (C := RX1) (T := TX1) (N := 9) hx hb hts (fun _ h => List.mem_cons_of_mem _ (List.mem_append_left _ (List.mem_append_left _ (List.mem_append_left _ (List.mem_append_right _ h))))) hown hK hP 22 rfl rfl 6 (by decide) (hts (.fieldLink RX1 42 "FillCells$Filling" "twinsChosen" "[Z") (List.mem_of_getElem? (i := 1) rfl)) (fun _ h9 => h9) rfl dX1_chooseTwins_15 ?_
      refine lv_iload_n hx hb dX1_chooseTwins_18 rfl (lv_at hl 3 rfl) ?_
      refine lv_iload_n hx hb dX1_chooseTwins_19 rfl (lv_at hl 0 rfl) ?_
      refine lv_iconst (v := (-1 : Int32)) hx hb dX1_chooseTwins_20 (by decide) ?_
      refine lv_icmp_eq (tgt := 37) hx hb dX1_chooseTwins_21 (by decide) (fun c_ => ?_) (fun c_ => ?_)
      · have hE := ip c_ hE
        exact J_37 v2.1 v2.1 v2.2 _ _ _ hP hD hS (lv_sub hl [1, 2, 3] rfl) hE
      · have hE := im c_ hE
        refine lv_aload_n hx hb dX1_chooseTwins_24 rfl (lv_at hl 1 rfl) ?_
        refine lv_iload_n hx hb dX1_chooseTwins_25 rfl (lv_at hl 3 rfl) ?_
        refine lv_iload_n hx hb dX1_chooseTwins_26 rfl (lv_at hl 0 rfl) ?_
        obtain ⟨r2, hC, hE⟩ := bnd_some hE
        refine ci (va_runV (As := [.int v2.1, .int r1]) (rest := [.int v2.1, .ref (aD G 18)]) ⟨hx, hb, hml, hown, hts⟩ (c_X1_twinsMay l G v2.1 r1 v2.2 r2 hC _) (cwV 2 hts gX1_chooseTwins_X1_twinsMay rfl rfl rfl (by decide +kernel) ⟨Nat.le_of_ble_eq_true rfl, Nat.le_of_ble_eq_true rfl⟩) (preV hK hP hD hS hA hX (va_recv hK hP (ci := 1) (q0 := 22) rfl rfl)) rfl rfl hl.1 rfl (lv_room (Nat.le_of_ble_eq_true rfl)) dX1_chooseTwins_27 ⟨Nat.le_of_ble_eq_true rfl, Nat.le_of_ble_eq_true rfl⟩) hD hS hA (fun H locs hP hD hS => ?_)
        refine lv_if_eq (tgt := 37) hx hb dX1_chooseTwins_30 (by decide) (fun c_ => ?_) (fun c_ => ?_)
        · have hE := ip c_ hE
          exact J_37 v2.1 v2.1 v2.2 _ _ _ hP hD hS (lv_sub hl [1, 2, 3] rfl) hE
        · have hE := im c_ hE
          refine lv_iconst (v := (1 : Int32)) hx hb dX1_chooseTwins_33 (by decide) ?_
          refine lv_goto (tgt := 38) hx hb dX1_chooseTwins_34 (by decide) ?_
          exact J_38 v2.1 (1 : Int32) v2.1 v2.2 _ _ _ hP hD hS (lv_sub hl [1, 2, 3] rfl) hE
  refine lv_iconst (v := (1 : Int32)) hx hb dX1_chooseTwins_0 (by decide) ?_
  refine lv_istore_n (lv' := [(2, .int (1 : Int32)), (0, .ref (aD G 22)), (1, .int x1)]) hx hb dX1_chooseTwins_1 rfl hl (by decide) rfl (fun ls hl => ?_)
  exact J_2 (1 : Int32) σ _ _ _ hP hD hS (lv_sub hl [1, 2, 0] rfl) hE
abbrev rmX1_isChosen : Room := { frames := 3, cells := 0, slots := 0, locals := 68 }
def f_X1_isChosen_J35 (σ : St) : Option Int32 := some (0 : Int32)
def f_X1_isChosen (x1 x2 : Int32) (σ : St) : Option Int32 := gd x1 80 (if (rd σ 3 x1) = 0 then (bnd (f_X1_isWanted x1 x2 σ) (fun r1 => if r1 = 0 then (f_X1_isChosen_J35 σ) else (bnd (f_X1_loneMay x1 σ) (fun r2 => if r2 = 0 then (f_X1_isChosen_J35 σ) else (some (1 : Int32)))))) else (gd (rd σ 3 x1) 4 (gb (rd σ 18 (rd σ 3 x1)) (some (rd σ 18 (rd σ 3 x1))))))
set_option maxHeartbeats 4000000 in
set_option maxRecDepth 100000 in
theorem c_X1_isChosen (l : Launch) (G : EV)  (x1 x2 : Int32) (σ : St) (r : Int32) (hE : f_X1_isChosen x1 x2 σ = some r) : MetI l G yX1_isChosen wsX1_isChosen rmX1_isChosen [.ref (aD G 22), .int x1, .int x2] (wC G σ) r (wC G σ) := by
  refine Met.of0 (Qf := PI G r (wC G σ)) (cc := cX1_isChosen) (maxL := 4) (ret := (some .boolean)) (by decide) rfl (Nat.le_of_ble_eq_true rfl) ?_
  intro p e s m below meth c args A hx hb hr hts hown hlocks hml hin0 hA hS hP hK hD hX ls hl
  have hl : lv_has ls 4 [(0, .ref (aD G 22)), (1, .int x1), (2, .int x2)] := hl
  generalize hQ : MQ below (PI G r (wC G σ) A) args s 0 0 A = Q
  unfold f_X1_isChosen at hE
  have J_35 : ∀ (H : Heap) (locs : List Loc) (ls : Array Slot), va_P G.1 vwCl (wC G σ) H → va_D A (wC G σ) → va_S A s.heap H locs → lv_has ls 4 [] → f_X1_isChosen_J35 σ = some r → W p l e rmX1_isChosen s m args below meth c H locs 0 0 Q (F0 m 35 ls []) := by
    intro  H locs ls hP hD hS hl hE
    unfold f_X1_isChosen_J35 at hE
    refine lv_iconst (v := (0 : Int32)) hx hb dX1_isChosen_35 (by decide) ?_
    refine lv_goto (tgt := 45) hx hb dX1_isChosen_36 (by decide) ?_
    rw [← hQ, ← Option.some.inj hE]
    exact rz (v := (0 : Int32)) hx hb hr hlocks hK hP hD hS rfl dX1_isChosen_45
  refine lv_aload_n hx hb dX1_isChosen_0 rfl (lv_at hl 0 rfl) ?_
  refine va_get (ci := 1) (v := .ref (aD G 19)) (C := RX1) (T := TX1) (N := 9) hx hb hts (fun _ h => List.mem_cons_of_mem _ (List.mem_append_left _ (List.mem_append_left _ (List.mem_append_left _ (List.mem_append_right _ h))))) hown hK hP 22 rfl rfl 0 (by decide) (hts (.fieldLink RX1 12 "FillCells$Filling" "field" "LFillCells$Field;") (List.mem_of_getElem? (i := 1) rfl)) (fun _ h9 => h9) rfl dX1_isChosen_1 ?_
  refine va_get (ci := 0) (v := .ref (aD G 3)) (C := RX0) (T := TX0) (N := 5) hx hb hts (fun _ h => List.mem_cons_of_mem _ (List.mem_append_left _ (List.mem_append_left _ (List.mem_append_right _ h)))) hown hK hP 19 rfl rfl 3 (by decide) (hts (.fieldLink RX1 58 "FillCells$Field" "twins" "[I") (List.mem_of_getElem? (i := 2) rfl)) (fun _ h9 => h9) rfl dX1_isChosen_4 ?_
  refine lv_iload_n hx hb dX1_isChosen_7 rfl (lv_at hl 1 rfl) ?_
  obtain ⟨h_i, hE⟩ := gd_some hE
  refine ldC hx hb hK hP 3 (by decide) h_i dX1_isChosen_8 ?_
  refine lv_istore_n (lv' := [(3, .int (rd σ 3 x1)), (0, .ref (aD G 22)), (1, .int x1), (2, .int x2)]) hx hb dX1_isChosen_9 rfl hl (by decide) rfl (fun ls hl => ?_)
  refine lv_iload_n hx hb dX1_isChosen_10 rfl (lv_at hl 0 rfl) ?_
  refine lv_if_ne (tgt := 39) hx hb dX1_isChosen_11 (by decide) (fun c_ => ?_) (fun c_ => ?_)
  · have hE := im c_ hE
    refine lv_aload_n hx hb dX1_isChosen_39 rfl (lv_at hl 1 rfl) ?_
    refine va_get (ci := 1) (v := .ref (aD G 18)) (C := RX1) (T := TX1) (N := 9) hx hb hts (fun _ h => List.mem_cons_of_mem _ (List.mem_append_left _ (List.mem_append_left _ (List.mem_append_left _ (List.mem_append_right _ h))))) hown hK hP 22 rfl rfl 6 (by decide) (hts (.fieldLink RX1 42 "FillCells$Filling" "twinsChosen" "[Z") (List.mem_of_getElem? (i := 3) rfl)) (fun _ h9 => h9) rfl dX1_isChosen_40 ?_
    refine lv_iload_n hx hb dX1_isChosen_43 rfl (lv_at hl 0 rfl) ?_
    obtain ⟨h_i, hE⟩ := gd_some hE
    refine va_zald hx hb hK hP 18 1 rfl rfl h_i dX1_isChosen_44 ?_
    obtain ⟨h_n, hE⟩ := gb_some hE
    rw [← hQ, ← Option.some.inj hE]
    exact rz hx hb hr hlocks hK hP hD hS h_n dX1_isChosen_45
  · have hE := ip c_ hE
    refine lv_aload_n hx hb dX1_isChosen_14 rfl (lv_at hl 1 rfl) ?_
    refine lv_iload_n hx hb dX1_isChosen_15 rfl (lv_at hl 2 rfl) ?_
    refine lv_iload_n hx hb dX1_isChosen_16 rfl (lv_at hl 3 rfl) ?_
    obtain ⟨r1, hC, hE⟩ := bnd_some hE
    refine ci (va_runV (As := [.int x1, .int x2]) (rest := []) ⟨hx, hb, hml, hown, hts⟩ (c_X1_isWanted l G x1 x2 σ r1 hC _) (cwV 2 hts gX1_isChosen_X1_isWanted rfl rfl rfl (by decide +kernel) ⟨Nat.le_of_ble_eq_true rfl, Nat.le_of_ble_eq_true rfl⟩) (preV hK hP hD hS hA hX (va_recv hK hP (ci := 1) (q0 := 22) rfl rfl)) rfl rfl hl.1 rfl (lv_room (Nat.le_of_ble_eq_true rfl)) dX1_isChosen_17 ⟨Nat.le_of_ble_eq_true rfl, Nat.le_of_ble_eq_true rfl⟩) hD hS hA (fun H locs hP hD hS => ?_)
    refine lv_if_eq (tgt := 35) hx hb dX1_isChosen_20 (by decide) (fun c_ => ?_) (fun c_ => ?_)
    · have hE := ip c_ hE
      exact J_35  _ _ _ hP hD hS (lv_sub hl [] rfl) hE
    · have hE := im c_ hE
      refine lv_aload_n hx hb dX1_isChosen_23 rfl (lv_at hl 1 rfl) ?_
      refine lv_iload_n hx hb dX1_isChosen_24 rfl (lv_at hl 2 rfl) ?_
      obtain ⟨r2, hC, hE⟩ := bnd_some hE
      refine ci (va_runV (As := [.int x1]) (rest := []) ⟨hx, hb, hml, hown, hts⟩ (c_X1_loneMay l G x1 σ r2 hC _) (cwV 1 hts gX1_isChosen_X1_loneMay rfl rfl rfl (by decide +kernel) ⟨Nat.le_of_ble_eq_true rfl, Nat.le_of_ble_eq_true rfl⟩) (preV hK hP hD hS hA hX (va_recv hK hP (ci := 1) (q0 := 22) rfl rfl)) rfl rfl hl.1 rfl (lv_room (Nat.le_of_ble_eq_true rfl)) dX1_isChosen_25 ⟨Nat.le_of_ble_eq_true rfl, Nat.le_of_ble_eq_true rfl⟩) hD hS hA (fun H locs hP hD hS => ?_)
      refine lv_if_eq (tgt := 35) hx hb dX1_isChosen_28 (by decide) (fun c_ => ?_) (fun c_ => ?_)
      · have hE := ip c_ hE
        exact J_35  _ _ _ hP hD hS (lv_sub hl [] rfl) hE
      · have hE := im c_ hE
        refine lv_iconst (v := (1 : Int32)) hx hb dX1_isChosen_31 (by decide) ?_
        refine lv_goto (tgt := 45) hx hb dX1_isChosen_32 (by decide) ?_
        rw [← hQ, ← Option.some.inj hE]
        exact rz (v := (1 : Int32)) hx hb hr hlocks hK hP hD hS rfl dX1_isChosen_45
abbrev rmX1_rank : Room := { frames := 2, cells := 0, slots := 0, locals := 47 }

def f_X1_rank (x1 x2 : Int32) (σ : St) : Option Int32 := if x1 = (1 : Int32) then (bnd (f_X0_sumOf x2 σ) (fun r1 => some r1)) else (if x1 = (2 : Int32) then (gd x2 80 (some (-(rd σ 6 x2)))) else (if x1 = (3 : Int32) then (gd x2 80 (bnd (f_X3_gainOfAll x2 (rd σ 3 x2) σ) (fun r2 => some r2))) else (some (0 : Int32))))
set_option maxHeartbeats 4000000 in
set_option maxRecDepth 100000 in
theorem c_X1_rank (l : Launch) (G : EV)  (x1 x2 : Int32) (σ : St) (r : Int32) (hE : f_X1_rank x1 x2 σ = some r) : MetI l G yX1_rank wsX1_rank rmX1_rank [.ref (aD G 22), .int x1, .int x2] (wC G σ) r (wC G σ) := by
  refine Met.of0 (Qf := PI G r (wC G σ)) (cc := cX1_rank) (maxL := 3) (ret := (some .int)) (by decide) rfl (Nat.le_of_ble_eq_true rfl) ?_
  intro p e s m below meth c args A hx hb hr hts hown hlocks hml hin0 hA hS hP hK hD hX ls hl
  have hl : lv_has ls 3 [(0, .ref (aD G 22)), (1, .int x1), (2, .int x2)] := hl
  generalize hQ : MQ below (PI G r (wC G σ) A) args s 0 0 A = Q
  unfold f_X1_rank at hE
  refine lv_iload_n hx hb dX1_rank_0 rfl (lv_at hl 1 rfl) ?_
  by_cases c_0 : x1 = (1 : Int32)
  · have hE := ip c_0 hE
    refine lv_tableIn (off := 27) (tgt := 28) hx hb dX1_rank_1 (by rw [c_0]; decide) (by rw [c_0]; decide) (by rw [c_0]; rfl) (by decide) ?_
    refine lv_aload_n hx hb dX1_rank_28 rfl (lv_at hl 0 rfl) ?_
    refine va_get (ci := 1) (v := .ref (aD G 19)) (C := RX1) (T := TX1) (N := 9) hx hb hts (fun _ h => List.mem_cons_of_mem _ (List.mem_append_left _ (List.mem_append_left _ (List.mem_append_left _ (List.mem_append_right _ h))))) hown hK hP 22 rfl rfl 0 (by decide) (hts (.fieldLink RX1 12 "FillCells$Filling" "field" "LFillCells$Field;") (List.mem_of_getElem? (i := 1) rfl)) (fun _ h9 => h9) rfl dX1_rank_29 ?_
    refine lv_iload_n hx hb dX1_rank_32 rfl (lv_at hl 2 rfl) ?_
    obtain ⟨r1, hC, hE⟩ := bnd_some hE
    refine ci (va_runV (As := [.int x2]) (rest := []) ⟨hx, hb, hml, hown, hts⟩ (c_X0_sumOf l G x2 σ r1 hC _) (cwV 1 hts gX1_rank_X0_sumOf rfl rfl rfl (by decide +kernel) ⟨Nat.le_of_ble_eq_true rfl, Nat.le_of_ble_eq_true rfl⟩) (preV hK hP hD hS hA hX (va_recv hK hP (ci := 0) (q0 := 19) rfl rfl)) rfl rfl hl.1 rfl (lv_room (Nat.le_of_ble_eq_true rfl)) dX1_rank_33 ⟨Nat.le_of_ble_eq_true rfl, Nat.le_of_ble_eq_true rfl⟩) hD hS hA (fun H locs hP hD hS => ?_)
    rw [← hQ, ← Option.some.inj hE]
    exact ri hx hb hr hlocks hK hP hD hS dX1_rank_36
  · have hE := im c_0 hE
    by_cases c_1 : x1 = (2 : Int32)
    · have hE := ip c_1 hE
      refine lv_tableIn (off := 36) (tgt := 37) hx hb dX1_rank_1 (by rw [c_1]; decide) (by rw [c_1]; decide) (by rw [c_1]; rfl) (by decide) ?_
      refine lv_aload_n hx hb dX1_rank_37 rfl (lv_at hl 0 rfl) ?_
      refine va_get (ci := 1) (v := .ref (aD G 20)) (C := RX1) (T := TX1) (N := 9) hx hb hts (fun _ h => List.mem_cons_of_mem _ (List.mem_append_left _ (List.mem_append_left _ (List.mem_append_left _ (List.mem_append_right _ h))))) hown hK hP 22 rfl rfl 1 (by decide) (hts (.fieldLink RX1 21 "FillCells$Filling" "windows" "LFillCells$Windows;") (List.mem_of_getElem? (i := 2) rfl)) (fun _ h9 => h9) rfl dX1_rank_38 ?_
      refine va_get (ci := 5) (v := .ref (aD G 6)) (C := RX5) (T := TX5) (N := 8) hx hb hts (fun _ h => List.mem_cons_of_mem _ (List.mem_append_left _ (List.mem_append_left _ (List.mem_append_right _ h)))) hown hK hP 20 rfl rfl 5 (by decide) (hts (.fieldLink RX1 109 "FillCells$Windows" "thinOver" "[I") (List.mem_of_getElem? (i := 3) rfl)) (fun _ h9 => h9) rfl dX1_rank_41 ?_
      refine lv_iload_n hx hb dX1_rank_44 rfl (lv_at hl 2 rfl) ?_
      obtain ⟨h_i, hE⟩ := gd_some hE
      refine ldC hx hb hK hP 6 (by decide) h_i dX1_rank_45 ?_
      refine lv_ineg hx hb dX1_rank_46 ?_
      rw [← hQ, ← Option.some.inj hE]
      exact ri hx hb hr hlocks hK hP hD hS dX1_rank_47
    · have hE := im c_1 hE
      by_cases c_2 : x1 = (3 : Int32)
      · have hE := ip c_2 hE
        refine lv_tableIn (off := 47) (tgt := 48) hx hb dX1_rank_1 (by rw [c_2]; decide) (by rw [c_2]; decide) (by rw [c_2]; rfl) (by decide) ?_
        refine lv_aload_n hx hb dX1_rank_48 rfl (lv_at hl 0 rfl) ?_
        refine va_get (ci := 1) (v := .ref (aD G 21)) (C := RX1) (T := TX1) (N := 9) hx hb hts (fun _ h => List.mem_cons_of_mem _ (List.mem_append_left _ (List.mem_append_left _ (List.mem_append_left _ (List.mem_append_right _ h))))) hown hK hP 22 rfl rfl 2 (by decide) (hts (.fieldLink RX1 28 "FillCells$Filling" "nets" "LFillCells$Nets;") (List.mem_of_getElem? (i := 4) rfl)) (fun _ h9 => h9) rfl dX1_rank_49 ?_
        refine lv_iload_n hx hb dX1_rank_52 rfl (lv_at hl 2 rfl) ?_
        refine lv_aload_n hx hb dX1_rank_53 rfl (lv_at hl 0 rfl) ?_
        refine va_get (ci := 1) (v := .ref (aD G 19)) (C := RX1) (T := TX1) (N := 9) hx hb hts (fun _ h => List.mem_cons_of_mem _ (List.mem_append_left _ (List.mem_append_left _ (List.mem_append_left _ (List.mem_append_right _ h))))) hown hK hP 22 rfl rfl 0 (by decide) (hts (.fieldLink RX1 12 "FillCells$Filling" "field" "LFillCells$Field;") (List.mem_of_getElem? (i := 1) rfl)) (fun _ h9 => h9) rfl dX1_rank_54 ?_
        refine va_get (ci := 0) (v := .ref (aD G 3)) (C := RX0) (T := TX0) (N := 5) hx hb hts (fun _ h => List.mem_cons_of_mem _ (List.mem_append_left _ (List.mem_append_right _ h))) hown hK hP 19 rfl rfl 3 (by decide) (hts (.fieldLink RX1 58 "FillCells$Field" "twins" "[I") (List.mem_of_getElem? (i := 5) rfl)) (fun _ h9 => h9) rfl dX1_rank_57 ?_
        refine lv_iload_n hx hb dX1_rank_60 rfl (lv_at hl 2 rfl) ?_
        obtain ⟨h_i, hE⟩ := gd_some hE
        refine ldC hx hb hK hP 3 (by decide) h_i dX1_rank_61 ?_
        obtain ⟨r2, hC, hE⟩ := bnd_some hE
        refine ci (va_runV (As := [.int x2, .int (rd σ 3 x2)]) (rest := []) ⟨hx, hb, hml, hown, hts⟩ (c_X3_gainOfAll l G x2 (rd σ 3 x2) σ r2 hC _) (cwV 2 hts gX1_rank_X3_gainOfAll rfl rfl rfl (by decide +kernel) ⟨Nat.le_of_ble_eq_true rfl, Nat.le_of_ble_eq_true rfl⟩) (preV hK hP hD hS hA hX (va_recv hK hP (ci := 3) (q0 := 21) rfl rfl)) rfl rfl hl.1 rfl (lv_room (Nat.le_of_ble_eq_true rfl)) dX1_rank_62 ⟨Nat.le_of_ble_eq_true rfl, Nat.le_of_ble_eq_true rfl⟩) hD hS hA (fun H locs hP hD hS => ?_)
        rw [← hQ, ← Option.some.inj hE]
        exact ri hx hb hr hlocks hK hP hD hS dX1_rank_65
      · have hE := im c_2 hE
        refine lv_tableOut (tgt := 66) hx hb dX1_rank_1 (by have q0 := lv_neT (a := 1) c_0 (by decide); have q1 := lv_neT (a := 2) c_1 (by decide); have q2 := lv_neT (a := 3) c_2 (by decide); omega) (by decide) ?_
        refine lv_iconst (v := (0 : Int32)) hx hb dX1_rank_66 (by decide) ?_
        rw [← hQ, ← Option.some.inj hE]
        exact ri hx hb hr hlocks hK hP hD hS dX1_rank_67
abbrev rmX1_choice : Room := { frames := 4, cells := 0, slots := 0, locals := 93 }
def f_X1_choice_J79 (x1 : Int32) (x2 : Int32) (x5 : Int32) (x6 : Int32) (σ : St) : Option (((Int32)) ⊕ (Int32 × Int32 × Int32)) := some (.inr (x5, x6, (x5 + (1 : Int32))))
def f_X1_choice_L41 (x1 : Int32) (x2 : Int32) (σ : St) (v41 : Int32 × Int32 × Int32) : Option (((Int32)) ⊕ (Int32 × Int32 × Int32)) := if (80 : Int32) ≤ v41.2.2 then (some (.inl (v41.1))) else (bnd (f_X1_isChosen v41.2.2 x2 σ) (fun r2 => if r2 = 0 then (some (.inr (v41.1, v41.2.1, (v41.2.2 + (1 : Int32))))) else (bnd (f_X1_rank x1 v41.2.2 σ) (fun r3 => if v41.1 = (-1 : Int32) then (f_X1_choice_J79 x1 x2 v41.2.2 r3 σ) else (if v41.2.1 ≤ r3 then (some (.inr (v41.1, v41.2.1, (v41.2.2 + (1 : Int32))))) else (f_X1_choice_J79 x1 x2 v41.2.2 r3 σ))))))
def f_X1_choice_J41 (x1 : Int32) (x2 : Int32) (x3 : Int32) (x4 : Int32) (x5 : Int32) (σ : St) : Option (Int32 × St) := bnd (loopN (f_X1_choice_L41 x1 x2 σ) 4096 (x3, x4, x5)) (fun y41 => some (y41, σ))
def f_X1_choice_J28 (x1 : Int32) (x2 : Int32) (σ : St) : Option (Int32 × St) := bnd (f_X1_chooseTwins x2 σ) (fun r1 => f_X1_choice_J41 x1 x2 (-1 : Int32) (0 : Int32) (0 : Int32) r1)
def f_X1_choice (x1 : Int32) (σ : St) : Option (Int32 × St) := if x1 = (4 : Int32) then (bnd (f_X5_atLeast σ) (fun r4 => bnd (f_X5_isThin r4 σ) (fun r5 => if r5 = 0 then (some ((-1 : Int32), σ)) else (f_X1_choice_J28 x1 r4 σ)))) else (f_X1_choice_J28 x1 (-1 : Int32) σ)
set_option maxHeartbeats 4000000 in
set_option maxRecDepth 100000 in
theorem c_X1_choice (l : Launch) (G : EV)  (x1 : Int32) (σ : St) (r : (Int32 × St)) (hE : f_X1_choice x1 σ = some r) : MetI l G yX1_choice wsX1_choice rmX1_choice [.ref (aD G 22), .int x1] (wC G σ) r.1 (wC G r.2) := by
  refine Met.of0 (Qf := PI G r.1 (wC G r.2)) (cc := cX1_choice) (maxL := 7) (ret := (some .int)) (by decide) rfl (Nat.le_of_ble_eq_true rfl) ?_
  intro p e s m below meth c args A hx hb hr hts hown hlocks hml hin0 hA hS hP hK hD hX ls hl
  have hl : lv_has ls 7 [(0, .ref (aD G 22)), (1, .int x1)] := hl
  generalize hQ : MQ below (PI G r.1 (wC G r.2) A) args s 0 0 A = Q
  unfold f_X1_choice at hE
  have J_41 : ∀ (x2 : Int32) (x3 : Int32) (x4 : Int32) (x5 : Int32) (σ : St) (H : Heap) (locs : List Loc) (ls : Array Slot), va_P G.1 vwCl (wC G σ) H → va_D A (wC G σ) → va_S A s.heap H locs → lv_has ls 7 [(0, .ref (aD G 22)), (1, .int x1), (2, .int x2), (3, .int x3), (4, .int x4), (5, .int x5)] → f_X1_choice_J41 x1 x2 x3 x4 x5 σ = some r → W p l e rmX1_choice s m args below meth c H locs 0 0 Q (F0 m 41 ls []) := by
    intro x2 x3 x4 x5 σ H locs ls hP hD hS hl hE
    unfold f_X1_choice_J41 at hE
    obtain ⟨y41, hL, hE41⟩ := bnd_some hE
    refine loop_W (body := f_X1_choice_L41 x1 x2 σ) (y := y41) (P := fun v41 => ∀ (H : Heap) (locs : List Loc) (ls : Array Slot), va_P G.1 vwCl (wC G σ) H → va_D A (wC G σ) → va_S A s.heap H locs → lv_has ls 7 [(0, .ref (aD G 22)), (1, .int x1), (2, .int x2), (3, .int v41.1), (4, .int v41.2.1), (5, .int v41.2.2)] → W p l e rmX1_choice s m args below meth c H locs 0 0 Q (F0 m 41 ls [])) ?_ _ _ hL H locs ls hP hD hS hl
    clear hP hD hS hl hE hL
    intro v41 t41 hE hN41 hY41
    intro H locs ls hP hD hS hl
    unfold f_X1_choice_L41 at hE
    have J_79 : ∀ (x5 : Int32) (x6 : Int32) (H : Heap) (locs : List Loc) (ls : Array Slot), va_P G.1 vwCl (wC G σ) H → va_D A (wC G σ) → va_S A s.heap H locs → lv_has ls 7 [(0, .ref (aD G 22)), (1, .int x1), (2, .int x2), (5, .int x5), (6, .int x6)] → f_X1_choice_J79 x1 x2 x5 x6 σ = some t41 → W p l e rmX1_choice s m args below meth c H locs 0 0 Q (F0 m 79 ls []) := by
      intro x5 x6 H locs ls hP hD hS hl hE
      unfold f_X1_choice_J79 at hE
      refine lv_iload hx hb dX1_choice_79 (lv_at hl 3 rfl) ?_
      refine lv_istore_n (lv' := [(3, .int x5), (0, .ref (aD G 22)), (1, .int x1), (2, .int x2), (5, .int x5), (6, .int x6)]) hx hb dX1_choice_81 rfl hl (by decide) rfl (fun ls hl => ?_)
      refine lv_iload hx hb dX1_choice_82 (lv_at hl 5 rfl) ?_
      refine lv_istore (lv' := [(4, .int x6), (3, .int x5), (0, .ref (aD G 22)), (1, .int x1), (2, .int x2), (5, .int x5), (6, .int x6)]) hx hb dX1_choice_84 hl (by decide) rfl (fun ls hl => ?_)
      refine lv_iinc (v := (x5 + (1 : Int32))) (lv' := [(5, .int (x5 + (1 : Int32))), (4, .int x6), (3, .int x5), (0, .ref (aD G 22)), (1, .int x1), (2, .int x2), (6, .int x6)]) hx hb dX1_choice_86 hl (k := 5) rfl rfl (by decide) rfl (fun ls hl => ?_)
      refine lv_goto (tgt := 41) hx hb dX1_choice_89 (by decide) ?_
      exact hN41 _ (Option.some.inj hE).symm _ _ _ hP hD hS (lv_sub hl [3, 4, 5, 2, 1, 0] rfl)
    refine lv_iload hx hb dX1_choice_41 (lv_at hl 5 rfl) ?_
    refine lv_bipush (v := (80 : Int32)) hx hb dX1_choice_43 (by decide) ?_
    refine lv_icmp_ge (tgt := 92) hx hb dX1_choice_45 (by decide) (fun c_ => ?_) (fun c_ => ?_)
    · have hE := ip c_ hE
      have e9 := hY41 _ (Option.some.inj hE).symm
      have hE := hE41
      rw [← e9] at hE
      refine lv_iload_n hx hb dX1_choice_92 rfl (lv_at hl 3 rfl) ?_
      rw [← hQ, ← Option.some.inj hE]
      exact ri hx hb hr hlocks hK hP hD hS dX1_choice_93
    · have hE := im c_ hE
      refine lv_aload_n hx hb dX1_choice_48 rfl (lv_at hl 0 rfl) ?_
      refine lv_iload hx hb dX1_choice_49 (lv_at hl 5 rfl) ?_
      refine lv_iload_n hx hb dX1_choice_51 rfl (lv_at hl 2 rfl) ?_
      obtain ⟨r2, hC, hE⟩ := bnd_some hE
      refine ci (va_runV (As := [.int v41.2.2, .int x2]) (rest := []) ⟨hx, hb, hml, hown, hts⟩ (c_X1_isChosen l G v41.2.2 x2 σ r2 hC _) (cwV 2 hts gX1_choice_X1_isChosen rfl rfl rfl (by decide +kernel) ⟨Nat.le_of_ble_eq_true rfl, Nat.le_of_ble_eq_true rfl⟩) (preV hK hP hD hS hA hX (va_recv hK hP (ci := 1) (q0 := 22) rfl rfl)) rfl rfl hl.1 rfl (lv_room (Nat.le_of_ble_eq_true rfl)) dX1_choice_52 ⟨Nat.le_of_ble_eq_true rfl, Nat.le_of_ble_eq_true rfl⟩) hD hS hA (fun H locs hP hD hS => ?_)
      refine lv_if_eq (tgt := 86) hx hb dX1_choice_55 (by decide) (fun c_ => ?_) (fun c_ => ?_)
      · have hE := ip c_ hE
        refine lv_iinc (v := (v41.2.2 + (1 : Int32))) (lv' := [(5, .int (v41.2.2 + (1 : Int32))), (0, .ref (aD G 22)), (1, .int x1), (2, .int x2), (3, .int v41.1), (4, .int v41.2.1)]) hx hb dX1_choice_86 hl (k := 5) rfl rfl (by decide) rfl (fun ls hl => ?_)
        refine lv_goto (tgt := 41) hx hb dX1_choice_89 (by decide) ?_
        exact hN41 _ (Option.some.inj hE).symm _ _ _ hP hD hS (lv_sub hl [1, 2, 3, 4, 5, 0] rfl)
      · have hE := im c_ hE
        refine lv_aload_n hx hb dX1_choice_58 rfl (lv_at hl 0 rfl) ?_
        refine lv_iload_n hx hb dX1_choice_59 rfl (lv_at hl 1 rfl) ?_
        refine lv_iload hx hb dX1_choice_60 (lv_at hl 5 rfl) ?_
        obtain ⟨r3, hC, hE⟩ := bnd_some hE
        refine ci (va_runV (As := [.int x1, .int v41.2.2]) (rest := []) ⟨hx, hb, hml, hown, hts⟩ (c_X1_rank l G x1 v41.2.2 σ r3 hC _) (cwV 2 hts gX1_choice_X1_rank rfl rfl rfl (by decide +kernel) ⟨Nat.le_of_ble_eq_true rfl, Nat.le_of_ble_eq_true rfl⟩) (preV hK hP hD hS hA hX (va_recv hK hP (ci := 1) (q0 := 22) rfl rfl)) rfl rfl hl.1 rfl (lv_room (Nat.le_of_ble_eq_true rfl)) dX1_choice_62 ⟨Nat.le_of_ble_eq_true rfl, Nat.le_of_ble_eq_true rfl⟩) hD hS hA (fun H locs hP hD hS => ?_)
        refine lv_istore (lv' := [(6, .int r3), (0, .ref (aD G 22)), (1, .int x1), (2, .int x2), (3, .int v41.1), (4, .int v41.2.1), (5, .int v41.2.2)]) hx hb dX1_choice_65 hl (by decide) rfl (fun ls hl => ?_)
        refine lv_iload_n hx hb dX1_choice_67 rfl (lv_at hl 4 rfl) ?_
        refine lv_iconst (v := (-1 : Int32)) hx hb dX1_choice_68 (by decide) ?_
        refine lv_icmp_eq (tgt := 79) hx hb dX1_choice_69 (by decide) (fun c_ => ?_) (fun c_ => ?_)
        · have hE := ip c_ hE
          exact J_79 v41.2.2 r3 _ _ _ hP hD hS (lv_sub hl [1, 2, 3, 6, 0] rfl) hE
        · have hE := im c_ hE
          refine lv_iload hx hb dX1_choice_72 (lv_at hl 0 rfl) ?_
          refine lv_iload hx hb dX1_choice_74 (lv_at hl 5 rfl) ?_
          refine lv_icmp_ge (tgt := 86) hx hb dX1_choice_76 (by decide) (fun c_ => ?_) (fun c_ => ?_)
          · have hE := ip c_ hE
            refine lv_iinc (v := (v41.2.2 + (1 : Int32))) (lv' := [(5, .int (v41.2.2 + (1 : Int32))), (6, .int r3), (0, .ref (aD G 22)), (1, .int x1), (2, .int x2), (3, .int v41.1), (4, .int v41.2.1)]) hx hb dX1_choice_86 hl (k := 6) rfl rfl (by decide) rfl (fun ls hl => ?_)
            refine lv_goto (tgt := 41) hx hb dX1_choice_89 (by decide) ?_
            exact hN41 _ (Option.some.inj hE).symm _ _ _ hP hD hS (lv_sub hl [2, 3, 4, 5, 6, 0] rfl)
          · have hE := im c_ hE
            exact J_79 v41.2.2 r3 _ _ _ hP hD hS (lv_sub hl [1, 2, 3, 6, 0] rfl) hE
  have J_28 : ∀ (x2 : Int32) (σ : St) (H : Heap) (locs : List Loc) (ls : Array Slot), va_P G.1 vwCl (wC G σ) H → va_D A (wC G σ) → va_S A s.heap H locs → lv_has ls 7 [(0, .ref (aD G 22)), (1, .int x1), (2, .int x2)] → f_X1_choice_J28 x1 x2 σ = some r → W p l e rmX1_choice s m args below meth c H locs 0 0 Q (F0 m 28 ls []) := by
    intro x2 σ H locs ls hP hD hS hl hE
    unfold f_X1_choice_J28 at hE
    refine lv_aload_n hx hb dX1_choice_28 rfl (lv_at hl 0 rfl) ?_
    refine lv_iload_n hx hb dX1_choice_29 rfl (lv_at hl 2 rfl) ?_
    obtain ⟨r1, hC, hE⟩ := bnd_some hE
    refine cv (va_runV (As := [.int x2]) (rest := []) ⟨hx, hb, hml, hown, hts⟩ (c_X1_chooseTwins l G x2 σ r1 hC _) (cwV 1 hts gX1_choice_X1_chooseTwins rfl rfl rfl (by decide +kernel) ⟨Nat.le_of_ble_eq_true rfl, Nat.le_of_ble_eq_true rfl⟩) (preV hK hP hD hS hA hX (va_recv hK hP (ci := 1) (q0 := 22) rfl rfl)) rfl rfl hl.1 rfl (lv_room (Nat.le_of_ble_eq_true rfl)) dX1_choice_30 ⟨Nat.le_of_ble_eq_true rfl, Nat.le_of_ble_eq_true rfl⟩) hD hS hA (fun H locs hP hD hS => ?_)
    refine lv_iconst (v := (-1 : Int32)) hx hb dX1_choice_33 (by decide) ?_
    refine lv_istore_n (lv' := [(3, .int (-1 : Int32)), (0, .ref (aD G 22)), (1, .int x1), (2, .int x2)]) hx hb dX1_choice_34 rfl hl (by decide) rfl (fun ls hl => ?_)
    refine lv_iconst (v := (0 : Int32)) hx hb dX1_choice_35 (by decide) ?_
    refine lv_istore (lv' := [(4, .int (0 : Int32)), (3, .int (-1 : Int32)), (0, .ref (aD G 22)), (1, .int x1), (2, .int x2)]) hx hb dX1_choice_36 hl (by decide) rfl (fun ls hl => ?_)
    refine lv_iconst (v := (0 : Int32)) hx hb dX1_choice_38 (by decide) ?_
    refine lv_istore (lv' := [(5, .int (0 : Int32)), (4, .int (0 : Int32)), (3, .int (-1 : Int32)), (0, .ref (aD G 22)), (1, .int x1), (2, .int x2)]) hx hb dX1_choice_39 hl (by decide) rfl (fun ls hl => ?_)
    exact J_41 x2 (-1 : Int32) (0 : Int32) (0 : Int32) r1 _ _ _ hP hD hS (lv_sub hl [3, 4, 5, 2, 1, 0] rfl) hE
  refine lv_iconst (v := (-1 : Int32)) hx hb dX1_choice_0 (by decide) ?_
  refine lv_istore_n (lv' := [(2, .int (-1 : Int32)), (0, .ref (aD G 22)), (1, .int x1)]) hx hb dX1_choice_1 rfl hl (by decide) rfl (fun ls hl => ?_)
  refine lv_iload_n hx hb dX1_choice_2 rfl (lv_at hl 2 rfl) ?_
  refine lv_iconst (v := (4 : Int32)) hx hb dX1_choice_3 (by decide) ?_
  refine lv_icmp_ne (tgt := 28) hx hb dX1_choice_4 (by decide) (fun c_ => ?_) (fun c_ => ?_)
  · have hE := im c_ hE
    exact J_28 (-1 : Int32) σ _ _ _ hP hD hS (lv_sub hl [1, 2, 0] rfl) hE
  · have hE := ip c_ hE
    refine lv_aload_n hx hb dX1_choice_7 rfl (lv_at hl 1 rfl) ?_
    refine va_get (ci := 1) (v := .ref (aD G 20)) (C := RX1) (T := TX1) (N := 9) hx hb hts (fun _ h => List.mem_cons_of_mem _ (List.mem_append_left _ (List.mem_append_left _ (List.mem_append_left _ (List.mem_append_right _ h))))) hown hK hP 22 rfl rfl 1 (by decide) (hts (.fieldLink RX1 21 "FillCells$Filling" "windows" "LFillCells$Windows;") (List.mem_of_getElem? (i := 1) rfl)) (fun _ h9 => h9) rfl dX1_choice_8 ?_
    obtain ⟨r4, hC, hE⟩ := bnd_some hE
    refine ci (va_runV (As := []) (rest := []) ⟨hx, hb, hml, hown, hts⟩ (c_X5_atLeast l G σ r4 hC _) (cwV 0 hts gX1_choice_X5_atLeast rfl rfl rfl (by decide +kernel) ⟨Nat.le_of_ble_eq_true rfl, Nat.le_of_ble_eq_true rfl⟩) (preV hK hP hD hS hA hX (va_recv hK hP (ci := 5) (q0 := 20) rfl rfl)) rfl rfl hl.1 rfl (lv_room (Nat.le_of_ble_eq_true rfl)) dX1_choice_11 ⟨Nat.le_of_ble_eq_true rfl, Nat.le_of_ble_eq_true rfl⟩) hD hS hA (fun H locs hP hD hS => ?_)
    refine lv_istore_n (lv' := [(2, .int r4), (0, .ref (aD G 22)), (1, .int x1)]) hx hb dX1_choice_14 rfl hl (by decide) rfl (fun ls hl => ?_)
    refine lv_aload_n hx hb dX1_choice_15 rfl (lv_at hl 1 rfl) ?_
    refine va_get (ci := 1) (v := .ref (aD G 20)) (C := RX1) (T := TX1) (N := 9) hx hb hts (fun _ h => List.mem_cons_of_mem _ (List.mem_append_left _ (List.mem_append_left _ (List.mem_append_left _ (List.mem_append_right _ h))))) hown hK hP 22 rfl rfl 1 (by decide) (hts (.fieldLink RX1 21 "FillCells$Filling" "windows" "LFillCells$Windows;") (List.mem_of_getElem? (i := 1) rfl)) (fun _ h9 => h9) rfl dX1_choice_16 ?_
    refine lv_iload_n hx hb dX1_choice_19 rfl (lv_at hl 0 rfl) ?_
    obtain ⟨r5, hC, hE⟩ := bnd_some hE
    refine ci (va_runV (As := [.int r4]) (rest := []) ⟨hx, hb, hml, hown, hts⟩ (c_X5_isThin l G r4 σ r5 hC _) (cwV 1 hts gX1_choice_X5_isThin rfl rfl rfl (by decide +kernel) ⟨Nat.le_of_ble_eq_true rfl, Nat.le_of_ble_eq_true rfl⟩) (preV hK hP hD hS hA hX (va_recv hK hP (ci := 5) (q0 := 20) rfl rfl)) rfl rfl hl.1 rfl (lv_room (Nat.le_of_ble_eq_true rfl)) dX1_choice_20 ⟨Nat.le_of_ble_eq_true rfl, Nat.le_of_ble_eq_true rfl⟩) hD hS hA (fun H locs hP hD hS => ?_)
    refine lv_if_ne (tgt := 28) hx hb dX1_choice_23 (by decide) (fun c_ => ?_) (fun c_ => ?_)
    · have hE := im c_ hE
      exact J_28 r4 σ _ _ _ hP hD hS (lv_sub hl [1, 2, 0] rfl) hE
    · have hE := ip c_ hE
      refine lv_iconst (v := (-1 : Int32)) hx hb dX1_choice_26 (by decide) ?_
      rw [← hQ, ← Option.some.inj hE]
      exact ri hx hb hr hlocks hK hP hD hS dX1_choice_27
abbrev rmX1_change : Room := { frames := 3, cells := 0, slots := 0, locals := 77 }
def f_X1_change_J44 (x1 : Int32) (x2 : Int32) (x3 : Int32) (x4 : Int32) (σ : St) : Option (((St)) ⊕ (Int32 × St)) := gd x4 80 (gd x4 80 (bnd (f_X5_shift x4 x2 (sA σ 4 x4 ((rd σ 4 x4) + x2))) (fun r1 => bnd (f_X3_shift x4 x2 r1) (fun r2 => some (.inr ((x4 + (1 : Int32)), r2))))))
def f_X1_change_L13 (x1 : Int32) (x2 : Int32) (x3 : Int32) (v13 : Int32 × St) : Option (((St)) ⊕ (Int32 × St)) := if (80 : Int32) ≤ v13.1 then (some (.inl (v13.2))) else (if v13.1 = x1 then (f_X1_change_J44 x1 x2 x3 v13.1 v13.2) else (if x3 = 0 then (some (.inr ((v13.1 + (1 : Int32)), v13.2))) else (gd v13.1 80 (if (rd v13.2 3 v13.1) = x3 then (f_X1_change_J44 x1 x2 x3 v13.1 v13.2) else (some (.inr ((v13.1 + (1 : Int32)), v13.2)))))))
def f_X1_change_J13 (x1 : Int32) (x2 : Int32) (x3 : Int32) (x4 : Int32) (σ : St) : Option St := bnd (loopN (f_X1_change_L13 x1 x2 x3) 4096 (x4, σ)) (fun y13 => some y13)
def f_X1_change (x1 x2 : Int32) (σ : St) : Option St := gd x1 80 (f_X1_change_J13 x1 x2 (rd σ 3 x1) (0 : Int32) σ)
set_option maxHeartbeats 4000000 in
set_option maxRecDepth 100000 in
theorem c_X1_change (l : Launch) (G : EV)  (x1 x2 : Int32) (σ : St) (r : St) (hE : f_X1_change x1 x2 σ = some r) : MetV l G yX1_change wsX1_change rmX1_change [.ref (aD G 22), .int x1, .int x2] (wC G σ) (wC G r) := by
  refine Met.of0 (Qf := PV G (wC G r)) (cc := cX1_change) (maxL := 5) (ret := none) (by decide) rfl (Nat.le_of_ble_eq_true rfl) ?_
  intro p e s m below meth c args A hx hb hr hts hown hlocks hml hin0 hA hS hP hK hD hX ls hl
  have hl : lv_has ls 5 [(0, .ref (aD G 22)), (1, .int x1), (2, .int x2)] := hl
  generalize hQ : MQ below (PV G (wC G r) A) args s 0 0 A = Q
  unfold f_X1_change at hE
  have J_13 : ∀ (x3 : Int32) (x4 : Int32) (σ : St) (H : Heap) (locs : List Loc) (ls : Array Slot), va_P G.1 vwCl (wC G σ) H → va_D A (wC G σ) → va_S A s.heap H locs → lv_has ls 5 [(0, .ref (aD G 22)), (1, .int x1), (2, .int x2), (3, .int x3), (4, .int x4)] → f_X1_change_J13 x1 x2 x3 x4 σ = some r → W p l e rmX1_change s m args below meth c H locs 0 0 Q (F0 m 13 ls []) := by
    intro x3 x4 σ H locs ls hP hD hS hl hE
    unfold f_X1_change_J13 at hE
    obtain ⟨y13, hL, hE13⟩ := bnd_some hE
    refine loop_W (body := f_X1_change_L13 x1 x2 x3) (y := y13) (P := fun v13 => ∀ (H : Heap) (locs : List Loc) (ls : Array Slot), va_P G.1 vwCl (wC G v13.2) H → va_D A (wC G v13.2) → va_S A s.heap H locs → lv_has ls 5 [(0, .ref (aD G 22)), (1, .int x1), (2, .int x2), (3, .int x3), (4, .int v13.1)] → W p l e rmX1_change s m args below meth c H locs 0 0 Q (F0 m 13 ls [])) ?_ _ _ hL H locs ls hP hD hS hl
    clear hP hD hS hl hE hL
    intro v13 t13 hE hN13 hY13
    intro H locs ls hP hD hS hl
    unfold f_X1_change_L13 at hE
    have J_44 : ∀ (x4 : Int32) (σ : St) (H : Heap) (locs : List Loc) (ls : Array Slot), va_P G.1 vwCl (wC G σ) H → va_D A (wC G σ) → va_S A s.heap H locs → lv_has ls 5 [(0, .ref (aD G 22)), (1, .int x1), (2, .int x2), (3, .int x3), (4, .int x4)] → f_X1_change_J44 x1 x2 x3 x4 σ = some t13 → W p l e rmX1_change s m args below meth c H locs 0 0 Q (F0 m 44 ls []) := by
      intro x4 σ H locs ls hP hD hS hl hE
      unfold f_X1_change_J44 at hE
      refine lv_aload_n hx hb dX1_change_44 rfl (lv_at hl 0 rfl) ?_
      refine va_get (ci := 1) (v := .ref (aD G 19)) (C := RX1) (T := TX1) (N := 9) hx hb hts (fun _ h => List.mem_cons_of_mem _ (List.mem_append_left _ (List.mem_append_left _ (List.mem_append_left _ (List.mem_append_right _ h))))) hown hK hP 22 rfl rfl 0 (by decide) (hts (.fieldLink RX1 12 "FillCells$Filling" "field" "LFillCells$Field;") (List.mem_of_getElem? (i := 1) rfl)) (fun _ h9 => h9) rfl dX1_change_45 ?_
      refine va_get (ci := 0) (v := .ref (aD G 4)) (C := RX0) (T := TX0) (N := 5) hx hb hts (fun _ h => List.mem_cons_of_mem _ (List.mem_append_left _ (List.mem_append_left _ (List.mem_append_right _ h)))) hown hK hP 19 rfl rfl 4 (by decide) (hts (.fieldLink RX1 69 "FillCells$Field" "fill" "[I") (List.mem_of_getElem? (i := 3) rfl)) (fun _ h9 => h9) rfl dX1_change_48 ?_
      refine lv_iload hx hb dX1_change_51 (lv_at hl 4 rfl) ?_
      refine lv_dup2_11 hx hb dX1_change_53 rfl rfl ?_
      obtain ⟨h_i, hE⟩ := gd_some hE
      refine ldC hx hb hK hP 4 (by decide) h_i dX1_change_54 ?_
      refine lv_iload_n hx hb dX1_change_55 rfl (lv_at hl 2 rfl) ?_
      refine lv_iadd hx hb dX1_change_56 ?_
      obtain ⟨h_i, hE⟩ := gd_some hE
      refine stC hx hb hK hP hD hS 4 (by decide) h_i dX1_change_57 (fun H locs hP hD hS => ?_)
      refine lv_aload_n hx hb dX1_change_58 rfl (lv_at hl 0 rfl) ?_
      refine va_get (ci := 1) (v := .ref (aD G 20)) (C := RX1) (T := TX1) (N := 9) hx hb hts (fun _ h => List.mem_cons_of_mem _ (List.mem_append_left _ (List.mem_append_left _ (List.mem_append_left _ (List.mem_append_right _ h))))) hown hK hP 22 rfl rfl 1 (by decide) (hts (.fieldLink RX1 21 "FillCells$Filling" "windows" "LFillCells$Windows;") (List.mem_of_getElem? (i := 4) rfl)) (fun _ h9 => h9) rfl dX1_change_59 ?_
      refine lv_iload hx hb dX1_change_62 (lv_at hl 4 rfl) ?_
      refine lv_iload_n hx hb dX1_change_64 rfl (lv_at hl 2 rfl) ?_
      obtain ⟨r1, hC, hE⟩ := bnd_some hE
      refine cv (va_runV (As := [.int x4, .int x2]) (rest := []) ⟨hx, hb, hml, hown, hts⟩ (c_X5_shift l G x4 x2 (sA σ 4 x4 ((rd σ 4 x4) + x2)) r1 hC _) (cwV 2 hts gX1_change_X5_shift rfl rfl rfl (by decide +kernel) ⟨Nat.le_of_ble_eq_true rfl, Nat.le_of_ble_eq_true rfl⟩) (preV hK hP hD hS hA hX (va_recv hK hP (ci := 5) (q0 := 20) rfl rfl)) rfl rfl hl.1 rfl (lv_room (Nat.le_of_ble_eq_true rfl)) dX1_change_65 ⟨Nat.le_of_ble_eq_true rfl, Nat.le_of_ble_eq_true rfl⟩) hD hS hA (fun H locs hP hD hS => ?_)
      refine lv_aload_n hx hb dX1_change_68 rfl (lv_at hl 0 rfl) ?_
      refine va_get (ci := 1) (v := .ref (aD G 21)) (C := RX1) (T := TX1) (N := 9) hx hb hts (fun _ h => List.mem_cons_of_mem _ (List.mem_append_left _ (List.mem_append_left _ (List.mem_append_left _ (List.mem_append_right _ h))))) hown hK hP 22 rfl rfl 2 (by decide) (hts (.fieldLink RX1 28 "FillCells$Filling" "nets" "LFillCells$Nets;") (List.mem_of_getElem? (i := 5) rfl)) (fun _ h9 => h9) rfl dX1_change_69 ?_
      refine lv_iload hx hb dX1_change_72 (lv_at hl 4 rfl) ?_
      refine lv_iload_n hx hb dX1_change_74 rfl (lv_at hl 2 rfl) ?_
      obtain ⟨r2, hC, hE⟩ := bnd_some hE
      refine cv (va_runV (As := [.int x4, .int x2]) (rest := []) ⟨hx, hb, hml, hown, hts⟩ (c_X3_shift l G x4 x2 r1 r2 hC _) (cwV 2 hts gX1_change_X3_shift rfl rfl rfl (by decide +kernel) ⟨Nat.le_of_ble_eq_true rfl, Nat.le_of_ble_eq_true rfl⟩) (preV hK hP hD hS hA hX (va_recv hK hP (ci := 3) (q0 := 21) rfl rfl)) rfl rfl hl.1 rfl (lv_room (Nat.le_of_ble_eq_true rfl)) dX1_change_75 ⟨Nat.le_of_ble_eq_true rfl, Nat.le_of_ble_eq_true rfl⟩) hD hS hA (fun H locs hP hD hS => ?_)
      refine lv_iinc (v := (x4 + (1 : Int32))) (lv' := [(4, .int (x4 + (1 : Int32))), (0, .ref (aD G 22)), (1, .int x1), (2, .int x2), (3, .int x3)]) hx hb dX1_change_78 hl (k := 4) rfl rfl (by decide) rfl (fun ls hl => ?_)
      refine lv_goto (tgt := 13) hx hb dX1_change_81 (by decide) ?_
      exact hN13 _ (Option.some.inj hE).symm _ _ _ hP hD hS (lv_sub hl [1, 2, 3, 4, 0] rfl)
    refine lv_iload hx hb dX1_change_13 (lv_at hl 4 rfl) ?_
    refine lv_bipush (v := (80 : Int32)) hx hb dX1_change_15 (by decide) ?_
    refine lv_icmp_ge (tgt := 84) hx hb dX1_change_17 (by decide) (fun c_ => ?_) (fun c_ => ?_)
    · have hE := ip c_ hE
      have e9 := hY13 _ (Option.some.inj hE).symm
      have hE := hE13
      rw [← e9] at hE
      rw [← hQ, ← Option.some.inj hE]
      exact rv hx hb hr hlocks hK hP hD hS dX1_change_84
    · have hE := im c_ hE
      refine lv_iload hx hb dX1_change_20 (lv_at hl 4 rfl) ?_
      refine lv_iload_n hx hb dX1_change_22 rfl (lv_at hl 1 rfl) ?_
      refine lv_icmp_eq (tgt := 44) hx hb dX1_change_23 (by decide) (fun c_ => ?_) (fun c_ => ?_)
      · have hE := ip c_ hE
        exact J_44 v13.1 v13.2 _ _ _ hP hD hS (lv_sub hl [0, 1, 2, 3, 4] rfl) hE
      · have hE := im c_ hE
        refine lv_iload_n hx hb dX1_change_26 rfl (lv_at hl 3 rfl) ?_
        refine lv_if_eq (tgt := 78) hx hb dX1_change_27 (by decide) (fun c_ => ?_) (fun c_ => ?_)
        · have hE := ip c_ hE
          refine lv_iinc (v := (v13.1 + (1 : Int32))) (lv' := [(4, .int (v13.1 + (1 : Int32))), (0, .ref (aD G 22)), (1, .int x1), (2, .int x2), (3, .int x3)]) hx hb dX1_change_78 hl (k := 4) rfl rfl (by decide) rfl (fun ls hl => ?_)
          refine lv_goto (tgt := 13) hx hb dX1_change_81 (by decide) ?_
          exact hN13 _ (Option.some.inj hE).symm _ _ _ hP hD hS (lv_sub hl [1, 2, 3, 4, 0] rfl)
        · have hE := im c_ hE
          refine lv_aload_n hx hb dX1_change_30 rfl (lv_at hl 0 rfl) ?_
          refine va_get (ci := 1) (v := .ref (aD G 19)) (C := RX1) (T := TX1) (N := 9) hx hb hts (fun _ h => List.mem_cons_of_mem _ (List.mem_append_left _ (List.mem_append_left _ (List.mem_append_left _ (List.mem_append_right _ h))))) hown hK hP 22 rfl rfl 0 (by decide) (hts (.fieldLink RX1 12 "FillCells$Filling" "field" "LFillCells$Field;") (List.mem_of_getElem? (i := 1) rfl)) (fun _ h9 => h9) rfl dX1_change_31 ?_
          refine va_get (ci := 0) (v := .ref (aD G 3)) (C := RX0) (T := TX0) (N := 5) hx hb hts (fun _ h => List.mem_cons_of_mem _ (List.mem_append_left _ (List.mem_append_left _ (List.mem_append_right _ h)))) hown hK hP 19 rfl rfl 3 (by decide) (hts (.fieldLink RX1 58 "FillCells$Field" "twins" "[I") (List.mem_of_getElem? (i := 2) rfl)) (fun _ h9 => h9) rfl dX1_change_34 ?_
          refine lv_iload hx hb dX1_change_37 (lv_at hl 4 rfl) ?_
          obtain ⟨h_i, hE⟩ := gd_some hE
          refine ldC hx hb hK hP 3 (by decide) h_i dX1_change_39 ?_
          refine lv_iload_n hx hb dX1_change_40 rfl (lv_at hl 3 rfl) ?_
          refine lv_icmp_ne (tgt := 78) hx hb dX1_change_41 (by decide) (fun c_ => ?_) (fun c_ => ?_)
          · have hE := im c_ hE
            refine lv_iinc (v := (v13.1 + (1 : Int32))) (lv' := [(4, .int (v13.1 + (1 : Int32))), (0, .ref (aD G 22)), (1, .int x1), (2, .int x2), (3, .int x3)]) hx hb dX1_change_78 hl (k := 4) rfl rfl (by decide) rfl (fun ls hl => ?_)
            refine lv_goto (tgt := 13) hx hb dX1_change_81 (by decide) ?_
            exact hN13 _ (Option.some.inj hE).symm _ _ _ hP hD hS (lv_sub hl [1, 2, 3, 4, 0] rfl)
          · have hE := ip c_ hE
            exact J_44 v13.1 v13.2 _ _ _ hP hD hS (lv_sub hl [0, 1, 2, 3, 4] rfl) hE
  refine lv_aload_n hx hb dX1_change_0 rfl (lv_at hl 0 rfl) ?_
  refine va_get (ci := 1) (v := .ref (aD G 19)) (C := RX1) (T := TX1) (N := 9) hx hb hts (fun _ h => List.mem_cons_of_mem _ (List.mem_append_left _ (List.mem_append_left _ (List.mem_append_left _ (List.mem_append_right _ h))))) hown hK hP 22 rfl rfl 0 (by decide) (hts (.fieldLink RX1 12 "FillCells$Filling" "field" "LFillCells$Field;") (List.mem_of_getElem? (i := 1) rfl)) (fun _ h9 => h9) rfl dX1_change_1 ?_
  refine va_get (ci := 0) (v := .ref (aD G 3)) (C := RX0) (T := TX0) (N := 5) hx hb hts (fun _ h => List.mem_cons_of_mem _ (List.mem_append_left _ (List.mem_append_left _ (List.mem_append_right _ h)))) hown hK hP 19 rfl rfl 3 (by decide) (hts (.fieldLink RX1 58 "FillCells$Field" "twins" "[I") (List.mem_of_getElem? (i := 2) rfl)) (fun _ h9 => h9) rfl dX1_change_4 ?_
  refine lv_iload_n hx hb dX1_change_7 rfl (lv_at hl 1 rfl) ?_
  obtain ⟨h_i, hE⟩ := gd_some hE
  refine ldC hx hb hK hP 3 (by decide) h_i dX1_change_8 ?_
  refine lv_istore_n (lv' := [(3, .int (rd σ 3 x1)), (0, .ref (aD G 22)), (1, .int x1), (2, .int x2)]) hx hb dX1_change_9 rfl hl (by decide) rfl (fun ls hl => ?_)
  refine lv_iconst (v := (0 : Int32)) hx hb dX1_change_10 (by decide) ?_
  refine lv_istore (lv' := [(4, .int (0 : Int32)), (3, .int (rd σ 3 x1)), (0, .ref (aD G 22)), (1, .int x1), (2, .int x2)]) hx hb dX1_change_11 hl (by decide) rfl (fun ls hl => ?_)
  exact J_13 (rd σ 3 x1) (0 : Int32) σ _ _ _ hP hD hS (lv_sub hl [2, 3, 4, 1, 0] rfl) hE
abbrev rmX1_stepOn : Room := { frames := 5, cells := 0, slots := 0, locals := 119 }
def f_X1_stepOn_L2 (x1 : Int32) (x2 : Int32) (v2 : Int32 × St) : Option ((((Int32 × St) ⊕ (St))) ⊕ (Int32 × St)) := if x2 ≤ v2.1 then (some (.inl (.inr (v2.2)))) else (bnd (f_X1_choice x1 v2.2) (fun r1 => if r1.1 = (-1 : Int32) then (some (.inl (.inl (v2.1, r1.2)))) else (bnd (f_X1_change r1.1 (1 : Int32) r1.2) (fun r2 => some (.inr ((v2.1 + (1 : Int32)), r2))))))
def f_X1_stepOn_J2 (x1 : Int32) (x2 : Int32) (x3 : Int32) (σ : St) : Option (Int32 × St) := bnd (loopN (f_X1_stepOn_L2 x1 x2) 4096 (x3, σ)) (fun y2 => ear (fun q => q) y2 (fun y2 => some (x2, y2)))
def f_X1_stepOn (x1 x2 : Int32) (σ : St) : Option (Int32 × St) := f_X1_stepOn_J2 x1 x2 (0 : Int32) σ
set_option maxHeartbeats 4000000 in
set_option maxRecDepth 100000 in
theorem c_X1_stepOn (l : Launch) (G : EV)  (x1 x2 : Int32) (σ : St) (r : (Int32 × St)) (hE : f_X1_stepOn x1 x2 σ = some r) : MetI l G yX1_stepOn wsX1_stepOn rmX1_stepOn [.ref (aD G 22), .int x1, .int x2] (wC G σ) r.1 (wC G r.2) := by
  refine Met.of0 (Qf := PI G r.1 (wC G r.2)) (cc := cX1_stepOn) (maxL := 5) (ret := (some .int)) (by decide) rfl (Nat.le_of_ble_eq_true rfl) ?_
  intro p e s m below meth c args A hx hb hr hts hown hlocks hml hin0 hA hS hP hK hD hX ls hl
  have hl : lv_has ls 5 [(0, .ref (aD G 22)), (1, .int x1), (2, .int x2)] := hl
  generalize hQ : MQ below (PI G r.1 (wC G r.2) A) args s 0 0 A = Q
  unfold f_X1_stepOn at hE
  have J_2 : ∀ (x3 : Int32) (σ : St) (H : Heap) (locs : List Loc) (ls : Array Slot), va_P G.1 vwCl (wC G σ) H → va_D A (wC G σ) → va_S A s.heap H locs → lv_has ls 5 [(0, .ref (aD G 22)), (1, .int x1), (2, .int x2), (3, .int x3)] → f_X1_stepOn_J2 x1 x2 x3 σ = some r → W p l e rmX1_stepOn s m args below meth c H locs 0 0 Q (F0 m 2 ls []) := by
    intro x3 σ H locs ls hP hD hS hl hE
    unfold f_X1_stepOn_J2 at hE
    obtain ⟨y2, hL, hE2⟩ := bnd_some hE
    refine loop_W (body := f_X1_stepOn_L2 x1 x2) (y := y2) (P := fun v2 => ∀ (H : Heap) (locs : List Loc) (ls : Array Slot), va_P G.1 vwCl (wC G v2.2) H → va_D A (wC G v2.2) → va_S A s.heap H locs → lv_has ls 5 [(0, .ref (aD G 22)), (1, .int x1), (2, .int x2), (3, .int v2.1)] → W p l e rmX1_stepOn s m args below meth c H locs 0 0 Q (F0 m 2 ls [])) ?_ _ _ hL H locs ls hP hD hS hl
    clear hP hD hS hl hE hL
    intro v2 t2 hE hN2 hY2
    intro H locs ls hP hD hS hl
    unfold f_X1_stepOn_L2 at hE
    refine lv_iload_n hx hb dX1_stepOn_2 rfl (lv_at hl 3 rfl) ?_
    refine lv_iload_n hx hb dX1_stepOn_3 rfl (lv_at hl 2 rfl) ?_
    refine lv_icmp_ge (tgt := 35) hx hb dX1_stepOn_4 (by decide) (fun c_ => ?_) (fun c_ => ?_)
    · have hE := ip c_ hE
      have e9 := hY2 _ (Option.some.inj hE).symm
      have hE := ear_r _ e9 hE2
      refine lv_iload_n hx hb dX1_stepOn_35 rfl (lv_at hl 2 rfl) ?_
      rw [← hQ, ← Option.some.inj hE]
      exact ri hx hb hr hlocks hK hP hD hS dX1_stepOn_36
    · have hE := im c_ hE
      refine lv_aload_n hx hb dX1_stepOn_7 rfl (lv_at hl 0 rfl) ?_
      refine lv_iload_n hx hb dX1_stepOn_8 rfl (lv_at hl 1 rfl) ?_
      obtain ⟨r1, hC, hE⟩ := bnd_some hE
      refine ci (va_runV (As := [.int x1]) (rest := []) ⟨hx, hb, hml, hown, hts⟩ (c_X1_choice l G x1 v2.2 r1 hC _) (cwV 1 hts gX1_stepOn_X1_choice rfl rfl rfl (by decide +kernel) ⟨Nat.le_of_ble_eq_true rfl, Nat.le_of_ble_eq_true rfl⟩) (preV hK hP hD hS hA hX (va_recv hK hP (ci := 1) (q0 := 22) rfl rfl)) rfl rfl hl.1 rfl (lv_room (Nat.le_of_ble_eq_true rfl)) dX1_stepOn_9 ⟨Nat.le_of_ble_eq_true rfl, Nat.le_of_ble_eq_true rfl⟩) hD hS hA (fun H locs hP hD hS => ?_)
      refine lv_istore (lv' := [(4, .int r1.1), (0, .ref (aD G 22)), (1, .int x1), (2, .int x2), (3, .int v2.1)]) hx hb dX1_stepOn_12 hl (by decide) rfl (fun ls hl => ?_)
      refine lv_iload hx hb dX1_stepOn_14 (lv_at hl 0 rfl) ?_
      refine lv_iconst (v := (-1 : Int32)) hx hb dX1_stepOn_16 (by decide) ?_
      refine lv_icmp_ne (tgt := 22) hx hb dX1_stepOn_17 (by decide) (fun c_ => ?_) (fun c_ => ?_)
      · have hE := im c_ hE
        refine lv_aload_n hx hb dX1_stepOn_22 rfl (lv_at hl 1 rfl) ?_
        refine lv_iload hx hb dX1_stepOn_23 (lv_at hl 0 rfl) ?_
        refine lv_iconst (v := (1 : Int32)) hx hb dX1_stepOn_25 (by decide) ?_
        obtain ⟨r2, hC, hE⟩ := bnd_some hE
        refine cv (va_runV (As := [.int r1.1, .int (1 : Int32)]) (rest := []) ⟨hx, hb, hml, hown, hts⟩ (c_X1_change l G r1.1 (1 : Int32) r1.2 r2 hC _) (cwV 2 hts gX1_stepOn_X1_change rfl rfl rfl (by decide +kernel) ⟨Nat.le_of_ble_eq_true rfl, Nat.le_of_ble_eq_true rfl⟩) (preV hK hP hD hS hA hX (va_recv hK hP (ci := 1) (q0 := 22) rfl rfl)) rfl rfl hl.1 rfl (lv_room (Nat.le_of_ble_eq_true rfl)) dX1_stepOn_26 ⟨Nat.le_of_ble_eq_true rfl, Nat.le_of_ble_eq_true rfl⟩) hD hS hA (fun H locs hP hD hS => ?_)
        refine lv_iinc (v := (v2.1 + (1 : Int32))) (lv' := [(3, .int (v2.1 + (1 : Int32))), (4, .int r1.1), (0, .ref (aD G 22)), (1, .int x1), (2, .int x2)]) hx hb dX1_stepOn_29 hl (k := 4) rfl rfl (by decide) rfl (fun ls hl => ?_)
        refine lv_goto (tgt := 2) hx hb dX1_stepOn_32 (by decide) ?_
        exact hN2 _ (Option.some.inj hE).symm _ _ _ hP hD hS (lv_sub hl [2, 3, 4, 0] rfl)
      · have hE := ip c_ hE
        refine lv_iload_n hx hb dX1_stepOn_20 rfl (lv_at hl 4 rfl) ?_
        have hE := ear_l _ (hY2 _ (Option.some.inj hE).symm) hE2
        rw [← hQ, ← Option.some.inj hE]
        exact ri hx hb hr hlocks hK hP hD hS dX1_stepOn_21
  refine lv_iconst (v := (0 : Int32)) hx hb dX1_stepOn_0 (by decide) ?_
  refine lv_istore_n (lv' := [(3, .int (0 : Int32)), (0, .ref (aD G 22)), (1, .int x1), (2, .int x2)]) hx hb dX1_stepOn_1 rfl hl (by decide) rfl (fun ls hl => ?_)
  exact J_2 (0 : Int32) σ _ _ _ hP hD hS (lv_sub hl [1, 2, 3, 0] rfl) hE
abbrev rmX1_thinOut : Room := { frames := 4, cells := 0, slots := 0, locals := 101 }
def f_X1_thinOut_J77 (x1 : Int32) (σ : St) : Option (Int32 × St) := bnd (f_X6_total 4 σ) (fun r2 => some ((x1 - r2), σ))
def f_X1_thinOut_L14 (x1 : Int32) (v14 : Int32 × St) : Option (((St)) ⊕ (Int32 × St)) := if v14.1 < 0 then (some (.inl (v14.2))) else (gd v14.1 80 (if (rd v14.2 4 v14.1) ≤ 0 then (some (.inr ((v14.1 + (-1 : Int32)), v14.2))) else (gd v14.1 80 (gd v14.1 80 (bnd (f_X5_slack v14.1 (rd v14.2 3 v14.1) v14.2) (fun r3 => if (jmin (rd v14.2 4 v14.1) r3) ≤ 0 then (some (.inr ((v14.1 + (-1 : Int32)), v14.2))) else (bnd (f_X1_change v14.1 (-(jmin (rd v14.2 4 v14.1) r3)) v14.2) (fun r4 => some (.inr ((v14.1 + (-1 : Int32)), r4))))))))))
def f_X1_thinOut_J14 (x1 : Int32) (x2 : Int32) (σ : St) : Option (Int32 × St) := bnd (loopN (f_X1_thinOut_L14 x1) 4096 (x2, σ)) (fun y14 => f_X1_thinOut_J77 x1 y14)
def f_X1_thinOut (σ : St) : Option (Int32 × St) := bnd (f_X6_total 4 σ) (fun r1 => f_X1_thinOut_J14 r1 (79 : Int32) σ)
set_option maxHeartbeats 4000000 in
set_option maxRecDepth 100000 in
theorem c_X1_thinOut (l : Launch) (G : EV)   (σ : St) (r : (Int32 × St)) (hE : f_X1_thinOut σ = some r) : MetI l G yX1_thinOut wsX1_thinOut rmX1_thinOut [.ref (aD G 22)] (wC G σ) r.1 (wC G r.2) := by
  refine Met.of0 (Qf := PI G r.1 (wC G r.2)) (cc := cX1_thinOut) (maxL := 4) (ret := (some .int)) (by decide) rfl (Nat.le_of_ble_eq_true rfl) ?_
  intro p e s m below meth c args A hx hb hr hts hown hlocks hml hin0 hA hS hP hK hD hX ls hl
  have hl : lv_has ls 4 [(0, .ref (aD G 22))] := hl
  generalize hQ : MQ below (PI G r.1 (wC G r.2) A) args s 0 0 A = Q
  unfold f_X1_thinOut at hE
  have J_77 : ∀ (x1 : Int32) (σ : St) (H : Heap) (locs : List Loc) (ls : Array Slot), va_P G.1 vwCl (wC G σ) H → va_D A (wC G σ) → va_S A s.heap H locs → lv_has ls 4 [(0, .ref (aD G 22)), (1, .int x1)] → f_X1_thinOut_J77 x1 σ = some r → W p l e rmX1_thinOut s m args below meth c H locs 0 0 Q (F0 m 77 ls []) := by
    intro x1 σ H locs ls hP hD hS hl hE
    unfold f_X1_thinOut_J77 at hE
    refine lv_iload_n hx hb dX1_thinOut_77 rfl (lv_at hl 1 rfl) ?_
    refine lv_aload_n hx hb dX1_thinOut_78 rfl (lv_at hl 0 rfl) ?_
    refine va_get (ci := 1) (v := .ref (aD G 19)) (C := RX1) (T := TX1) (N := 9) hx hb hts (fun _ h => List.mem_cons_of_mem _ (List.mem_append_left _ (List.mem_append_left _ (List.mem_append_left _ (List.mem_append_right _ h))))) hown hK hP 22 rfl rfl 0 (by decide) (hts (.fieldLink RX1 12 "FillCells$Filling" "field" "LFillCells$Field;") (List.mem_of_getElem? (i := 1) rfl)) (fun _ h9 => h9) rfl dX1_thinOut_79 ?_
    refine va_get (ci := 0) (v := .ref (aD G 4)) (C := RX0) (T := TX0) (N := 5) hx hb hts (fun _ h => List.mem_cons_of_mem _ (List.mem_append_left _ (List.mem_append_left _ (List.mem_append_right _ h)))) hown hK hP 19 rfl rfl 4 (by decide) (hts (.fieldLink RX1 69 "FillCells$Field" "fill" "[I") (List.mem_of_getElem? (i := 2) rfl)) (fun _ h9 => h9) rfl dX1_thinOut_82 ?_
    obtain ⟨r2, hC, hE⟩ := bnd_some hE
    refine ci (va_runSN (As := [.ref (aD G 4)]) (rest := [.int x1]) ⟨hx, hb, hml, hown, hts⟩ (c_X6_total l G 4 (by decide) σ r2 hC _) ⟨va_cnB 1 hts gX1_thinOut_X6_total_n132 rfl rfl rfl (hX.1 (RX1, 132, yX6_total, RX6) (by decide)) (hts (.initialized RX6) (List.mem_of_getElem? (i := 10) rfl)) (by decide +kernel) ⟨Nat.le_of_ble_eq_true rfl, Nat.le_of_ble_eq_true rfl⟩, (hts (.static yX6_total) (List.mem_of_getElem? (i := 9) rfl)), trivial⟩ (preS hK hP hD hS hA hX) rfl rfl hl.1 rfl (lv_room (Nat.le_of_ble_eq_true rfl)) dX1_thinOut_85 ⟨Nat.le_of_ble_eq_true rfl, Nat.le_of_ble_eq_true rfl⟩) hD hS hA (fun H locs hP hD hS => ?_)
    refine lv_isub hx hb dX1_thinOut_88 ?_
    rw [← hQ, ← Option.some.inj hE]
    exact ri hx hb hr hlocks hK hP hD hS dX1_thinOut_89
  have J_14 : ∀ (x1 : Int32) (x2 : Int32) (σ : St) (H : Heap) (locs : List Loc) (ls : Array Slot), va_P G.1 vwCl (wC G σ) H → va_D A (wC G σ) → va_S A s.heap H locs → lv_has ls 4 [(0, .ref (aD G 22)), (1, .int x1), (2, .int x2)] → f_X1_thinOut_J14 x1 x2 σ = some r → W p l e rmX1_thinOut s m args below meth c H locs 0 0 Q (F0 m 14 ls []) := by
    intro x1 x2 σ H locs ls hP hD hS hl hE
    unfold f_X1_thinOut_J14 at hE
    obtain ⟨y14, hL, hE14⟩ := bnd_some hE
    refine loop_W (body := f_X1_thinOut_L14 x1) (y := y14) (P := fun v14 => ∀ (H : Heap) (locs : List Loc) (ls : Array Slot), va_P G.1 vwCl (wC G v14.2) H → va_D A (wC G v14.2) → va_S A s.heap H locs → lv_has ls 4 [(0, .ref (aD G 22)), (1, .int x1), (2, .int v14.1)] → W p l e rmX1_thinOut s m args below meth c H locs 0 0 Q (F0 m 14 ls [])) ?_ _ _ hL H locs ls hP hD hS hl
    clear hP hD hS hl hE hL
    intro v14 t14 hE hN14 hY14
    intro H locs ls hP hD hS hl
    unfold f_X1_thinOut_L14 at hE
    refine lv_iload_n hx hb dX1_thinOut_14 rfl (lv_at hl 2 rfl) ?_
    refine lv_if_lt (tgt := 77) hx hb dX1_thinOut_15 (by decide) (fun c_ => ?_) (fun c_ => ?_)
    · have hE := ip c_ hE
      have e9 := hY14 _ (Option.some.inj hE).symm
      have hE := hE14
      rw [← e9] at hE
      exact J_77 x1 v14.2 _ _ _ hP hD hS (lv_sub hl [0, 1] rfl) hE
    · have hE := im c_ hE
      refine lv_aload_n hx hb dX1_thinOut_18 rfl (lv_at hl 0 rfl) ?_
      refine va_get (ci := 1) (v := .ref (aD G 19)) (C := RX1) (T := TX1) (N := 9) hx hb hts (fun _ h => List.mem_cons_of_mem _ (List.mem_append_left _ (List.mem_append_left _ (List.mem_append_left _ (List.mem_append_right _ h))))) hown hK hP 22 rfl rfl 0 (by decide) (hts (.fieldLink RX1 12 "FillCells$Filling" "field" "LFillCells$Field;") (List.mem_of_getElem? (i := 1) rfl)) (fun _ h9 => h9) rfl dX1_thinOut_19 ?_
      refine va_get (ci := 0) (v := .ref (aD G 4)) (C := RX0) (T := TX0) (N := 5) hx hb hts (fun _ h => List.mem_cons_of_mem _ (List.mem_append_left _ (List.mem_append_left _ (List.mem_append_right _ h)))) hown hK hP 19 rfl rfl 4 (by decide) (hts (.fieldLink RX1 69 "FillCells$Field" "fill" "[I") (List.mem_of_getElem? (i := 2) rfl)) (fun _ h9 => h9) rfl dX1_thinOut_22 ?_
      refine lv_iload_n hx hb dX1_thinOut_25 rfl (lv_at hl 2 rfl) ?_
      obtain ⟨h_i, hE⟩ := gd_some hE
      refine ldC hx hb hK hP 4 (by decide) h_i dX1_thinOut_26 ?_
      refine lv_if_le (tgt := 71) hx hb dX1_thinOut_27 (by decide) (fun c_ => ?_) (fun c_ => ?_)
      · have hE := ip c_ hE
        refine lv_iinc (v := (v14.1 + (-1 : Int32))) (lv' := [(2, .int (v14.1 + (-1 : Int32))), (0, .ref (aD G 22)), (1, .int x1)]) hx hb dX1_thinOut_71 hl (k := 2) rfl rfl (by decide) rfl (fun ls hl => ?_)
        refine lv_goto (tgt := 14) hx hb dX1_thinOut_74 (by decide) ?_
        exact hN14 _ (Option.some.inj hE).symm _ _ _ hP hD hS (lv_sub hl [1, 2, 0] rfl)
      · have hE := im c_ hE
        refine lv_aload_n hx hb dX1_thinOut_30 rfl (lv_at hl 0 rfl) ?_
        refine va_get (ci := 1) (v := .ref (aD G 19)) (C := RX1) (T := TX1) (N := 9) hx hb hts (fun _ h => List.mem_cons_of_mem _ (List.mem_append_left _ (List.mem_append_left _ (List.mem_append_left _ (List.mem_append_right _ h))))) hown hK hP 22 rfl rfl 0 (by decide) (hts (.fieldLink RX1 12 "FillCells$Filling" "field" "LFillCells$Field;") (List.mem_of_getElem? (i := 1) rfl)) (fun _ h9 => h9) rfl dX1_thinOut_31 ?_
        refine va_get (ci := 0) (v := .ref (aD G 4)) (C := RX0) (T := TX0) (N := 5) hx hb hts (fun _ h => List.mem_cons_of_mem _ (List.mem_append_left _ (List.mem_append_left _ (List.mem_append_right _ h)))) hown hK hP 19 rfl rfl 4 (by decide) (hts (.fieldLink RX1 69 "FillCells$Field" "fill" "[I") (List.mem_of_getElem? (i := 2) rfl)) (fun _ h9 => h9) rfl dX1_thinOut_34 ?_
        refine lv_iload_n hx hb dX1_thinOut_37 rfl (lv_at hl 2 rfl) ?_
        obtain ⟨h_i, hE⟩ := gd_some hE
        refine ldC hx hb hK hP 4 (by decide) h_i dX1_thinOut_38 ?_
        refine lv_aload_n hx hb dX1_thinOut_39 rfl (lv_at hl 0 rfl) ?_
        refine va_get (ci := 1) (v := .ref (aD G 20)) (C := RX1) (T := TX1) (N := 9) hx hb hts (fun _ h => List.mem_cons_of_mem _ (List.mem_append_left _ (List.mem_append_left _ (List.mem_append_left _ (List.mem_append_right _ h))))) hown hK hP 22 rfl rfl 1 (by decide) (hts (.fieldLink RX1 21 "FillCells$Filling" "windows" "LFillCells$Windows;") (List.mem_of_getElem? (i := 3) rfl)) (fun _ h9 => h9) rfl dX1_thinOut_40 ?_
        refine lv_iload_n hx hb dX1_thinOut_43 rfl (lv_at hl 2 rfl) ?_
        refine lv_aload_n hx hb dX1_thinOut_44 rfl (lv_at hl 0 rfl) ?_
        refine va_get (ci := 1) (v := .ref (aD G 19)) (C := RX1) (T := TX1) (N := 9) hx hb hts (fun _ h => List.mem_cons_of_mem _ (List.mem_append_left _ (List.mem_append_left _ (List.mem_append_left _ (List.mem_append_right _ h))))) hown hK hP 22 rfl rfl 0 (by decide) (hts (.fieldLink RX1 12 "FillCells$Filling" "field" "LFillCells$Field;") (List.mem_of_getElem? (i := 1) rfl)) (fun _ h9 => h9) rfl dX1_thinOut_45 ?_
        refine va_get (ci := 0) (v := .ref (aD G 3)) (C := RX0) (T := TX0) (N := 5) hx hb hts (fun _ h => List.mem_cons_of_mem _ (List.mem_append_left _ (List.mem_append_left _ (List.mem_append_right _ h)))) hown hK hP 19 rfl rfl 3 (by decide) (hts (.fieldLink RX1 58 "FillCells$Field" "twins" "[I") (List.mem_of_getElem? (i := 4) rfl)) (fun _ h9 => h9) rfl dX1_thinOut_48 ?_
        refine lv_iload_n hx hb dX1_thinOut_51 rfl (lv_at hl 2 rfl) ?_
        obtain ⟨h_i, hE⟩ := gd_some hE
        refine ldC hx hb hK hP 3 (by decide) h_i dX1_thinOut_52 ?_
        obtain ⟨r3, hC, hE⟩ := bnd_some hE
        refine ci (va_runV (As := [.int v14.1, .int (rd v14.2 3 v14.1)]) (rest := [.int (rd v14.2 4 v14.1)]) ⟨hx, hb, hml, hown, hts⟩ (c_X5_slack l G v14.1 (rd v14.2 3 v14.1) v14.2 r3 hC _) (cwV 2 hts gX1_thinOut_X5_slack rfl rfl rfl (by decide +kernel) ⟨Nat.le_of_ble_eq_true rfl, Nat.le_of_ble_eq_true rfl⟩) (preV hK hP hD hS hA hX (va_recv hK hP (ci := 5) (q0 := 20) rfl rfl)) rfl rfl hl.1 rfl (lv_room (Nat.le_of_ble_eq_true rfl)) dX1_thinOut_53 ⟨Nat.le_of_ble_eq_true rfl, Nat.le_of_ble_eq_true rfl⟩) hD hS hA (fun H locs hP hD hS => ?_)
        refine va_mmin hx hb (hml.trans hl.1.symm) hown (hts (.methodLink RX1 139 Lib.Math.min.name) (List.mem_of_getElem? (i := 5) rfl)) (hts (.static Lib.Math.min.name) (List.mem_of_getElem? (i := 6) rfl)) (hts (.initialized "java/lang/Math") (List.mem_of_getElem? (i := 7) rfl)) (hts (.code Lib.Math.min.name Lib.Math.min.code 2 (some .int)) (List.mem_of_getElem? (i := 8) rfl)) (Nat.le_of_ble_eq_true rfl) (Nat.le_of_ble_eq_true rfl) (Nat.le_of_ble_eq_true rfl) (Nat.le_of_ble_eq_true rfl) dX1_thinOut_56 ?_
        refine lv_istore_n (lv' := [(3, .int (jmin (rd v14.2 4 v14.1) r3)), (0, .ref (aD G 22)), (1, .int x1), (2, .int v14.1)]) hx hb dX1_thinOut_59 rfl hl (by decide) rfl (fun ls hl => ?_)
        refine lv_iload_n hx hb dX1_thinOut_60 rfl (lv_at hl 0 rfl) ?_
        refine lv_if_le (tgt := 71) hx hb dX1_thinOut_61 (by decide) (fun c_ => ?_) (fun c_ => ?_)
        · have hE := ip c_ hE
          refine lv_iinc (v := (v14.1 + (-1 : Int32))) (lv' := [(2, .int (v14.1 + (-1 : Int32))), (3, .int (jmin (rd v14.2 4 v14.1) r3)), (0, .ref (aD G 22)), (1, .int x1)]) hx hb dX1_thinOut_71 hl (k := 3) rfl rfl (by decide) rfl (fun ls hl => ?_)
          refine lv_goto (tgt := 14) hx hb dX1_thinOut_74 (by decide) ?_
          exact hN14 _ (Option.some.inj hE).symm _ _ _ hP hD hS (lv_sub hl [2, 3, 0] rfl)
        · have hE := im c_ hE
          refine lv_aload_n hx hb dX1_thinOut_64 rfl (lv_at hl 1 rfl) ?_
          refine lv_iload_n hx hb dX1_thinOut_65 rfl (lv_at hl 3 rfl) ?_
          refine lv_iload_n hx hb dX1_thinOut_66 rfl (lv_at hl 0 rfl) ?_
          refine lv_ineg hx hb dX1_thinOut_67 ?_
          obtain ⟨r4, hC, hE⟩ := bnd_some hE
          refine cv (va_runV (As := [.int v14.1, .int (-(jmin (rd v14.2 4 v14.1) r3))]) (rest := []) ⟨hx, hb, hml, hown, hts⟩ (c_X1_change l G v14.1 (-(jmin (rd v14.2 4 v14.1) r3)) v14.2 r4 hC _) (cwV 2 hts gX1_thinOut_X1_change rfl rfl rfl (by decide +kernel) ⟨Nat.le_of_ble_eq_true rfl, Nat.le_of_ble_eq_true rfl⟩) (preV hK hP hD hS hA hX (va_recv hK hP (ci := 1) (q0 := 22) rfl rfl)) rfl rfl hl.1 rfl (lv_room (Nat.le_of_ble_eq_true rfl)) dX1_thinOut_68 ⟨Nat.le_of_ble_eq_true rfl, Nat.le_of_ble_eq_true rfl⟩) hD hS hA (fun H locs hP hD hS => ?_)
          refine lv_iinc (v := (v14.1 + (-1 : Int32))) (lv' := [(2, .int (v14.1 + (-1 : Int32))), (3, .int (jmin (rd v14.2 4 v14.1) r3)), (0, .ref (aD G 22)), (1, .int x1)]) hx hb dX1_thinOut_71 hl (k := 3) rfl rfl (by decide) rfl (fun ls hl => ?_)
          refine lv_goto (tgt := 14) hx hb dX1_thinOut_74 (by decide) ?_
          exact hN14 _ (Option.some.inj hE).symm _ _ _ hP hD hS (lv_sub hl [2, 3, 0] rfl)
  refine lv_aload_n hx hb dX1_thinOut_0 rfl (lv_at hl 0 rfl) ?_
  refine va_get (ci := 1) (v := .ref (aD G 19)) (C := RX1) (T := TX1) (N := 9) hx hb hts (fun _ h => List.mem_cons_of_mem _ (List.mem_append_left _ (List.mem_append_left _ (List.mem_append_left _ (List.mem_append_right _ h))))) hown hK hP 22 rfl rfl 0 (by decide) (hts (.fieldLink RX1 12 "FillCells$Filling" "field" "LFillCells$Field;") (List.mem_of_getElem? (i := 1) rfl)) (fun _ h9 => h9) rfl dX1_thinOut_1 ?_
  refine va_get (ci := 0) (v := .ref (aD G 4)) (C := RX0) (T := TX0) (N := 5) hx hb hts (fun _ h => List.mem_cons_of_mem _ (List.mem_append_left _ (List.mem_append_left _ (List.mem_append_right _ h)))) hown hK hP 19 rfl rfl 4 (by decide) (hts (.fieldLink RX1 69 "FillCells$Field" "fill" "[I") (List.mem_of_getElem? (i := 2) rfl)) (fun _ h9 => h9) rfl dX1_thinOut_4 ?_
  obtain ⟨r1, hC, hE⟩ := bnd_some hE
  refine ci (va_runSN (As := [.ref (aD G 4)]) (rest := []) ⟨hx, hb, hml, hown, hts⟩ (c_X6_total l G 4 (by decide) σ r1 hC _) ⟨va_cnB 1 hts gX1_thinOut_X6_total_n132 rfl rfl rfl (hX.1 (RX1, 132, yX6_total, RX6) (by decide)) (hts (.initialized RX6) (List.mem_of_getElem? (i := 10) rfl)) (by decide +kernel) ⟨Nat.le_of_ble_eq_true rfl, Nat.le_of_ble_eq_true rfl⟩, (hts (.static yX6_total) (List.mem_of_getElem? (i := 9) rfl)), trivial⟩ (preS hK hP hD hS hA hX) rfl rfl hl.1 rfl (lv_room (Nat.le_of_ble_eq_true rfl)) dX1_thinOut_7 ⟨Nat.le_of_ble_eq_true rfl, Nat.le_of_ble_eq_true rfl⟩) hD hS hA (fun H locs hP hD hS => ?_)
  refine lv_istore_n (lv' := [(1, .int r1), (0, .ref (aD G 22))]) hx hb dX1_thinOut_10 rfl hl (by decide) rfl (fun ls hl => ?_)
  refine lv_bipush (v := (79 : Int32)) hx hb dX1_thinOut_11 (by decide) ?_
  refine lv_istore_n (lv' := [(2, .int (79 : Int32)), (1, .int r1), (0, .ref (aD G 22))]) hx hb dX1_thinOut_13 rfl hl (by decide) rfl (fun ls hl => ?_)
  exact J_14 r1 (79 : Int32) σ _ _ _ hP hD hS (lv_sub hl [2, 1, 0] rfl) hE
abbrev rmX1_markFill : Room := { frames := 1, cells := 0, slots := 0, locals := 40 }

def f_X1_markFill (σ : St) : Option St := gq (¬ (0 : Int32) < 0 ∧ ¬ (0 : Int32) < 0 ∧ ¬ (80 : Int32) < 0 ∧ (0 : Int32).toNatClampNeg + (80 : Int32).toNatClampNeg ≤ 80 ∧ (0 : Int32).toNatClampNeg + (80 : Int32).toNatClampNeg ≤ 80) (some (sAA σ 13 (va_cpy (σ.1 4) (σ.1 13) (0 : Int32).toNatClampNeg (0 : Int32).toNatClampNeg (80 : Int32).toNatClampNeg)))
set_option maxHeartbeats 4000000 in
set_option maxRecDepth 100000 in
theorem c_X1_markFill (l : Launch) (G : EV)   (σ : St) (r : St) (hE : f_X1_markFill σ = some r) : MetV l G yX1_markFill wsX1_markFill rmX1_markFill [.ref (aD G 22)] (wC G σ) (wC G r) := by
  refine Met.of0 (Qf := PV G (wC G r)) (cc := cX1_markFill) (maxL := 1) (ret := none) (by decide) rfl (Nat.le_of_ble_eq_true rfl) ?_
  intro p e s m below meth c args A hx hb hr hts hown hlocks hml hin0 hA hS hP hK hD hX ls hl
  have hl : lv_has ls 1 [(0, .ref (aD G 22))] := hl
  generalize hQ : MQ below (PV G (wC G r) A) args s 0 0 A = Q
  unfold f_X1_markFill at hE
  refine lv_aload_n hx hb dX1_markFill_0 rfl (lv_at hl 0 rfl) ?_
  refine va_get (ci := 1) (v := .ref (aD G 19)) (C := RX1) (T := TX1) (N := 9) hx hb hts (fun _ h => List.mem_cons_of_mem _ (List.mem_append_left _ (List.mem_append_right _ h))) hown hK hP 22 rfl rfl 0 (by decide) (hts (.fieldLink RX1 12 "FillCells$Filling" "field" "LFillCells$Field;") (List.mem_of_getElem? (i := 1) rfl)) (fun _ h9 => h9) rfl dX1_markFill_1 ?_
  refine va_get (ci := 0) (v := .ref (aD G 4)) (C := RX0) (T := TX0) (N := 5) hx hb hts (fun _ h => List.mem_cons_of_mem _ (List.mem_append_right _ h)) hown hK hP 19 rfl rfl 4 (by decide) (hts (.fieldLink RX1 69 "FillCells$Field" "fill" "[I") (List.mem_of_getElem? (i := 2) rfl)) (fun _ h9 => h9) rfl dX1_markFill_4 ?_
  refine lv_iconst (v := (0 : Int32)) hx hb dX1_markFill_7 (by decide) ?_
  refine lv_aload_n hx hb dX1_markFill_8 rfl (lv_at hl 0 rfl) ?_
  refine va_get (ci := 1) (v := .ref (aD G 13)) (C := RX1) (T := TX1) (N := 9) hx hb hts (fun _ h => List.mem_cons_of_mem _ (List.mem_append_left _ (List.mem_append_right _ h))) hown hK hP 22 rfl rfl 7 (by decide) (hts (.fieldLink RX1 46 "FillCells$Filling" "fillAhead" "[I") (List.mem_of_getElem? (i := 3) rfl)) (fun _ h9 => h9) rfl dX1_markFill_9 ?_
  refine lv_iconst (v := (0 : Int32)) hx hb dX1_markFill_12 (by decide) ?_
  refine lv_bipush (v := (80 : Int32)) hx hb dX1_markFill_13 (by decide) ?_
  obtain ⟨⟨h_1, h_2, h_3, h_4, h_5⟩, hE⟩ := gq_some hE
  refine va_copyi hx hb (hml.trans hl.1.symm) hown (hts (.methodLink RX1 144 arraycopyName) (List.mem_of_getElem? (i := 4) rfl)) (hts (.native arraycopyName) (List.mem_of_getElem? (i := 5) rfl)) (hts (.static arraycopyName) (List.mem_of_getElem? (i := 6) rfl)) (hts (.initialized "java/lang/System") (List.mem_of_getElem? (i := 7) rfl)) hK hP hD hS 4 13 0 0 rfl rfl rfl rfl rfl h_1 h_2 h_3 h_4 h_5 (fun _ _ => rfl) (Nat.le_of_ble_eq_true rfl) (Nat.le_of_ble_eq_true rfl) dX1_markFill_15 (fun H locs hP hD hS => ?_)
  have hP : va_P G.1 vwCl (wC G (sAA σ 13 (va_cpy (σ.1 4) (σ.1 13) (0 : Int32).toNatClampNeg (0 : Int32).toNatClampNeg (80 : Int32).toNatClampNeg))) H := hP
  have hD : va_D A (wC G (sAA σ 13 (va_cpy (σ.1 4) (σ.1 13) (0 : Int32).toNatClampNeg (0 : Int32).toNatClampNeg (80 : Int32).toNatClampNeg))) := hD
  rw [← hQ, ← Option.some.inj hE]
  exact rv hx hb hr hlocks hK hP hD hS dX1_markFill_18
abbrev rmX1_layBack : Room := { frames := 4, cells := 0, slots := 0, locals := 89 }

def f_X1_layBack (σ : St) : Option St := gq (¬ (0 : Int32) < 0 ∧ ¬ (0 : Int32) < 0 ∧ ¬ (80 : Int32) < 0 ∧ (0 : Int32).toNatClampNeg + (80 : Int32).toNatClampNeg ≤ 80 ∧ (0 : Int32).toNatClampNeg + (80 : Int32).toNatClampNeg ≤ 80) (bnd (f_X1_measure (sAA σ 4 (va_cpy (σ.1 13) (σ.1 4) (0 : Int32).toNatClampNeg (0 : Int32).toNatClampNeg (80 : Int32).toNatClampNeg))) (fun r1 => some r1))
set_option maxHeartbeats 4000000 in
set_option maxRecDepth 100000 in
theorem c_X1_layBack (l : Launch) (G : EV)   (σ : St) (r : St) (hE : f_X1_layBack σ = some r) : MetV l G yX1_layBack wsX1_layBack rmX1_layBack [.ref (aD G 22)] (wC G σ) (wC G r) := by
  refine Met.of0 (Qf := PV G (wC G r)) (cc := cX1_layBack) (maxL := 1) (ret := none) (by decide) rfl (Nat.le_of_ble_eq_true rfl) ?_
  intro p e s m below meth c args A hx hb hr hts hown hlocks hml hin0 hA hS hP hK hD hX ls hl
  have hl : lv_has ls 1 [(0, .ref (aD G 22))] := hl
  generalize hQ : MQ below (PV G (wC G r) A) args s 0 0 A = Q
  unfold f_X1_layBack at hE
  refine lv_aload_n hx hb dX1_layBack_0 rfl (lv_at hl 0 rfl) ?_
  refine va_get (ci := 1) (v := .ref (aD G 13)) (C := RX1) (T := TX1) (N := 9) hx hb hts (fun _ h => List.mem_cons_of_mem _ (List.mem_append_left _ (List.mem_append_left _ (List.mem_append_left _ (List.mem_append_right _ h))))) hown hK hP 22 rfl rfl 7 (by decide) (hts (.fieldLink RX1 46 "FillCells$Filling" "fillAhead" "[I") (List.mem_of_getElem? (i := 1) rfl)) (fun _ h9 => h9) rfl dX1_layBack_1 ?_
  refine lv_iconst (v := (0 : Int32)) hx hb dX1_layBack_4 (by decide) ?_
  refine lv_aload_n hx hb dX1_layBack_5 rfl (lv_at hl 0 rfl) ?_
  refine va_get (ci := 1) (v := .ref (aD G 19)) (C := RX1) (T := TX1) (N := 9) hx hb hts (fun _ h => List.mem_cons_of_mem _ (List.mem_append_left _ (List.mem_append_left _ (List.mem_append_left _ (List.mem_append_right _ h))))) hown hK hP 22 rfl rfl 0 (by decide) (hts (.fieldLink RX1 12 "FillCells$Filling" "field" "LFillCells$Field;") (List.mem_of_getElem? (i := 2) rfl)) (fun _ h9 => h9) rfl dX1_layBack_6 ?_
  refine va_get (ci := 0) (v := .ref (aD G 4)) (C := RX0) (T := TX0) (N := 5) hx hb hts (fun _ h => List.mem_cons_of_mem _ (List.mem_append_left _ (List.mem_append_left _ (List.mem_append_right _ h)))) hown hK hP 19 rfl rfl 4 (by decide) (hts (.fieldLink RX1 69 "FillCells$Field" "fill" "[I") (List.mem_of_getElem? (i := 3) rfl)) (fun _ h9 => h9) rfl dX1_layBack_9 ?_
  refine lv_iconst (v := (0 : Int32)) hx hb dX1_layBack_12 (by decide) ?_
  refine lv_bipush (v := (80 : Int32)) hx hb dX1_layBack_13 (by decide) ?_
  obtain ⟨⟨h_1, h_2, h_3, h_4, h_5⟩, hE⟩ := gq_some hE
  refine va_copyi hx hb (hml.trans hl.1.symm) hown (hts (.methodLink RX1 144 arraycopyName) (List.mem_of_getElem? (i := 4) rfl)) (hts (.native arraycopyName) (List.mem_of_getElem? (i := 5) rfl)) (hts (.static arraycopyName) (List.mem_of_getElem? (i := 6) rfl)) (hts (.initialized "java/lang/System") (List.mem_of_getElem? (i := 7) rfl)) hK hP hD hS 13 4 0 0 rfl rfl rfl rfl rfl h_1 h_2 h_3 h_4 h_5 (fun _ _ => rfl) (Nat.le_of_ble_eq_true rfl) (Nat.le_of_ble_eq_true rfl) dX1_layBack_15 (fun H locs hP hD hS => ?_)
  have hP : va_P G.1 vwCl (wC G (sAA σ 4 (va_cpy (σ.1 13) (σ.1 4) (0 : Int32).toNatClampNeg (0 : Int32).toNatClampNeg (80 : Int32).toNatClampNeg))) H := hP
  have hD : va_D A (wC G (sAA σ 4 (va_cpy (σ.1 13) (σ.1 4) (0 : Int32).toNatClampNeg (0 : Int32).toNatClampNeg (80 : Int32).toNatClampNeg))) := hD
  refine lv_aload_n hx hb dX1_layBack_18 rfl (lv_at hl 0 rfl) ?_
  obtain ⟨r1, hC, hE⟩ := bnd_some hE
  refine cv (va_runV (As := []) (rest := []) ⟨hx, hb, hml, hown, hts⟩ (c_X1_measure l G (sAA σ 4 (va_cpy (σ.1 13) (σ.1 4) (0 : Int32).toNatClampNeg (0 : Int32).toNatClampNeg (80 : Int32).toNatClampNeg)) r1 hC _) (cwV 0 hts gX1_layBack_X1_measure rfl rfl rfl (by decide +kernel) ⟨Nat.le_of_ble_eq_true rfl, Nat.le_of_ble_eq_true rfl⟩) (preV hK hP hD hS hA hX (va_recv hK hP (ci := 1) (q0 := 22) rfl rfl)) rfl rfl hl.1 rfl (lv_room (Nat.le_of_ble_eq_true rfl)) dX1_layBack_19 ⟨Nat.le_of_ble_eq_true rfl, Nat.le_of_ble_eq_true rfl⟩) hD hS hA (fun H locs hP hD hS => ?_)
  rw [← hQ, ← Option.some.inj hE]
  exact rv hx hb hr hlocks hK hP hD hS dX1_layBack_22
abbrev rmX1_rate : Room := { frames := 2, cells := 0, slots := 0, locals := 43 }
def f_X1_rate_J47 (x1 : Int32) (x2 : Int32) (x3 : Int32) (σ : St) : Option St := some (sI (sI (sI σ 0 x1) 1 x2) 2 x3)
def f_X1_rate (x1 : Int32) (σ : St) : Option St := bnd (f_X5_countThin σ) (fun r1 => bnd (f_X6_total 4 σ) (fun r2 => if x1 = 0 then (f_X1_rate_J47 x1 r1 r2 σ) else (if r1 < (gI σ 1) then (f_X1_rate_J47 x1 r1 r2 σ) else (if r1 = (gI σ 1) then (if (gI σ 2) ≤ r2 then (some σ) else (f_X1_rate_J47 x1 r1 r2 σ)) else (some σ)))))
set_option maxHeartbeats 4000000 in
set_option maxRecDepth 100000 in
theorem c_X1_rate (l : Launch) (G : EV)  (x1 : Int32) (σ : St) (r : St) (hE : f_X1_rate x1 σ = some r) : MetV l G yX1_rate wsX1_rate rmX1_rate [.ref (aD G 22), .int x1] (wC G σ) (wC G r) := by
  refine Met.of0 (Qf := PV G (wC G r)) (cc := cX1_rate) (maxL := 4) (ret := none) (by decide) rfl (Nat.le_of_ble_eq_true rfl) ?_
  intro p e s m below meth c args A hx hb hr hts hown hlocks hml hin0 hA hS hP hK hD hX ls hl
  have hl : lv_has ls 4 [(0, .ref (aD G 22)), (1, .int x1)] := hl
  generalize hQ : MQ below (PV G (wC G r) A) args s 0 0 A = Q
  unfold f_X1_rate at hE
  have J_47 : ∀ (x2 : Int32) (x3 : Int32) (σ : St) (H : Heap) (locs : List Loc) (ls : Array Slot), va_P G.1 vwCl (wC G σ) H → va_D A (wC G σ) → va_S A s.heap H locs → lv_has ls 4 [(0, .ref (aD G 22)), (1, .int x1), (2, .int x2), (3, .int x3)] → f_X1_rate_J47 x1 x2 x3 σ = some r → W p l e rmX1_rate s m args below meth c H locs 0 0 Q (F0 m 47 ls []) := by
    intro x2 x3 σ H locs ls hP hD hS hl hE
    unfold f_X1_rate_J47 at hE
    refine lv_aload_n hx hb dX1_rate_47 rfl (lv_at hl 0 rfl) ?_
    refine lv_iload_n hx hb dX1_rate_48 rfl (lv_at hl 1 rfl) ?_
    refine va_put (ci := 1) (v := .int x1) (ty := .int) (C := RX1) (T := TX1) (N := 9) hx hb hts (fun _ h => List.mem_cons_of_mem _ (List.mem_append_left _ (List.mem_append_left _ (List.mem_append_right _ h)))) tyX1 tyX1_ok nmX1 hown hK hP hD hS 22 rfl rfl 3 (by decide) (hts (.fieldLink RX1 32 "FillCells$Filling" "bestRule" "I") (List.mem_of_getElem? (i := 6) rfl)) (fun _ h9 => h9) rfl (by decide +kernel) rfl rfl (Nat.le_of_ble_eq_true rfl) dX1_rate_49 (fun H locs hP hD hS => ?_)
    have hP : va_P G.1 vwCl (wC G (sI σ 0 x1)) H := hP
    have hD : va_D A (wC G (sI σ 0 x1)) := hD
    refine lv_aload_n hx hb dX1_rate_52 rfl (lv_at hl 0 rfl) ?_
    refine lv_iload_n hx hb dX1_rate_53 rfl (lv_at hl 2 rfl) ?_
    refine va_put (ci := 1) (v := .int x2) (ty := .int) (C := RX1) (T := TX1) (N := 9) hx hb hts (fun _ h => List.mem_cons_of_mem _ (List.mem_append_left _ (List.mem_append_left _ (List.mem_append_right _ h)))) tyX1 tyX1_ok nmX1 hown hK hP hD hS 22 rfl rfl 4 (by decide) (hts (.fieldLink RX1 36 "FillCells$Filling" "bestThin" "I") (List.mem_of_getElem? (i := 4) rfl)) (fun _ h9 => h9) rfl (by decide +kernel) rfl rfl (Nat.le_of_ble_eq_true rfl) dX1_rate_54 (fun H locs hP hD hS => ?_)
    have hP : va_P G.1 vwCl (wC G (sI (sI σ 0 x1) 1 x2)) H := hP
    have hD : va_D A (wC G (sI (sI σ 0 x1) 1 x2)) := hD
    refine lv_aload_n hx hb dX1_rate_57 rfl (lv_at hl 0 rfl) ?_
    refine lv_iload_n hx hb dX1_rate_58 rfl (lv_at hl 3 rfl) ?_
    refine va_put (ci := 1) (v := .int x3) (ty := .int) (C := RX1) (T := TX1) (N := 9) hx hb hts (fun _ h => List.mem_cons_of_mem _ (List.mem_append_left _ (List.mem_append_left _ (List.mem_append_right _ h)))) tyX1 tyX1_ok nmX1 hown hK hP hD hS 22 rfl rfl 5 (by decide) (hts (.fieldLink RX1 39 "FillCells$Filling" "bestFill" "I") (List.mem_of_getElem? (i := 5) rfl)) (fun _ h9 => h9) rfl (by decide +kernel) rfl rfl (Nat.le_of_ble_eq_true rfl) dX1_rate_59 (fun H locs hP hD hS => ?_)
    have hP : va_P G.1 vwCl (wC G (sI (sI (sI σ 0 x1) 1 x2) 2 x3)) H := hP
    have hD : va_D A (wC G (sI (sI (sI σ 0 x1) 1 x2) 2 x3)) := hD
    rw [← hQ, ← Option.some.inj hE]
    exact rv hx hb hr hlocks hK hP hD hS dX1_rate_62
  refine lv_aload_n hx hb dX1_rate_0 rfl (lv_at hl 0 rfl) ?_
  refine va_get (ci := 1) (v := .ref (aD G 20)) (C := RX1) (T := TX1) (N := 9) hx hb hts (fun _ h => List.mem_cons_of_mem _ (List.mem_append_left _ (List.mem_append_left _ (List.mem_append_right _ h)))) hown hK hP 22 rfl rfl 1 (by decide) (hts (.fieldLink RX1 21 "FillCells$Filling" "windows" "LFillCells$Windows;") (List.mem_of_getElem? (i := 1) rfl)) (fun _ h9 => h9) rfl dX1_rate_1 ?_
  obtain ⟨r1, hC, hE⟩ := bnd_some hE
  refine ci (va_runV (As := []) (rest := []) ⟨hx, hb, hml, hown, hts⟩ (c_X5_countThin l G σ r1 hC _) (cwV 0 hts gX1_rate_X5_countThin rfl rfl rfl (by decide +kernel) ⟨Nat.le_of_ble_eq_true rfl, Nat.le_of_ble_eq_true rfl⟩) (preV hK hP hD hS hA hX (va_recv hK hP (ci := 5) (q0 := 20) rfl rfl)) rfl rfl hl.1 rfl (lv_room (Nat.le_of_ble_eq_true rfl)) dX1_rate_4 ⟨Nat.le_of_ble_eq_true rfl, Nat.le_of_ble_eq_true rfl⟩) hD hS hA (fun H locs hP hD hS => ?_)
  refine lv_istore_n (lv' := [(2, .int r1), (0, .ref (aD G 22)), (1, .int x1)]) hx hb dX1_rate_7 rfl hl (by decide) rfl (fun ls hl => ?_)
  refine lv_aload_n hx hb dX1_rate_8 rfl (lv_at hl 1 rfl) ?_
  refine va_get (ci := 1) (v := .ref (aD G 19)) (C := RX1) (T := TX1) (N := 9) hx hb hts (fun _ h => List.mem_cons_of_mem _ (List.mem_append_left _ (List.mem_append_left _ (List.mem_append_right _ h)))) hown hK hP 22 rfl rfl 0 (by decide) (hts (.fieldLink RX1 12 "FillCells$Filling" "field" "LFillCells$Field;") (List.mem_of_getElem? (i := 2) rfl)) (fun _ h9 => h9) rfl dX1_rate_9 ?_
  refine va_get (ci := 0) (v := .ref (aD G 4)) (C := RX0) (T := TX0) (N := 5) hx hb hts (fun _ h => List.mem_cons_of_mem _ (List.mem_append_left _ (List.mem_append_right _ h))) hown hK hP 19 rfl rfl 4 (by decide) (hts (.fieldLink RX1 69 "FillCells$Field" "fill" "[I") (List.mem_of_getElem? (i := 3) rfl)) (fun _ h9 => h9) rfl dX1_rate_12 ?_
  obtain ⟨r2, hC, hE⟩ := bnd_some hE
  refine ci (va_runSN (As := [.ref (aD G 4)]) (rest := []) ⟨hx, hb, hml, hown, hts⟩ (c_X6_total l G 4 (by decide) σ r2 hC _) ⟨va_cnB 1 hts gX1_rate_X6_total_n132 rfl rfl rfl (hX.1 (RX1, 132, yX6_total, RX6) (by decide)) (hts (.initialized RX6) (List.mem_of_getElem? (i := 19) rfl)) (by decide +kernel) ⟨Nat.le_of_ble_eq_true rfl, Nat.le_of_ble_eq_true rfl⟩, (hts (.static yX6_total) (List.mem_of_getElem? (i := 18) rfl)), trivial⟩ (preS hK hP hD hS hA hX) rfl rfl hl.1 rfl (lv_room (Nat.le_of_ble_eq_true rfl)) dX1_rate_15 ⟨Nat.le_of_ble_eq_true rfl, Nat.le_of_ble_eq_true rfl⟩) hD hS hA (fun H locs hP hD hS => ?_)
  refine lv_istore_n (lv' := [(3, .int r2), (2, .int r1), (0, .ref (aD G 22)), (1, .int x1)]) hx hb dX1_rate_18 rfl hl (by decide) rfl (fun ls hl => ?_)
  refine lv_iload_n hx hb dX1_rate_19 rfl (lv_at hl 3 rfl) ?_
  refine lv_if_eq (tgt := 47) hx hb dX1_rate_20 (by decide) (fun c_ => ?_) (fun c_ => ?_)
  · have hE := ip c_ hE
    exact J_47 r1 r2 σ _ _ _ hP hD hS (lv_sub hl [2, 3, 1, 0] rfl) hE
  · have hE := im c_ hE
    refine lv_iload_n hx hb dX1_rate_23 rfl (lv_at hl 1 rfl) ?_
    refine lv_aload_n hx hb dX1_rate_24 rfl (lv_at hl 2 rfl) ?_
    refine va_get (ci := 1) (v := .int (gI σ 1)) (C := RX1) (T := TX1) (N := 9) hx hb hts (fun _ h => List.mem_cons_of_mem _ (List.mem_append_left _ (List.mem_append_left _ (List.mem_append_right _ h)))) hown hK hP 22 rfl rfl 4 (by decide) (hts (.fieldLink RX1 36 "FillCells$Filling" "bestThin" "I") (List.mem_of_getElem? (i := 4) rfl)) (fun _ h9 => h9) rfl dX1_rate_25 ?_
    refine lv_icmp_lt (tgt := 47) hx hb dX1_rate_28 (by decide) (fun c_ => ?_) (fun c_ => ?_)
    · have hE := ip c_ hE
      exact J_47 r1 r2 σ _ _ _ hP hD hS (lv_sub hl [2, 3, 1, 0] rfl) hE
    · have hE := im c_ hE
      refine lv_iload_n hx hb dX1_rate_31 rfl (lv_at hl 1 rfl) ?_
      refine lv_aload_n hx hb dX1_rate_32 rfl (lv_at hl 2 rfl) ?_
      refine va_get (ci := 1) (v := .int (gI σ 1)) (C := RX1) (T := TX1) (N := 9) hx hb hts (fun _ h => List.mem_cons_of_mem _ (List.mem_append_left _ (List.mem_append_left _ (List.mem_append_right _ h)))) hown hK hP 22 rfl rfl 4 (by decide) (hts (.fieldLink RX1 36 "FillCells$Filling" "bestThin" "I") (List.mem_of_getElem? (i := 4) rfl)) (fun _ h9 => h9) rfl dX1_rate_33 ?_
      refine lv_icmp_ne (tgt := 62) hx hb dX1_rate_36 (by decide) (fun c_ => ?_) (fun c_ => ?_)
      · have hE := im c_ hE
        rw [← hQ, ← Option.some.inj hE]
        exact rv hx hb hr hlocks hK hP hD hS dX1_rate_62
      · have hE := ip c_ hE
        refine lv_iload_n hx hb dX1_rate_39 rfl (lv_at hl 0 rfl) ?_
        refine lv_aload_n hx hb dX1_rate_40 rfl (lv_at hl 2 rfl) ?_
        refine va_get (ci := 1) (v := .int (gI σ 2)) (C := RX1) (T := TX1) (N := 9) hx hb hts (fun _ h => List.mem_cons_of_mem _ (List.mem_append_left _ (List.mem_append_left _ (List.mem_append_right _ h)))) hown hK hP 22 rfl rfl 5 (by decide) (hts (.fieldLink RX1 39 "FillCells$Filling" "bestFill" "I") (List.mem_of_getElem? (i := 5) rfl)) (fun _ h9 => h9) rfl dX1_rate_41 ?_
        refine lv_icmp_ge (tgt := 62) hx hb dX1_rate_44 (by decide) (fun c_ => ?_) (fun c_ => ?_)
        · have hE := ip c_ hE
          rw [← hQ, ← Option.some.inj hE]
          exact rv hx hb hr hlocks hK hP hD hS dX1_rate_62
        · have hE := im c_ hE
          exact J_47 r1 r2 σ _ _ _ hP hD hS (lv_sub hl [2, 3, 1, 0] rfl) hE
abbrev rmX1_stretch : Room := { frames := 0, cells := 0, slots := 0, locals := 0 }
def f_X1_stretch_L4 (x1 : Int32) (σ : St) (v4 : Int32 × Int32) : Option (((Int32)) ⊕ (Int32 × Int32)) := if v4.2 ≤ (x1 - (gI σ 7)) then (some (.inl (v4.1))) else (gd v4.2 10 (some (.inr ((v4.1 + (rd σ 14 v4.2)), (v4.2 + (-1 : Int32))))))
def f_X1_stretch_J4 (x1 : Int32) (x2 : Int32) (x3 : Int32) (σ : St) : Option Int32 := bnd (loopN (f_X1_stretch_L4 x1 σ) 4096 (x2, x3)) (fun y4 => some y4)
def f_X1_stretch (x1 : Int32) (σ : St) : Option Int32 := f_X1_stretch_J4 x1 (0 : Int32) x1 σ
set_option maxHeartbeats 4000000 in
set_option maxRecDepth 100000 in
theorem c_X1_stretch (l : Launch) (G : EV)  (x1 : Int32) (σ : St) (r : Int32) (hE : f_X1_stretch x1 σ = some r) : MetI l G yX1_stretch wsX1_stretch rmX1_stretch [.ref (aD G 22), .int x1] (wC G σ) r (wC G σ) := by
  refine Met.of0 (Qf := PI G r (wC G σ)) (cc := cX1_stretch) (maxL := 4) (ret := (some .int)) (by decide) rfl (Nat.le_of_ble_eq_true rfl) ?_
  intro p e s m below meth c args A hx hb hr hts hown hlocks hml hin0 hA hS hP hK hD hX ls hl
  have hl : lv_has ls 4 [(0, .ref (aD G 22)), (1, .int x1)] := hl
  generalize hQ : MQ below (PI G r (wC G σ) A) args s 0 0 A = Q
  unfold f_X1_stretch at hE
  have J_4 : ∀ (x2 : Int32) (x3 : Int32) (H : Heap) (locs : List Loc) (ls : Array Slot), va_P G.1 vwCl (wC G σ) H → va_D A (wC G σ) → va_S A s.heap H locs → lv_has ls 4 [(0, .ref (aD G 22)), (1, .int x1), (2, .int x2), (3, .int x3)] → f_X1_stretch_J4 x1 x2 x3 σ = some r → W p l e rmX1_stretch s m args below meth c H locs 0 0 Q (F0 m 4 ls []) := by
    intro x2 x3 H locs ls hP hD hS hl hE
    unfold f_X1_stretch_J4 at hE
    obtain ⟨y4, hL, hE4⟩ := bnd_some hE
    refine loop_W (body := f_X1_stretch_L4 x1 σ) (y := y4) (P := fun v4 => ∀ (H : Heap) (locs : List Loc) (ls : Array Slot), va_P G.1 vwCl (wC G σ) H → va_D A (wC G σ) → va_S A s.heap H locs → lv_has ls 4 [(0, .ref (aD G 22)), (1, .int x1), (2, .int v4.1), (3, .int v4.2)] → W p l e rmX1_stretch s m args below meth c H locs 0 0 Q (F0 m 4 ls [])) ?_ _ _ hL H locs ls hP hD hS hl
    clear hP hD hS hl hE hL
    intro v4 t4 hE hN4 hY4
    intro H locs ls hP hD hS hl
    unfold f_X1_stretch_L4 at hE
    refine lv_iload_n hx hb dX1_stretch_4 rfl (lv_at hl 3 rfl) ?_
    refine lv_iload_n hx hb dX1_stretch_5 rfl (lv_at hl 1 rfl) ?_
    refine lv_aload_n hx hb dX1_stretch_6 rfl (lv_at hl 0 rfl) ?_
    refine va_get (ci := 1) (v := .ref (aD G 20)) (C := RX1) (T := TX1) (N := 9) hx hb hts (fun _ h => List.mem_cons_of_mem _ (List.mem_append_left _ (List.mem_append_right _ h))) hown hK hP 22 rfl rfl 1 (by decide) (hts (.fieldLink RX1 21 "FillCells$Filling" "windows" "LFillCells$Windows;") (List.mem_of_getElem? (i := 1) rfl)) (fun _ h9 => h9) rfl dX1_stretch_7 ?_
    refine va_get (ci := 5) (v := .int (gI σ 7)) (C := RX5) (T := TX5) (N := 8) hx hb hts (fun _ h => List.mem_cons_of_mem _ (List.mem_append_right _ h)) hown hK hP 20 rfl rfl 1 (by decide) (hts (.fieldLink RX1 158 "FillCells$Windows" "width" "I") (List.mem_of_getElem? (i := 2) rfl)) (fun _ h9 => h9) rfl dX1_stretch_10 ?_
    refine lv_isub hx hb dX1_stretch_13 ?_
    refine lv_icmp_le (tgt := 32) hx hb dX1_stretch_14 (by decide) (fun c_ => ?_) (fun c_ => ?_)
    · have hE := ip c_ hE
      have e9 := hY4 _ (Option.some.inj hE).symm
      have hE := hE4
      rw [← e9] at hE
      refine lv_iload_n hx hb dX1_stretch_32 rfl (lv_at hl 2 rfl) ?_
      rw [← hQ, ← Option.some.inj hE]
      exact ri hx hb hr hlocks hK hP hD hS dX1_stretch_33
    · have hE := im c_ hE
      refine lv_iload_n hx hb dX1_stretch_17 rfl (lv_at hl 2 rfl) ?_
      refine lv_aload_n hx hb dX1_stretch_18 rfl (lv_at hl 0 rfl) ?_
      refine va_get (ci := 1) (v := .ref (aD G 14)) (C := RX1) (T := TX1) (N := 9) hx hb hts (fun _ h => List.mem_cons_of_mem _ (List.mem_append_left _ (List.mem_append_right _ h))) hown hK hP 22 rfl rfl 8 (by decide) (hts (.fieldLink RX1 50 "FillCells$Filling" "line" "[I") (List.mem_of_getElem? (i := 3) rfl)) (fun _ h9 => h9) rfl dX1_stretch_19 ?_
      refine lv_iload_n hx hb dX1_stretch_22 rfl (lv_at hl 3 rfl) ?_
      obtain ⟨h_i, hE⟩ := gd_some hE
      refine ldC hx hb hK hP 14 (by decide) h_i dX1_stretch_23 ?_
      refine lv_iadd hx hb dX1_stretch_24 ?_
      refine lv_istore_n (lv' := [(2, .int (v4.1 + (rd σ 14 v4.2))), (0, .ref (aD G 22)), (1, .int x1), (3, .int v4.2)]) hx hb dX1_stretch_25 rfl hl (by decide) rfl (fun ls hl => ?_)
      refine lv_iinc (v := (v4.2 + (-1 : Int32))) (lv' := [(3, .int (v4.2 + (-1 : Int32))), (2, .int (v4.1 + (rd σ 14 v4.2))), (0, .ref (aD G 22)), (1, .int x1)]) hx hb dX1_stretch_26 hl (k := 3) rfl rfl (by decide) rfl (fun ls hl => ?_)
      refine lv_goto (tgt := 4) hx hb dX1_stretch_29 (by decide) ?_
      exact hN4 _ (Option.some.inj hE).symm _ _ _ hP hD hS (lv_sub hl [2, 3, 1, 0] rfl)
  refine lv_iconst (v := (0 : Int32)) hx hb dX1_stretch_0 (by decide) ?_
  refine lv_istore_n (lv' := [(2, .int (0 : Int32)), (0, .ref (aD G 22)), (1, .int x1)]) hx hb dX1_stretch_1 rfl hl (by decide) rfl (fun ls hl => ?_)
  refine lv_iload_n hx hb dX1_stretch_2 rfl (lv_at hl 2 rfl) ?_
  refine lv_istore_n (lv' := [(3, .int x1), (2, .int (0 : Int32)), (0, .ref (aD G 22)), (1, .int x1)]) hx hb dX1_stretch_3 rfl hl (by decide) rfl (fun ls hl => ?_)
  exact J_4 (0 : Int32) x1 _ _ _ hP hD hS (lv_sub hl [2, 3, 1, 0] rfl) hE
abbrev rmX1_leastInRow : Room := { frames := 1, cells := 0, slots := 0, locals := 40 }
def f_X1_leastInRow_J148 (x1 : Int32) (x2 : Int32) (x3 : Int32) (x4 : Int32) (x5 : Int32) (σ : St) : Option ((((Int32 × St) ⊕ (Int32 × St))) ⊕ (Int32 × Int32 × St)) := if x5 ≤ 0 then (some (.inr (x3, (x4 + (1 : Int32)), σ))) else (some (.inl (.inl ((-1 : Int32), σ))))
def f_X1_leastInRow_J107 (x1 : Int32) (x2 : Int32) (x3 : Int32) (x4 : Int32) (x5 : Int32) (x6 : Int32) (t0 : Int32) (σ : St) : Option (((Int32 × Int32 × St)) ⊕ (Int32 × Int32 × Int32 × St)) := gd x6 10 (gd x6 10 (some (.inr ((x3 + (jmin t0 x5)), (x5 - (jmin t0 x5)), (x6 + (-1 : Int32)), (sA σ 14 x6 ((rd σ 14 x6) + (jmin t0 x5)))))))
def f_X1_leastInRow_L55 (x1 : Int32) (x2 : Int32) (x4 : Int32) (v55 : Int32 × Int32 × Int32 × St) : Option (((Int32 × Int32 × St)) ⊕ (Int32 × Int32 × Int32 × St)) := if v55.2.2.1 ≤ (x4 - (gI v55.2.2.2 7)) then (some (.inl (v55.1, v55.2.1, v55.2.2.2))) else (if v55.2.1 ≤ 0 then (some (.inl (v55.1, v55.2.1, v55.2.2.2))) else (gd (((10 : Int32) * x1) + v55.2.2.1) 80 (if (rd v55.2.2.2 1 (((10 : Int32) * x1) + v55.2.2.1)) = 0 then (gd v55.2.2.1 10 (f_X1_leastInRow_J107 x1 x2 v55.1 x4 v55.2.1 v55.2.2.1 ((9 : Int32) - (rd v55.2.2.2 14 v55.2.2.1)) v55.2.2.2)) else (f_X1_leastInRow_J107 x1 x2 v55.1 x4 v55.2.1 v55.2.2.1 (0 : Int32) v55.2.2.2))))
def f_X1_leastInRow_J55 (x1 : Int32) (x2 : Int32) (x3 : Int32) (x4 : Int32) (x5 : Int32) (x6 : Int32) (σ : St) : Option ((((Int32 × St) ⊕ (Int32 × St))) ⊕ (Int32 × Int32 × St)) := bnd (loopN (f_X1_leastInRow_L55 x1 x2 x4) 4096 (x3, x5, x6, σ)) (fun y55 => f_X1_leastInRow_J148 x1 x2 y55.1 x4 y55.2.1 y55.2.2)
def f_X1_leastInRow_L34 (x1 : Int32) (x2 : Int32) (v34 : Int32 × Int32 × St) : Option ((((Int32 × St) ⊕ (Int32 × St))) ⊕ (Int32 × Int32 × St)) := if (10 : Int32) ≤ v34.2.1 then (some (.inl (.inr (v34.1, v34.2.2)))) else (bnd (f_X1_stretch v34.2.1 v34.2.2) (fun r1 => f_X1_leastInRow_J55 x1 x2 v34.1 v34.2.1 (x2 - r1) v34.2.1 v34.2.2))
def f_X1_leastInRow_J34 (x1 : Int32) (x2 : Int32) (x3 : Int32) (x4 : Int32) (σ : St) : Option (Int32 × St) := bnd (loopN (f_X1_leastInRow_L34 x1 x2) 4096 (x3, x4, σ)) (fun y34 => ear (fun q => q) y34 (fun y34 => some (y34.1, y34.2)))
def f_X1_leastInRow (x1 x2 : Int32) (σ : St) : Option (Int32 × St) := gq (¬ ((10 : Int32) * x1) < 0 ∧ ¬ (0 : Int32) < 0 ∧ ¬ (10 : Int32) < 0 ∧ ((10 : Int32) * x1).toNatClampNeg + (10 : Int32).toNatClampNeg ≤ 80 ∧ (0 : Int32).toNatClampNeg + (10 : Int32).toNatClampNeg ≤ 10) (f_X1_leastInRow_J34 x1 x2 (0 : Int32) ((gI (sAA σ 14 (va_cpy (σ.1 0) (σ.1 14) ((10 : Int32) * x1).toNatClampNeg (0 : Int32).toNatClampNeg (10 : Int32).toNatClampNeg)) 7) - (1 : Int32)) (sAA σ 14 (va_cpy (σ.1 0) (σ.1 14) ((10 : Int32) * x1).toNatClampNeg (0 : Int32).toNatClampNeg (10 : Int32).toNatClampNeg)))
set_option maxHeartbeats 4000000 in
set_option maxRecDepth 100000 in
theorem c_X1_leastInRow (l : Launch) (G : EV)  (x1 x2 : Int32) (σ : St) (r : (Int32 × St)) (hE : f_X1_leastInRow x1 x2 σ = some r) : MetI l G yX1_leastInRow wsX1_leastInRow rmX1_leastInRow [.ref (aD G 22), .int x1, .int x2] (wC G σ) r.1 (wC G r.2) := by
  refine Met.of0 (Qf := PI G r.1 (wC G r.2)) (cc := cX1_leastInRow) (maxL := 9) (ret := (some .int)) (by decide) rfl (Nat.le_of_ble_eq_true rfl) ?_
  intro p e s m below meth c args A hx hb hr hts hown hlocks hml hin0 hA hS hP hK hD hX ls hl
  have hl : lv_has ls 9 [(0, .ref (aD G 22)), (1, .int x1), (2, .int x2)] := hl
  generalize hQ : MQ below (PI G r.1 (wC G r.2) A) args s 0 0 A = Q
  unfold f_X1_leastInRow at hE
  have J_34 : ∀ (x3 : Int32) (x4 : Int32) (σ : St) (H : Heap) (locs : List Loc) (ls : Array Slot), va_P G.1 vwCl (wC G σ) H → va_D A (wC G σ) → va_S A s.heap H locs → lv_has ls 9 [(0, .ref (aD G 22)), (1, .int x1), (2, .int x2), (3, .int x3), (4, .int x4)] → f_X1_leastInRow_J34 x1 x2 x3 x4 σ = some r → W p l e rmX1_leastInRow s m args below meth c H locs 0 0 Q (F0 m 34 ls []) := by
    intro x3 x4 σ H locs ls hP hD hS hl hE
    unfold f_X1_leastInRow_J34 at hE
    obtain ⟨y34, hL, hE34⟩ := bnd_some hE
    refine loop_W (body := f_X1_leastInRow_L34 x1 x2) (y := y34) (P := fun v34 => ∀ (H : Heap) (locs : List Loc) (ls : Array Slot), va_P G.1 vwCl (wC G v34.2.2) H → va_D A (wC G v34.2.2) → va_S A s.heap H locs → lv_has ls 9 [(0, .ref (aD G 22)), (1, .int x1), (2, .int x2), (3, .int v34.1), (4, .int v34.2.1)] → W p l e rmX1_leastInRow s m args below meth c H locs 0 0 Q (F0 m 34 ls [])) ?_ _ _ hL H locs ls hP hD hS hl
    clear hP hD hS hl hE hL
    intro v34 t34 hE hN34 hY34
    intro H locs ls hP hD hS hl
    unfold f_X1_leastInRow_L34 at hE
    have J_148 : ∀ (x3 : Int32) (x4 : Int32) (x5 : Int32) (σ : St) (H : Heap) (locs : List Loc) (ls : Array Slot), va_P G.1 vwCl (wC G σ) H → va_D A (wC G σ) → va_S A s.heap H locs → lv_has ls 9 [(0, .ref (aD G 22)), (1, .int x1), (2, .int x2), (3, .int x3), (4, .int x4), (5, .int x5)] → f_X1_leastInRow_J148 x1 x2 x3 x4 x5 σ = some t34 → W p l e rmX1_leastInRow s m args below meth c H locs 0 0 Q (F0 m 148 ls []) := by
      intro x3 x4 x5 σ H locs ls hP hD hS hl hE
      unfold f_X1_leastInRow_J148 at hE
      refine lv_iload hx hb dX1_leastInRow_148 (lv_at hl 5 rfl) ?_
      refine lv_if_le (tgt := 155) hx hb dX1_leastInRow_150 (by decide) (fun c_ => ?_) (fun c_ => ?_)
      · have hE := ip c_ hE
        refine lv_iinc (v := (x4 + (1 : Int32))) (lv' := [(4, .int (x4 + (1 : Int32))), (0, .ref (aD G 22)), (1, .int x1), (2, .int x2), (3, .int x3), (5, .int x5)]) hx hb dX1_leastInRow_155 hl (k := 4) rfl rfl (by decide) rfl (fun ls hl => ?_)
        refine lv_goto (tgt := 34) hx hb dX1_leastInRow_158 (by decide) ?_
        exact hN34 _ (Option.some.inj hE).symm _ _ _ hP hD hS (lv_sub hl [1, 2, 3, 4, 0] rfl)
      · have hE := im c_ hE
        refine lv_iconst (v := (-1 : Int32)) hx hb dX1_leastInRow_153 (by decide) ?_
        have hE := ear_l _ (hY34 _ (Option.some.inj hE).symm) hE34
        rw [← hQ, ← Option.some.inj hE]
        exact ri hx hb hr hlocks hK hP hD hS dX1_leastInRow_154
    have J_55 : ∀ (x3 : Int32) (x4 : Int32) (x5 : Int32) (x6 : Int32) (σ : St) (H : Heap) (locs : List Loc) (ls : Array Slot), va_P G.1 vwCl (wC G σ) H → va_D A (wC G σ) → va_S A s.heap H locs → lv_has ls 9 [(0, .ref (aD G 22)), (1, .int x1), (2, .int x2), (3, .int x3), (4, .int x4), (5, .int x5), (6, .int x6)] → f_X1_leastInRow_J55 x1 x2 x3 x4 x5 x6 σ = some t34 → W p l e rmX1_leastInRow s m args below meth c H locs 0 0 Q (F0 m 55 ls []) := by
      intro x3 x4 x5 x6 σ H locs ls hP hD hS hl hE
      unfold f_X1_leastInRow_J55 at hE
      obtain ⟨y55, hL, hE55⟩ := bnd_some hE
      refine loop_W (body := f_X1_leastInRow_L55 x1 x2 x4) (y := y55) (P := fun v55 => ∀ (H : Heap) (locs : List Loc) (ls : Array Slot), va_P G.1 vwCl (wC G v55.2.2.2) H → va_D A (wC G v55.2.2.2) → va_S A s.heap H locs → lv_has ls 9 [(0, .ref (aD G 22)), (1, .int x1), (2, .int x2), (3, .int v55.1), (4, .int x4), (5, .int v55.2.1), (6, .int v55.2.2.1)] → W p l e rmX1_leastInRow s m args below meth c H locs 0 0 Q (F0 m 55 ls [])) ?_ _ _ hL H locs ls hP hD hS hl
      clear hP hD hS hl hE hL
      intro v55 t55 hE hN55 hY55
      intro H locs ls hP hD hS hl
      unfold f_X1_leastInRow_L55 at hE
      have J_107 : ∀ (x3 : Int32) (x5 : Int32) (x6 : Int32) (t0 : Int32) (σ : St) (H : Heap) (locs : List Loc) (ls : Array Slot), va_P G.1 vwCl (wC G σ) H → va_D A (wC G σ) → va_S A s.heap H locs → lv_has ls 9 [(0, .ref (aD G 22)), (1, .int x1), (2, .int x2), (3, .int x3), (4, .int x4), (5, .int x5), (6, .int x6)] → f_X1_leastInRow_J107 x1 x2 x3 x4 x5 x6 t0 σ = some t55 → W p l e rmX1_leastInRow s m args below meth c H locs 0 0 Q (F0 m 107 ls [.int t0]) := by
        intro x3 x5 x6 t0 σ H locs ls hP hD hS hl hE
        unfold f_X1_leastInRow_J107 at hE
        refine lv_istore (lv' := [(7, .int t0), (0, .ref (aD G 22)), (1, .int x1), (2, .int x2), (3, .int x3), (4, .int x4), (5, .int x5), (6, .int x6)]) hx hb dX1_leastInRow_107 hl (by decide) rfl (fun ls hl => ?_)
        refine lv_iload hx hb dX1_leastInRow_109 (lv_at hl 0 rfl) ?_
        refine lv_iload hx hb dX1_leastInRow_111 (lv_at hl 6 rfl) ?_
        refine va_mmin hx hb (hml.trans hl.1.symm) hown (hts (.methodLink RX1 139 Lib.Math.min.name) (List.mem_of_getElem? (i := 11) rfl)) (hts (.static Lib.Math.min.name) (List.mem_of_getElem? (i := 12) rfl)) (hts (.initialized "java/lang/Math") (List.mem_of_getElem? (i := 13) rfl)) (hts (.code Lib.Math.min.name Lib.Math.min.code 2 (some .int)) (List.mem_of_getElem? (i := 14) rfl)) (Nat.le_of_ble_eq_true rfl) (Nat.le_of_ble_eq_true rfl) (Nat.le_of_ble_eq_true rfl) (Nat.le_of_ble_eq_true rfl) dX1_leastInRow_113 ?_
        refine lv_istore (lv' := [(8, .int (jmin t0 x5)), (7, .int t0), (0, .ref (aD G 22)), (1, .int x1), (2, .int x2), (3, .int x3), (4, .int x4), (5, .int x5), (6, .int x6)]) hx hb dX1_leastInRow_116 hl (by decide) rfl (fun ls hl => ?_)
        refine lv_aload_n hx hb dX1_leastInRow_118 rfl (lv_at hl 2 rfl) ?_
        refine va_get (ci := 1) (v := .ref (aD G 14)) (C := RX1) (T := TX1) (N := 9) hx hb hts (fun _ h => List.mem_cons_of_mem _ (List.mem_append_left _ (List.mem_append_left _ (List.mem_append_right _ h)))) hown hK hP 22 rfl rfl 8 (by decide) (hts (.fieldLink RX1 50 "FillCells$Filling" "line" "[I") (List.mem_of_getElem? (i := 3) rfl)) (fun _ h9 => h9) rfl dX1_leastInRow_119 ?_
        refine lv_iload hx hb dX1_leastInRow_122 (lv_at hl 8 rfl) ?_
        refine lv_dup2_11 hx hb dX1_leastInRow_124 rfl rfl ?_
        obtain ⟨h_i, hE⟩ := gd_some hE
        refine ldC hx hb hK hP 14 (by decide) h_i dX1_leastInRow_125 ?_
        refine lv_iload hx hb dX1_leastInRow_126 (lv_at hl 0 rfl) ?_
        refine lv_iadd hx hb dX1_leastInRow_128 ?_
        obtain ⟨h_i, hE⟩ := gd_some hE
        refine stC hx hb hK hP hD hS 14 (by decide) h_i dX1_leastInRow_129 (fun H locs hP hD hS => ?_)
        refine lv_iload hx hb dX1_leastInRow_130 (lv_at hl 7 rfl) ?_
        refine lv_iload hx hb dX1_leastInRow_132 (lv_at hl 0 rfl) ?_
        refine lv_isub hx hb dX1_leastInRow_134 ?_
        refine lv_istore (lv' := [(5, .int (x5 - (jmin t0 x5))), (8, .int (jmin t0 x5)), (7, .int t0), (0, .ref (aD G 22)), (1, .int x1), (2, .int x2), (3, .int x3), (4, .int x4), (6, .int x6)]) hx hb dX1_leastInRow_135 hl (by decide) rfl (fun ls hl => ?_)
        refine lv_iload_n hx hb dX1_leastInRow_137 rfl (lv_at hl 6 rfl) ?_
        refine lv_iload hx hb dX1_leastInRow_138 (lv_at hl 1 rfl) ?_
        refine lv_iadd hx hb dX1_leastInRow_140 ?_
        refine lv_istore_n (lv' := [(3, .int (x3 + (jmin t0 x5))), (5, .int (x5 - (jmin t0 x5))), (8, .int (jmin t0 x5)), (7, .int t0), (0, .ref (aD G 22)), (1, .int x1), (2, .int x2), (4, .int x4), (6, .int x6)]) hx hb dX1_leastInRow_141 rfl hl (by decide) rfl (fun ls hl => ?_)
        refine lv_iinc (v := (x6 + (-1 : Int32))) (lv' := [(6, .int (x6 + (-1 : Int32))), (3, .int (x3 + (jmin t0 x5))), (5, .int (x5 - (jmin t0 x5))), (8, .int (jmin t0 x5)), (7, .int t0), (0, .ref (aD G 22)), (1, .int x1), (2, .int x2), (4, .int x4)]) hx hb dX1_leastInRow_142 hl (k := 8) rfl rfl (by decide) rfl (fun ls hl => ?_)
        refine lv_goto (tgt := 55) hx hb dX1_leastInRow_145 (by decide) ?_
        exact hN55 _ (Option.some.inj hE).symm _ _ _ hP hD hS (lv_sub hl [5, 6, 7, 1, 8, 2, 0] rfl)
      refine lv_iload hx hb dX1_leastInRow_55 (lv_at hl 6 rfl) ?_
      refine lv_iload hx hb dX1_leastInRow_57 (lv_at hl 4 rfl) ?_
      refine lv_aload_n hx hb dX1_leastInRow_59 rfl (lv_at hl 0 rfl) ?_
      refine va_get (ci := 1) (v := .ref (aD G 20)) (C := RX1) (T := TX1) (N := 9) hx hb hts (fun _ h => List.mem_cons_of_mem _ (List.mem_append_left _ (List.mem_append_left _ (List.mem_append_right _ h)))) hown hK hP 22 rfl rfl 1 (by decide) (hts (.fieldLink RX1 21 "FillCells$Filling" "windows" "LFillCells$Windows;") (List.mem_of_getElem? (i := 8) rfl)) (fun _ h9 => h9) rfl dX1_leastInRow_60 ?_
      refine va_get (ci := 5) (v := .int (gI v55.2.2.2 7)) (C := RX5) (T := TX5) (N := 8) hx hb hts (fun _ h => List.mem_cons_of_mem _ (List.mem_append_right _ h)) hown hK hP 20 rfl rfl 1 (by decide) (hts (.fieldLink RX1 158 "FillCells$Windows" "width" "I") (List.mem_of_getElem? (i := 9) rfl)) (fun _ h9 => h9) rfl dX1_leastInRow_63 ?_
      refine lv_isub hx hb dX1_leastInRow_66 ?_
      refine lv_icmp_le (tgt := 148) hx hb dX1_leastInRow_67 (by decide) (fun c_ => ?_) (fun c_ => ?_)
      · have hE := ip c_ hE
        have e9 := hY55 _ (Option.some.inj hE).symm
        have hE := hE55
        rw [← e9] at hE
        exact J_148 v55.1 x4 v55.2.1 v55.2.2.2 _ _ _ hP hD hS (lv_sub hl [0, 1, 2, 3, 4, 5] rfl) hE
      · have hE := im c_ hE
        refine lv_iload hx hb dX1_leastInRow_70 (lv_at hl 5 rfl) ?_
        refine lv_if_le (tgt := 148) hx hb dX1_leastInRow_72 (by decide) (fun c_ => ?_) (fun c_ => ?_)
        · have hE := ip c_ hE
          have e9 := hY55 _ (Option.some.inj hE).symm
          have hE := hE55
          rw [← e9] at hE
          exact J_148 v55.1 x4 v55.2.1 v55.2.2.2 _ _ _ hP hD hS (lv_sub hl [0, 1, 2, 3, 4, 5] rfl) hE
        · have hE := im c_ hE
          refine lv_aload_n hx hb dX1_leastInRow_75 rfl (lv_at hl 0 rfl) ?_
          refine va_get (ci := 1) (v := .ref (aD G 19)) (C := RX1) (T := TX1) (N := 9) hx hb hts (fun _ h => List.mem_cons_of_mem _ (List.mem_append_left _ (List.mem_append_left _ (List.mem_append_right _ h)))) hown hK hP 22 rfl rfl 0 (by decide) (hts (.fieldLink RX1 12 "FillCells$Filling" "field" "LFillCells$Field;") (List.mem_of_getElem? (i := 1) rfl)) (fun _ h9 => h9) rfl dX1_leastInRow_76 ?_
          refine va_get (ci := 0) (v := .ref (aD G 1)) (C := RX0) (T := TX0) (N := 5) hx hb hts (fun _ h => List.mem_cons_of_mem _ (List.mem_append_left _ (List.mem_append_right _ h))) hown hK hP 19 rfl rfl 1 (by decide) (hts (.fieldLink RX1 164 "FillCells$Field" "shut" "[I") (List.mem_of_getElem? (i := 10) rfl)) (fun _ h9 => h9) rfl dX1_leastInRow_79 ?_
          refine lv_bipush (v := (10 : Int32)) hx hb dX1_leastInRow_82 (by decide) ?_
          refine lv_iload_n hx hb dX1_leastInRow_84 rfl (lv_at hl 1 rfl) ?_
          refine lv_imul hx hb dX1_leastInRow_85 ?_
          refine lv_iload hx hb dX1_leastInRow_86 (lv_at hl 6 rfl) ?_
          refine lv_iadd hx hb dX1_leastInRow_88 ?_
          obtain ⟨h_i, hE⟩ := gd_some hE
          refine ldC hx hb hK hP 1 (by decide) h_i dX1_leastInRow_89 ?_
          refine lv_if_eq (tgt := 97) hx hb dX1_leastInRow_90 (by decide) (fun c_ => ?_) (fun c_ => ?_)
          · have hE := ip c_ hE
            refine lv_bipush (v := (9 : Int32)) hx hb dX1_leastInRow_97 (by decide) ?_
            refine lv_aload_n hx hb dX1_leastInRow_99 rfl (lv_at hl 0 rfl) ?_
            refine va_get (ci := 1) (v := .ref (aD G 14)) (C := RX1) (T := TX1) (N := 9) hx hb hts (fun _ h => List.mem_cons_of_mem _ (List.mem_append_left _ (List.mem_append_left _ (List.mem_append_right _ h)))) hown hK hP 22 rfl rfl 8 (by decide) (hts (.fieldLink RX1 50 "FillCells$Filling" "line" "[I") (List.mem_of_getElem? (i := 3) rfl)) (fun _ h9 => h9) rfl dX1_leastInRow_100 ?_
            refine lv_iload hx hb dX1_leastInRow_103 (lv_at hl 6 rfl) ?_
            obtain ⟨h_i, hE⟩ := gd_some hE
            refine ldC hx hb hK hP 14 (by decide) h_i dX1_leastInRow_105 ?_
            refine lv_isub hx hb dX1_leastInRow_106 ?_
            exact J_107 v55.1 v55.2.1 v55.2.2.1 ((9 : Int32) - (rd v55.2.2.2 14 v55.2.2.1)) v55.2.2.2 _ _ _ hP hD hS (lv_sub hl [0, 1, 2, 3, 4, 5, 6] rfl) hE
          · have hE := im c_ hE
            refine lv_iconst (v := (0 : Int32)) hx hb dX1_leastInRow_93 (by decide) ?_
            refine lv_goto (tgt := 107) hx hb dX1_leastInRow_94 (by decide) ?_
            exact J_107 v55.1 v55.2.1 v55.2.2.1 (0 : Int32) v55.2.2.2 _ _ _ hP hD hS (lv_sub hl [0, 1, 2, 3, 4, 5, 6] rfl) hE
    refine lv_iload hx hb dX1_leastInRow_34 (lv_at hl 4 rfl) ?_
    refine lv_bipush (v := (10 : Int32)) hx hb dX1_leastInRow_36 (by decide) ?_
    refine lv_icmp_ge (tgt := 161) hx hb dX1_leastInRow_38 (by decide) (fun c_ => ?_) (fun c_ => ?_)
    · have hE := ip c_ hE
      have e9 := hY34 _ (Option.some.inj hE).symm
      have hE := ear_r _ e9 hE34
      refine lv_iload_n hx hb dX1_leastInRow_161 rfl (lv_at hl 3 rfl) ?_
      rw [← hQ, ← Option.some.inj hE]
      exact ri hx hb hr hlocks hK hP hD hS dX1_leastInRow_162
    · have hE := im c_ hE
      refine lv_iload_n hx hb dX1_leastInRow_41 rfl (lv_at hl 2 rfl) ?_
      refine lv_aload_n hx hb dX1_leastInRow_42 rfl (lv_at hl 0 rfl) ?_
      refine lv_iload hx hb dX1_leastInRow_43 (lv_at hl 4 rfl) ?_
      obtain ⟨r1, hC, hE⟩ := bnd_some hE
      refine ci (va_runV (As := [.int v34.2.1]) (rest := [.int x2]) ⟨hx, hb, hml, hown, hts⟩ (c_X1_stretch l G v34.2.1 v34.2.2 r1 hC _) (cwV 1 hts gX1_leastInRow_X1_stretch rfl rfl rfl (by decide +kernel) ⟨Nat.le_of_ble_eq_true rfl, Nat.le_of_ble_eq_true rfl⟩) (preV hK hP hD hS hA hX (va_recv hK hP (ci := 1) (q0 := 22) rfl rfl)) rfl rfl hl.1 rfl (lv_room (Nat.le_of_ble_eq_true rfl)) dX1_leastInRow_45 ⟨Nat.le_of_ble_eq_true rfl, Nat.le_of_ble_eq_true rfl⟩) hD hS hA (fun H locs hP hD hS => ?_)
      refine lv_isub hx hb dX1_leastInRow_48 ?_
      refine lv_istore (lv' := [(5, .int (x2 - r1)), (0, .ref (aD G 22)), (1, .int x1), (2, .int x2), (3, .int v34.1), (4, .int v34.2.1)]) hx hb dX1_leastInRow_49 hl (by decide) rfl (fun ls hl => ?_)
      refine lv_iload hx hb dX1_leastInRow_51 (lv_at hl 5 rfl) ?_
      refine lv_istore (lv' := [(6, .int v34.2.1), (5, .int (x2 - r1)), (0, .ref (aD G 22)), (1, .int x1), (2, .int x2), (3, .int v34.1), (4, .int v34.2.1)]) hx hb dX1_leastInRow_53 hl (by decide) rfl (fun ls hl => ?_)
      exact J_55 v34.1 v34.2.1 (x2 - r1) v34.2.1 v34.2.2 _ _ _ hP hD hS (lv_sub hl [2, 3, 4, 5, 6, 1, 0] rfl) hE
  refine lv_aload_n hx hb dX1_leastInRow_0 rfl (lv_at hl 0 rfl) ?_
  refine va_get (ci := 1) (v := .ref (aD G 19)) (C := RX1) (T := TX1) (N := 9) hx hb hts (fun _ h => List.mem_cons_of_mem _ (List.mem_append_left _ (List.mem_append_left _ (List.mem_append_right _ h)))) hown hK hP 22 rfl rfl 0 (by decide) (hts (.fieldLink RX1 12 "FillCells$Filling" "field" "LFillCells$Field;") (List.mem_of_getElem? (i := 1) rfl)) (fun _ h9 => h9) rfl dX1_leastInRow_1 ?_
  refine va_get (ci := 0) (v := .ref (aD G 0)) (C := RX0) (T := TX0) (N := 5) hx hb hts (fun _ h => List.mem_cons_of_mem _ (List.mem_append_left _ (List.mem_append_right _ h))) hown hK hP 19 rfl rfl 0 (by decide) (hts (.fieldLink RX1 155 "FillCells$Field" "shapes" "[I") (List.mem_of_getElem? (i := 2) rfl)) (fun _ h9 => h9) rfl dX1_leastInRow_4 ?_
  refine lv_bipush (v := (10 : Int32)) hx hb dX1_leastInRow_7 (by decide) ?_
  refine lv_iload_n hx hb dX1_leastInRow_9 rfl (lv_at hl 1 rfl) ?_
  refine lv_imul hx hb dX1_leastInRow_10 ?_
  refine lv_aload_n hx hb dX1_leastInRow_11 rfl (lv_at hl 0 rfl) ?_
  refine va_get (ci := 1) (v := .ref (aD G 14)) (C := RX1) (T := TX1) (N := 9) hx hb hts (fun _ h => List.mem_cons_of_mem _ (List.mem_append_left _ (List.mem_append_left _ (List.mem_append_right _ h)))) hown hK hP 22 rfl rfl 8 (by decide) (hts (.fieldLink RX1 50 "FillCells$Filling" "line" "[I") (List.mem_of_getElem? (i := 3) rfl)) (fun _ h9 => h9) rfl dX1_leastInRow_12 ?_
  refine lv_iconst (v := (0 : Int32)) hx hb dX1_leastInRow_15 (by decide) ?_
  refine lv_bipush (v := (10 : Int32)) hx hb dX1_leastInRow_16 (by decide) ?_
  obtain ⟨⟨h_1, h_2, h_3, h_4, h_5⟩, hE⟩ := gq_some hE
  refine va_copyi hx hb (hml.trans hl.1.symm) hown (hts (.methodLink RX1 144 arraycopyName) (List.mem_of_getElem? (i := 4) rfl)) (hts (.native arraycopyName) (List.mem_of_getElem? (i := 5) rfl)) (hts (.static arraycopyName) (List.mem_of_getElem? (i := 6) rfl)) (hts (.initialized "java/lang/System") (List.mem_of_getElem? (i := 7) rfl)) hK hP hD hS 0 14 0 0 rfl rfl rfl rfl rfl h_1 h_2 h_3 h_4 h_5 (fun _ _ => rfl) (Nat.le_of_ble_eq_true rfl) (Nat.le_of_ble_eq_true rfl) dX1_leastInRow_18 (fun H locs hP hD hS => ?_)
  have hP : va_P G.1 vwCl (wC G (sAA σ 14 (va_cpy (σ.1 0) (σ.1 14) ((10 : Int32) * x1).toNatClampNeg (0 : Int32).toNatClampNeg (10 : Int32).toNatClampNeg))) H := hP
  have hD : va_D A (wC G (sAA σ 14 (va_cpy (σ.1 0) (σ.1 14) ((10 : Int32) * x1).toNatClampNeg (0 : Int32).toNatClampNeg (10 : Int32).toNatClampNeg))) := hD
  refine lv_iconst (v := (0 : Int32)) hx hb dX1_leastInRow_21 (by decide) ?_
  refine lv_istore_n (lv' := [(3, .int (0 : Int32)), (0, .ref (aD G 22)), (1, .int x1), (2, .int x2)]) hx hb dX1_leastInRow_22 rfl hl (by decide) rfl (fun ls hl => ?_)
  refine lv_aload_n hx hb dX1_leastInRow_23 rfl (lv_at hl 1 rfl) ?_
  refine va_get (ci := 1) (v := .ref (aD G 20)) (C := RX1) (T := TX1) (N := 9) hx hb hts (fun _ h => List.mem_cons_of_mem _ (List.mem_append_left _ (List.mem_append_left _ (List.mem_append_right _ h)))) hown hK hP 22 rfl rfl 1 (by decide) (hts (.fieldLink RX1 21 "FillCells$Filling" "windows" "LFillCells$Windows;") (List.mem_of_getElem? (i := 8) rfl)) (fun _ h9 => h9) rfl dX1_leastInRow_24 ?_
  refine va_get (ci := 5) (v := .int (gI (sAA σ 14 (va_cpy (σ.1 0) (σ.1 14) ((10 : Int32) * x1).toNatClampNeg (0 : Int32).toNatClampNeg (10 : Int32).toNatClampNeg)) 7)) (C := RX5) (T := TX5) (N := 8) hx hb hts (fun _ h => List.mem_cons_of_mem _ (List.mem_append_right _ h)) hown hK hP 20 rfl rfl 1 (by decide) (hts (.fieldLink RX1 158 "FillCells$Windows" "width" "I") (List.mem_of_getElem? (i := 9) rfl)) (fun _ h9 => h9) rfl dX1_leastInRow_27 ?_
  refine lv_iconst (v := (1 : Int32)) hx hb dX1_leastInRow_30 (by decide) ?_
  refine lv_isub hx hb dX1_leastInRow_31 ?_
  refine lv_istore (lv' := [(4, .int ((gI (sAA σ 14 (va_cpy (σ.1 0) (σ.1 14) ((10 : Int32) * x1).toNatClampNeg (0 : Int32).toNatClampNeg (10 : Int32).toNatClampNeg)) 7) - (1 : Int32))), (3, .int (0 : Int32)), (0, .ref (aD G 22)), (1, .int x1), (2, .int x2)]) hx hb dX1_leastInRow_32 hl (by decide) rfl (fun ls hl => ?_)
  exact J_34 (0 : Int32) ((gI (sAA σ 14 (va_cpy (σ.1 0) (σ.1 14) ((10 : Int32) * x1).toNatClampNeg (0 : Int32).toNatClampNeg (10 : Int32).toNatClampNeg)) 7) - (1 : Int32)) (sAA σ 14 (va_cpy (σ.1 0) (σ.1 14) ((10 : Int32) * x1).toNatClampNeg (0 : Int32).toNatClampNeg (10 : Int32).toNatClampNeg)) _ _ _ hP hD hS (lv_sub hl [2, 3, 4, 1, 0] rfl) hE

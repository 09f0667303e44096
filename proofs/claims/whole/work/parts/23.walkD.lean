abbrev rmX6_refuse : Room := { frames := 0, cells := 0, slots := 0, locals := 0 }

def f_X6_refuse (x1 : Int32) (σ : St) : Option (Int32 × St) := if x1 = (-2 : Int32) then (some (x1, (sI σ 10 ((gI σ 10) + (1 : Int32))))) else (if x1 = (-3 : Int32) then (some (x1, (sI σ 11 ((gI σ 11) + (1 : Int32))))) else (some (x1, (sI σ 12 ((gI σ 12) + (1 : Int32))))))
set_option maxHeartbeats 4000000 in
set_option maxRecDepth 100000 in
theorem c_X6_refuse (l : Launch) (G : EV)  (x1 : Int32) (σ : St) (r : (Int32 × St)) (hE : f_X6_refuse x1 σ = some r) : MetI l G yX6_refuse wsX6_refuse rmX6_refuse [.ref (aD G 25), .int x1] (wC G σ) r.1 (wC G r.2) := by
  refine Met.of0 (Qf := PI G r.1 (wC G r.2)) (cc := cX6_refuse) (maxL := 2) (ret := (some .int)) (by decide) rfl (Nat.le_of_ble_eq_true rfl) ?_
  intro p e s m below meth c args A hx hb hr hts hown hlocks hml hin0 hA hS hP hK hD hX ls hl
  have hl : lv_has ls 2 [(0, .ref (aD G 25)), (1, .int x1)] := hl
  generalize hQ : MQ below (PI G r.1 (wC G r.2) A) args s 0 0 A = Q
  unfold f_X6_refuse at hE
  refine lv_iload_n hx hb dX6_refuse_0 rfl (lv_at hl 1 rfl) ?_
  refine lv_bipush (v := (-2 : Int32)) hx hb dX6_refuse_1 (by decide) ?_
  refine lv_icmp_ne (tgt := 19) hx hb dX6_refuse_3 (by decide) (fun c_ => ?_) (fun c_ => ?_)
  · have hE := im c_ hE
    refine lv_iload_n hx hb dX6_refuse_19 rfl (lv_at hl 1 rfl) ?_
    refine lv_bipush (v := (-3 : Int32)) hx hb dX6_refuse_20 (by decide) ?_
    refine lv_icmp_ne (tgt := 38) hx hb dX6_refuse_22 (by decide) (fun c_ => ?_) (fun c_ => ?_)
    · have hE := im c_ hE
      refine lv_aload_n hx hb dX6_refuse_38 rfl (lv_at hl 0 rfl) ?_
      refine lv_dup hx hb dX6_refuse_39 rfl ?_
      refine va_get (ci := 6) (v := .int (gI σ 12)) (C := RX6) (T := TX6) (N := 7) hx hb hts (fun _ h => List.mem_cons_of_mem _ (List.mem_append_right _ h)) hown hK hP 25 rfl rfl 6 (by decide) (hts (.fieldLink RX6 41 "FillCells" "fulls" "I") (List.mem_of_getElem? (i := 3) rfl)) (fun _ h9 => h9) rfl dX6_refuse_40 ?_
      refine lv_iconst (v := (1 : Int32)) hx hb dX6_refuse_43 (by decide) ?_
      refine lv_iadd hx hb dX6_refuse_44 ?_
      refine va_put (ci := 6) (v := .int ((gI σ 12) + (1 : Int32))) (ty := .int) (C := RX6) (T := TX6) (N := 7) hx hb hts (fun _ h => List.mem_cons_of_mem _ (List.mem_append_right _ h)) tyX6 tyX6_ok nmX6 hown hK hP hD hS 25 rfl rfl 6 (by decide) (hts (.fieldLink RX6 41 "FillCells" "fulls" "I") (List.mem_of_getElem? (i := 3) rfl)) (fun _ h9 => h9) rfl (by decide +kernel) rfl rfl (Nat.le_of_ble_eq_true rfl) dX6_refuse_45 (fun H locs hP hD hS => ?_)
      have hP : va_P G.1 vwCl (wC G (sI σ 12 ((gI σ 12) + (1 : Int32)))) H := hP
      have hD : va_D A (wC G (sI σ 12 ((gI σ 12) + (1 : Int32)))) := hD
      refine lv_iload_n hx hb dX6_refuse_48 rfl (lv_at hl 1 rfl) ?_
      rw [← hQ, ← Option.some.inj hE]
      exact ri hx hb hr hlocks hK hP hD hS dX6_refuse_49
    · have hE := ip c_ hE
      refine lv_aload_n hx hb dX6_refuse_25 rfl (lv_at hl 0 rfl) ?_
      refine lv_dup hx hb dX6_refuse_26 rfl ?_
      refine va_get (ci := 6) (v := .int (gI σ 11)) (C := RX6) (T := TX6) (N := 7) hx hb hts (fun _ h => List.mem_cons_of_mem _ (List.mem_append_right _ h)) hown hK hP 25 rfl rfl 5 (by decide) (hts (.fieldLink RX6 38 "FillCells" "noes" "I") (List.mem_of_getElem? (i := 2) rfl)) (fun _ h9 => h9) rfl dX6_refuse_27 ?_
      refine lv_iconst (v := (1 : Int32)) hx hb dX6_refuse_30 (by decide) ?_
      refine lv_iadd hx hb dX6_refuse_31 ?_
      refine va_put (ci := 6) (v := .int ((gI σ 11) + (1 : Int32))) (ty := .int) (C := RX6) (T := TX6) (N := 7) hx hb hts (fun _ h => List.mem_cons_of_mem _ (List.mem_append_right _ h)) tyX6 tyX6_ok nmX6 hown hK hP hD hS 25 rfl rfl 5 (by decide) (hts (.fieldLink RX6 38 "FillCells" "noes" "I") (List.mem_of_getElem? (i := 2) rfl)) (fun _ h9 => h9) rfl (by decide +kernel) rfl rfl (Nat.le_of_ble_eq_true rfl) dX6_refuse_32 (fun H locs hP hD hS => ?_)
      have hP : va_P G.1 vwCl (wC G (sI σ 11 ((gI σ 11) + (1 : Int32)))) H := hP
      have hD : va_D A (wC G (sI σ 11 ((gI σ 11) + (1 : Int32)))) := hD
      refine lv_goto (tgt := 48) hx hb dX6_refuse_35 (by decide) ?_
      refine lv_iload_n hx hb dX6_refuse_48 rfl (lv_at hl 1 rfl) ?_
      rw [← hQ, ← Option.some.inj hE]
      exact ri hx hb hr hlocks hK hP hD hS dX6_refuse_49
  · have hE := ip c_ hE
    refine lv_aload_n hx hb dX6_refuse_6 rfl (lv_at hl 0 rfl) ?_
    refine lv_dup hx hb dX6_refuse_7 rfl ?_
    refine va_get (ci := 6) (v := .int (gI σ 10)) (C := RX6) (T := TX6) (N := 7) hx hb hts (fun _ h => List.mem_cons_of_mem _ (List.mem_append_right _ h)) hown hK hP 25 rfl rfl 4 (by decide) (hts (.fieldLink RX6 34 "FillCells" "bads" "I") (List.mem_of_getElem? (i := 1) rfl)) (fun _ h9 => h9) rfl dX6_refuse_8 ?_
    refine lv_iconst (v := (1 : Int32)) hx hb dX6_refuse_11 (by decide) ?_
    refine lv_iadd hx hb dX6_refuse_12 ?_
    refine va_put (ci := 6) (v := .int ((gI σ 10) + (1 : Int32))) (ty := .int) (C := RX6) (T := TX6) (N := 7) hx hb hts (fun _ h => List.mem_cons_of_mem _ (List.mem_append_right _ h)) tyX6 tyX6_ok nmX6 hown hK hP hD hS 25 rfl rfl 4 (by decide) (hts (.fieldLink RX6 34 "FillCells" "bads" "I") (List.mem_of_getElem? (i := 1) rfl)) (fun _ h9 => h9) rfl (by decide +kernel) rfl rfl (Nat.le_of_ble_eq_true rfl) dX6_refuse_13 (fun H locs hP hD hS => ?_)
    have hP : va_P G.1 vwCl (wC G (sI σ 10 ((gI σ 10) + (1 : Int32)))) H := hP
    have hD : va_D A (wC G (sI σ 10 ((gI σ 10) + (1 : Int32)))) := hD
    refine lv_goto (tgt := 48) hx hb dX6_refuse_16 (by decide) ?_
    refine lv_iload_n hx hb dX6_refuse_48 rfl (lv_at hl 1 rfl) ?_
    rw [← hQ, ← Option.some.inj hE]
    exact ri hx hb hr hlocks hK hP hD hS dX6_refuse_49
abbrev rmX6_sets : Room := { frames := 4, cells := 0, slots := 0, locals := 89 }
def f_X6_sets_J29 (σ : St) : Option (Int32 × St) := bnd (f_X6_refuse (-2 : Int32) σ) (fun r2 => some (r2.1, r2.2))
def f_X6_sets (x1 x2 x3 : Int32) (σ : St) : Option (Int32 × St) := bnd (f_X6_isCell x1) (fun r1 => if r1 = 0 then (f_X6_sets_J29 σ) else (bnd (f_X6_isIn x2 (0 : Int32) (3 : Int32)) (fun r3 => if r3 = 0 then (f_X6_sets_J29 σ) else (gd x2 4 (bnd (f_X6_isIn x3 (0 : Int32) (svl 3 (x2).toNatClampNeg)) (fun r4 => if r4 = 0 then (f_X6_sets_J29 σ) else (bnd (f_X2_note σ) (fun r5 => bnd (f_X0_part x2 r5) (fun r6 => gq (r6 < 18) (gd x1 (lnC r6) (gd x1 (lnC r6) (bnd (f_X0_settle (sA r5 r6 x1 x3)) (fun r7 => bnd (f_X1_measure r7) (fun r8 => bnd (f_X2_keep r8) (fun r9 => some ((rd r5 r6 x1), r9))))))))))))))))
set_option maxHeartbeats 4000000 in
set_option maxRecDepth 100000 in
theorem c_X6_sets (l : Launch) (G : EV)  (x1 x2 x3 : Int32) (σ : St) (r : (Int32 × St)) (hE : f_X6_sets x1 x2 x3 σ = some r) : MetI l G yX6_sets wsX6_sets rmX6_sets [.ref (aD G 25), .int x1, .int x2, .int x3] (wC G σ) r.1 (wC G r.2) := by
  refine Met.of0 (Qf := PI G r.1 (wC G r.2)) (cc := cX6_sets) (maxL := 6) (ret := (some .int)) (by decide) rfl (Nat.le_of_ble_eq_true rfl) ?_
  intro p e s m below meth c args A hx hb hr hts hown hlocks hml hin0 hA hS hP hK hD hX ls hl
  have hl : lv_has ls 6 [(0, .ref (aD G 25)), (1, .int x1), (2, .int x2), (3, .int x3)] := hl
  generalize hQ : MQ below (PI G r.1 (wC G r.2) A) args s 0 0 A = Q
  unfold f_X6_sets at hE
  have J_29 : ∀ (σ : St) (H : Heap) (locs : List Loc) (ls : Array Slot), va_P G.1 vwCl (wC G σ) H → va_D A (wC G σ) → va_S A s.heap H locs → lv_has ls 6 [(0, .ref (aD G 25))] → f_X6_sets_J29 σ = some r → W p l e rmX6_sets s m args below meth c H locs 0 0 Q (F0 m 29 ls []) := by
    intro σ H locs ls hP hD hS hl hE
    unfold f_X6_sets_J29 at hE
    refine lv_aload_n hx hb dX6_sets_29 rfl (lv_at hl 0 rfl) ?_
    refine lv_bipush (v := (-2 : Int32)) hx hb dX6_sets_30 (by decide) ?_
    obtain ⟨r2, hC, hE⟩ := bnd_some hE
    refine ci (va_runV (As := [.int (-2 : Int32)]) (rest := []) ⟨hx, hb, hml, hown, hts⟩ (c_X6_refuse l G (-2 : Int32) σ r2 hC _) (cwV 1 hts gX6_sets_X6_refuse rfl rfl rfl (by decide +kernel) ⟨Nat.le_of_ble_eq_true rfl, Nat.le_of_ble_eq_true rfl⟩) (preV hK hP hD hS hA hX (va_recv hK hP (ci := 6) (q0 := 25) rfl rfl)) rfl rfl hl.1 rfl (lv_room (Nat.le_of_ble_eq_true rfl)) dX6_sets_32 ⟨Nat.le_of_ble_eq_true rfl, Nat.le_of_ble_eq_true rfl⟩) hD hS hA (fun H locs hP hD hS => ?_)
    rw [← hQ, ← Option.some.inj hE]
    exact ri hx hb hr hlocks hK hP hD hS dX6_sets_35
  refine lv_iload_n hx hb dX6_sets_0 rfl (lv_at hl 1 rfl) ?_
  obtain ⟨r1, hC, hE⟩ := bnd_some hE
  refine ci (va_runS (As := [.int x1]) (rest := []) ⟨hx, hb, hml, hown, hts⟩ (c_X6_isCell l G x1 σ r1 hC _) (va_cwS 1 hts gX6_sets_X6_isCell rfl rfl rfl (by decide +kernel) ⟨Nat.le_of_ble_eq_true rfl, Nat.le_of_ble_eq_true rfl⟩) (preS hK hP hD hS hA hX) rfl rfl hl.1 rfl (lv_room (Nat.le_of_ble_eq_true rfl)) dX6_sets_1 ⟨Nat.le_of_ble_eq_true rfl, Nat.le_of_ble_eq_true rfl⟩) hD hS hA (fun H locs hP hD hS => ?_)
  refine lv_if_eq (tgt := 29) hx hb dX6_sets_4 (by decide) (fun c_ => ?_) (fun c_ => ?_)
  · have hE := ip c_ hE
    exact J_29 σ _ _ _ hP hD hS (lv_sub hl [0] rfl) hE
  · have hE := im c_ hE
    refine lv_iload_n hx hb dX6_sets_7 rfl (lv_at hl 2 rfl) ?_
    refine lv_iconst (v := (0 : Int32)) hx hb dX6_sets_8 (by decide) ?_
    refine lv_iconst (v := (3 : Int32)) hx hb dX6_sets_9 (by decide) ?_
    obtain ⟨r3, hC, hE⟩ := bnd_some hE
    refine ci (va_runS (As := [.int x2, .int (0 : Int32), .int (3 : Int32)]) (rest := []) ⟨hx, hb, hml, hown, hts⟩ (c_X6_isIn l G x2 (0 : Int32) (3 : Int32) σ r3 hC _) (va_cwS 3 hts gX6_sets_X6_isIn rfl rfl rfl (by decide +kernel) ⟨Nat.le_of_ble_eq_true rfl, Nat.le_of_ble_eq_true rfl⟩) (preS hK hP hD hS hA hX) rfl rfl hl.1 rfl (lv_room (Nat.le_of_ble_eq_true rfl)) dX6_sets_10 ⟨Nat.le_of_ble_eq_true rfl, Nat.le_of_ble_eq_true rfl⟩) hD hS hA (fun H locs hP hD hS => ?_)
    refine lv_if_eq (tgt := 29) hx hb dX6_sets_13 (by decide) (fun c_ => ?_) (fun c_ => ?_)
    · have hE := ip c_ hE
      exact J_29 σ _ _ _ hP hD hS (lv_sub hl [0] rfl) hE
    · have hE := im c_ hE
      refine lv_iload_n hx hb dX6_sets_16 rfl (lv_at hl 3 rfl) ?_
      refine lv_iconst (v := (0 : Int32)) hx hb dX6_sets_17 (by decide) ?_
      refine va_gets hx hb (hX.2 3 (by decide)).1 hS hown (hts (.fieldLink RX6 58 "FillCells" "PART_MOST" "[I") (List.mem_of_getElem? (i := 1) rfl)) (fun _ h9 => h9) dX6_sets_18 ?_
      refine lv_iload_n hx hb dX6_sets_21 rfl (lv_at hl 2 rfl) ?_
      obtain ⟨h_i, hE⟩ := gd_some hE
      refine va_ti hx hb (hX.2 3 (by decide)).2 hS h_i rfl dX6_sets_22 ?_
      obtain ⟨r4, hC, hE⟩ := bnd_some hE
      refine ci (va_runS (As := [.int x3, .int (0 : Int32), .int (svl 3 (x2).toNatClampNeg)]) (rest := []) ⟨hx, hb, hml, hown, hts⟩ (c_X6_isIn l G x3 (0 : Int32) (svl 3 (x2).toNatClampNeg) σ r4 hC _) (va_cwS 3 hts gX6_sets_X6_isIn rfl rfl rfl (by decide +kernel) ⟨Nat.le_of_ble_eq_true rfl, Nat.le_of_ble_eq_true rfl⟩) (preS hK hP hD hS hA hX) rfl rfl hl.1 rfl (lv_room (Nat.le_of_ble_eq_true rfl)) dX6_sets_23 ⟨Nat.le_of_ble_eq_true rfl, Nat.le_of_ble_eq_true rfl⟩) hD hS hA (fun H locs hP hD hS => ?_)
      refine lv_if_ne (tgt := 36) hx hb dX6_sets_26 (by decide) (fun c_ => ?_) (fun c_ => ?_)
      · have hE := im c_ hE
        refine lv_aload_n hx hb dX6_sets_36 rfl (lv_at hl 0 rfl) ?_
        refine va_get (ci := 6) (v := .ref (aD G 23)) (C := RX6) (T := TX6) (N := 7) hx hb hts (fun _ h => List.mem_cons_of_mem _ (List.mem_append_left _ (List.mem_append_left _ (List.mem_append_left _ (List.mem_append_left _ (List.mem_append_left _ (List.mem_append_right _ h))))))) hown hK hP 25 rfl rfl 1 (by decide) (hts (.fieldLink RX6 19 "FillCells" "history" "LFillCells$History;") (List.mem_of_getElem? (i := 2) rfl)) (fun _ h9 => h9) rfl dX6_sets_37 ?_
        refine lv_aload_n hx hb dX6_sets_40 rfl (lv_at hl 0 rfl) ?_
        refine va_get (ci := 6) (v := .ref (aD G 22)) (C := RX6) (T := TX6) (N := 7) hx hb hts (fun _ h => List.mem_cons_of_mem _ (List.mem_append_left _ (List.mem_append_left _ (List.mem_append_left _ (List.mem_append_left _ (List.mem_append_left _ (List.mem_append_right _ h))))))) hown hK hP 25 rfl rfl 0 (by decide) (hts (.fieldLink RX6 10 "FillCells" "filling" "LFillCells$Filling;") (List.mem_of_getElem? (i := 3) rfl)) (fun _ h9 => h9) rfl dX6_sets_41 ?_
        refine va_get (ci := 1) (v := .ref (aD G 19)) (C := RX1) (T := TX1) (N := 9) hx hb hts (fun _ h => List.mem_cons_of_mem _ (List.mem_append_left _ (List.mem_append_left _ (List.mem_append_left _ (List.mem_append_left _ (List.mem_append_right _ h)))))) hown hK hP 22 rfl rfl 0 (by decide) (hts (.fieldLink RX6 65 "FillCells$Filling" "field" "LFillCells$Field;") (List.mem_of_getElem? (i := 4) rfl)) (fun _ h9 => h9) rfl dX6_sets_44 ?_
        obtain ⟨r5, hC, hE⟩ := bnd_some hE
        refine cv (va_runV (As := [.ref (aD G 19)]) (rest := []) ⟨hx, hb, hml, hown, hts⟩ (c_X2_note l G σ r5 hC _) (cwV 1 hts gX6_sets_X2_note rfl rfl rfl (by decide +kernel) ⟨Nat.le_of_ble_eq_true rfl, Nat.le_of_ble_eq_true rfl⟩) (preV hK hP hD hS hA hX (va_recv hK hP (ci := 2) (q0 := 23) rfl rfl)) rfl rfl hl.1 rfl (lv_room (Nat.le_of_ble_eq_true rfl)) dX6_sets_47 ⟨Nat.le_of_ble_eq_true rfl, Nat.le_of_ble_eq_true rfl⟩) hD hS hA (fun H locs hP hD hS => ?_)
        refine lv_aload_n hx hb dX6_sets_50 rfl (lv_at hl 0 rfl) ?_
        refine va_get (ci := 6) (v := .ref (aD G 22)) (C := RX6) (T := TX6) (N := 7) hx hb hts (fun _ h => List.mem_cons_of_mem _ (List.mem_append_left _ (List.mem_append_left _ (List.mem_append_left _ (List.mem_append_left _ (List.mem_append_left _ (List.mem_append_right _ h))))))) hown hK hP 25 rfl rfl 0 (by decide) (hts (.fieldLink RX6 10 "FillCells" "filling" "LFillCells$Filling;") (List.mem_of_getElem? (i := 3) rfl)) (fun _ h9 => h9) rfl dX6_sets_51 ?_
        refine va_get (ci := 1) (v := .ref (aD G 19)) (C := RX1) (T := TX1) (N := 9) hx hb hts (fun _ h => List.mem_cons_of_mem _ (List.mem_append_left _ (List.mem_append_left _ (List.mem_append_left _ (List.mem_append_left _ (List.mem_append_right _ h)))))) hown hK hP 22 rfl rfl 0 (by decide) (hts (.fieldLink RX6 65 "FillCells$Filling" "field" "LFillCells$Field;") (List.mem_of_getElem? (i := 4) rfl)) (fun _ h9 => h9) rfl dX6_sets_54 ?_
        refine lv_iload_n hx hb dX6_sets_57 rfl (lv_at hl 2 rfl) ?_
        obtain ⟨r6, hC, hE⟩ := bnd_some hE
        refine cr (va_runV (As := [.int x2]) (rest := []) ⟨hx, hb, hml, hown, hts⟩ (c_X0_part l G x2 r5 r6 hC _) (cwV 1 hts gX6_sets_X0_part rfl rfl rfl (by decide +kernel) ⟨Nat.le_of_ble_eq_true rfl, Nat.le_of_ble_eq_true rfl⟩) (preV hK hP hD hS hA hX (va_recv hK hP (ci := 0) (q0 := 19) rfl rfl)) rfl rfl hl.1 rfl (lv_room (Nat.le_of_ble_eq_true rfl)) dX6_sets_58 ⟨Nat.le_of_ble_eq_true rfl, Nat.le_of_ble_eq_true rfl⟩) hD hS hA (fun H locs hP hD hS => ?_)
        obtain ⟨hr6, hE⟩ := gq_some hE
        refine lv_astore (lv' := [(4, .ref (aD G r6)), (0, .ref (aD G 25)), (1, .int x1), (2, .int x2), (3, .int x3)]) hx hb dX6_sets_61 hl (by decide) rfl (fun ls hl => ?_)
        refine lv_aload hx hb dX6_sets_63 (lv_at hl 0 rfl) ?_
        refine lv_iload_n hx hb dX6_sets_65 rfl (lv_at hl 2 rfl) ?_
        obtain ⟨h_i, hE⟩ := gd_some hE
        refine ldC hx hb hK hP r6 hr6 h_i dX6_sets_66 ?_
        refine lv_istore (lv' := [(5, .int (rd r5 r6 x1)), (4, .ref (aD G r6)), (0, .ref (aD G 25)), (1, .int x1), (2, .int x2), (3, .int x3)]) hx hb dX6_sets_67 hl (by decide) rfl (fun ls hl => ?_)
        refine lv_aload hx hb dX6_sets_69 (lv_at hl 1 rfl) ?_
        refine lv_iload_n hx hb dX6_sets_71 rfl (lv_at hl 3 rfl) ?_
        refine lv_iload_n hx hb dX6_sets_72 rfl (lv_at hl 5 rfl) ?_
        obtain ⟨h_i, hE⟩ := gd_some hE
        refine stC hx hb hK hP hD hS r6 hr6 h_i dX6_sets_73 (fun H locs hP hD hS => ?_)
        refine lv_aload_n hx hb dX6_sets_74 rfl (lv_at hl 2 rfl) ?_
        refine va_get (ci := 6) (v := .ref (aD G 22)) (C := RX6) (T := TX6) (N := 7) hx hb hts (fun _ h => List.mem_cons_of_mem _ (List.mem_append_left _ (List.mem_append_left _ (List.mem_append_left _ (List.mem_append_left _ (List.mem_append_left _ (List.mem_append_right _ h))))))) hown hK hP 25 rfl rfl 0 (by decide) (hts (.fieldLink RX6 10 "FillCells" "filling" "LFillCells$Filling;") (List.mem_of_getElem? (i := 3) rfl)) (fun _ h9 => h9) rfl dX6_sets_75 ?_
        refine va_get (ci := 1) (v := .ref (aD G 19)) (C := RX1) (T := TX1) (N := 9) hx hb hts (fun _ h => List.mem_cons_of_mem _ (List.mem_append_left _ (List.mem_append_left _ (List.mem_append_left _ (List.mem_append_left _ (List.mem_append_right _ h)))))) hown hK hP 22 rfl rfl 0 (by decide) (hts (.fieldLink RX6 65 "FillCells$Filling" "field" "LFillCells$Field;") (List.mem_of_getElem? (i := 4) rfl)) (fun _ h9 => h9) rfl dX6_sets_78 ?_
        obtain ⟨r7, hC, hE⟩ := bnd_some hE
        refine cv (va_runV (As := []) (rest := []) ⟨hx, hb, hml, hown, hts⟩ (c_X0_settle l G (sA r5 r6 x1 x3) r7 hC _) (cwV 0 hts gX6_sets_X0_settle rfl rfl rfl (by decide +kernel) ⟨Nat.le_of_ble_eq_true rfl, Nat.le_of_ble_eq_true rfl⟩) (preV hK hP hD hS hA hX (va_recv hK hP (ci := 0) (q0 := 19) rfl rfl)) rfl rfl hl.1 rfl (lv_room (Nat.le_of_ble_eq_true rfl)) dX6_sets_81 ⟨Nat.le_of_ble_eq_true rfl, Nat.le_of_ble_eq_true rfl⟩) hD hS hA (fun H locs hP hD hS => ?_)
        refine lv_aload_n hx hb dX6_sets_84 rfl (lv_at hl 2 rfl) ?_
        refine va_get (ci := 6) (v := .ref (aD G 22)) (C := RX6) (T := TX6) (N := 7) hx hb hts (fun _ h => List.mem_cons_of_mem _ (List.mem_append_left _ (List.mem_append_left _ (List.mem_append_left _ (List.mem_append_left _ (List.mem_append_left _ (List.mem_append_right _ h))))))) hown hK hP 25 rfl rfl 0 (by decide) (hts (.fieldLink RX6 10 "FillCells" "filling" "LFillCells$Filling;") (List.mem_of_getElem? (i := 3) rfl)) (fun _ h9 => h9) rfl dX6_sets_85 ?_
        obtain ⟨r8, hC, hE⟩ := bnd_some hE
        refine cv (va_runV (As := []) (rest := []) ⟨hx, hb, hml, hown, hts⟩ (c_X1_measure l G r7 r8 hC _) (cwV 0 hts gX6_sets_X1_measure rfl rfl rfl (by decide +kernel) ⟨Nat.le_of_ble_eq_true rfl, Nat.le_of_ble_eq_true rfl⟩) (preV hK hP hD hS hA hX (va_recv hK hP (ci := 1) (q0 := 22) rfl rfl)) rfl rfl hl.1 rfl (lv_room (Nat.le_of_ble_eq_true rfl)) dX6_sets_88 ⟨Nat.le_of_ble_eq_true rfl, Nat.le_of_ble_eq_true rfl⟩) hD hS hA (fun H locs hP hD hS => ?_)
        refine lv_aload_n hx hb dX6_sets_91 rfl (lv_at hl 2 rfl) ?_
        refine va_get (ci := 6) (v := .ref (aD G 23)) (C := RX6) (T := TX6) (N := 7) hx hb hts (fun _ h => List.mem_cons_of_mem _ (List.mem_append_left _ (List.mem_append_left _ (List.mem_append_left _ (List.mem_append_left _ (List.mem_append_left _ (List.mem_append_right _ h))))))) hown hK hP 25 rfl rfl 1 (by decide) (hts (.fieldLink RX6 19 "FillCells" "history" "LFillCells$History;") (List.mem_of_getElem? (i := 2) rfl)) (fun _ h9 => h9) rfl dX6_sets_92 ?_
        obtain ⟨r9, hC, hE⟩ := bnd_some hE
        refine cv (va_runV (As := []) (rest := []) ⟨hx, hb, hml, hown, hts⟩ (c_X2_keep l G r8 r9 hC _) (cwV 0 hts gX6_sets_X2_keep rfl rfl rfl (by decide +kernel) ⟨Nat.le_of_ble_eq_true rfl, Nat.le_of_ble_eq_true rfl⟩) (preV hK hP hD hS hA hX (va_recv hK hP (ci := 2) (q0 := 23) rfl rfl)) rfl rfl hl.1 rfl (lv_room (Nat.le_of_ble_eq_true rfl)) dX6_sets_95 ⟨Nat.le_of_ble_eq_true rfl, Nat.le_of_ble_eq_true rfl⟩) hD hS hA (fun H locs hP hD hS => ?_)
        refine lv_iload hx hb dX6_sets_98 (lv_at hl 0 rfl) ?_
        rw [← hQ, ← Option.some.inj hE]
        exact ri hx hb hr hlocks hK hP hD hS dX6_sets_100
      · have hE := ip c_ hE
        exact J_29 σ _ _ _ hP hD hS (lv_sub hl [0] rfl) hE
abbrev rmX6_draw : Room := { frames := 4, cells := 0, slots := 0, locals := 89 }
def f_X6_draw_J20 (σ : St) : Option (Int32 × St) := bnd (f_X6_refuse (-2 : Int32) σ) (fun r2 => some (r2.1, r2.2))
def f_X6_draw (x1 x2 : Int32) (σ : St) : Option (Int32 × St) := bnd (f_X6_isIn x1 (0 : Int32) (999999 : Int32)) (fun r1 => if r1 = 0 then (f_X6_draw_J20 σ) else (bnd (f_X6_isIn x2 (0 : Int32) (9 : Int32)) (fun r3 => if r3 = 0 then (f_X6_draw_J20 σ) else (bnd (f_X2_note σ) (fun r4 => bnd (f_X0_drawShapes x1 x2 r4) (fun r5 => bnd (f_J7_fill_53178 4 (0 : Int32) r5) (fun r6 => bnd (f_X1_measure r6) (fun r7 => bnd (f_X2_keep r7) (fun r8 => bnd (f_X6_total 0 r8) (fun r9 => some (r9, r8)))))))))))
set_option maxHeartbeats 4000000 in
set_option maxRecDepth 100000 in
theorem c_X6_draw (l : Launch) (G : EV)  (x1 x2 : Int32) (σ : St) (r : (Int32 × St)) (hE : f_X6_draw x1 x2 σ = some r) : MetI l G yX6_draw wsX6_draw rmX6_draw [.ref (aD G 25), .int x1, .int x2] (wC G σ) r.1 (wC G r.2) := by
  refine Met.of0 (Qf := PI G r.1 (wC G r.2)) (cc := cX6_draw) (maxL := 3) (ret := (some .int)) (by decide) rfl (Nat.le_of_ble_eq_true rfl) ?_
  intro p e s m below meth c args A hx hb hr hts hown hlocks hml hin0 hA hS hP hK hD hX ls hl
  have hl : lv_has ls 3 [(0, .ref (aD G 25)), (1, .int x1), (2, .int x2)] := hl
  generalize hQ : MQ below (PI G r.1 (wC G r.2) A) args s 0 0 A = Q
  unfold f_X6_draw at hE
  have J_20 : ∀ (σ : St) (H : Heap) (locs : List Loc) (ls : Array Slot), va_P G.1 vwCl (wC G σ) H → va_D A (wC G σ) → va_S A s.heap H locs → lv_has ls 3 [(0, .ref (aD G 25))] → f_X6_draw_J20 σ = some r → W p l e rmX6_draw s m args below meth c H locs 0 0 Q (F0 m 20 ls []) := by
    intro σ H locs ls hP hD hS hl hE
    unfold f_X6_draw_J20 at hE
    refine lv_aload_n hx hb dX6_draw_20 rfl (lv_at hl 0 rfl) ?_
    refine lv_bipush (v := (-2 : Int32)) hx hb dX6_draw_21 (by decide) ?_
    obtain ⟨r2, hC, hE⟩ := bnd_some hE
    refine ci (va_runV (As := [.int (-2 : Int32)]) (rest := []) ⟨hx, hb, hml, hown, hts⟩ (c_X6_refuse l G (-2 : Int32) σ r2 hC _) (cwV 1 hts gX6_draw_X6_refuse rfl rfl rfl (by decide +kernel) ⟨Nat.le_of_ble_eq_true rfl, Nat.le_of_ble_eq_true rfl⟩) (preV hK hP hD hS hA hX (va_recv hK hP (ci := 6) (q0 := 25) rfl rfl)) rfl rfl hl.1 rfl (lv_room (Nat.le_of_ble_eq_true rfl)) dX6_draw_23 ⟨Nat.le_of_ble_eq_true rfl, Nat.le_of_ble_eq_true rfl⟩) hD hS hA (fun H locs hP hD hS => ?_)
    rw [← hQ, ← Option.some.inj hE]
    exact ri hx hb hr hlocks hK hP hD hS dX6_draw_26
  refine lv_iload_n hx hb dX6_draw_0 rfl (lv_at hl 1 rfl) ?_
  refine lv_iconst (v := (0 : Int32)) hx hb dX6_draw_1 (by decide) ?_
  refine lv_ldc (v := (999999 : Int32)) hx hb hown (hts (.constant RX6 88 (999999)) (List.mem_of_getElem? (i := 1) rfl)) dX6_draw_2 ?_
  obtain ⟨r1, hC, hE⟩ := bnd_some hE
  refine ci (va_runS (As := [.int x1, .int (0 : Int32), .int (999999 : Int32)]) (rest := []) ⟨hx, hb, hml, hown, hts⟩ (c_X6_isIn l G x1 (0 : Int32) (999999 : Int32) σ r1 hC _) (va_cwS 3 hts gX6_draw_X6_isIn rfl rfl rfl (by decide +kernel) ⟨Nat.le_of_ble_eq_true rfl, Nat.le_of_ble_eq_true rfl⟩) (preS hK hP hD hS hA hX) rfl rfl hl.1 rfl (lv_room (Nat.le_of_ble_eq_true rfl)) dX6_draw_4 ⟨Nat.le_of_ble_eq_true rfl, Nat.le_of_ble_eq_true rfl⟩) hD hS hA (fun H locs hP hD hS => ?_)
  refine lv_if_eq (tgt := 20) hx hb dX6_draw_7 (by decide) (fun c_ => ?_) (fun c_ => ?_)
  · have hE := ip c_ hE
    exact J_20 σ _ _ _ hP hD hS (lv_sub hl [0] rfl) hE
  · have hE := im c_ hE
    refine lv_iload_n hx hb dX6_draw_10 rfl (lv_at hl 2 rfl) ?_
    refine lv_iconst (v := (0 : Int32)) hx hb dX6_draw_11 (by decide) ?_
    refine lv_bipush (v := (9 : Int32)) hx hb dX6_draw_12 (by decide) ?_
    obtain ⟨r3, hC, hE⟩ := bnd_some hE
    refine ci (va_runS (As := [.int x2, .int (0 : Int32), .int (9 : Int32)]) (rest := []) ⟨hx, hb, hml, hown, hts⟩ (c_X6_isIn l G x2 (0 : Int32) (9 : Int32) σ r3 hC _) (va_cwS 3 hts gX6_draw_X6_isIn rfl rfl rfl (by decide +kernel) ⟨Nat.le_of_ble_eq_true rfl, Nat.le_of_ble_eq_true rfl⟩) (preS hK hP hD hS hA hX) rfl rfl hl.1 rfl (lv_room (Nat.le_of_ble_eq_true rfl)) dX6_draw_14 ⟨Nat.le_of_ble_eq_true rfl, Nat.le_of_ble_eq_true rfl⟩) hD hS hA (fun H locs hP hD hS => ?_)
    refine lv_if_ne (tgt := 27) hx hb dX6_draw_17 (by decide) (fun c_ => ?_) (fun c_ => ?_)
    · have hE := im c_ hE
      refine lv_aload_n hx hb dX6_draw_27 rfl (lv_at hl 0 rfl) ?_
      refine va_get (ci := 6) (v := .ref (aD G 23)) (C := RX6) (T := TX6) (N := 7) hx hb hts (fun _ h => List.mem_cons_of_mem _ (List.mem_append_left _ (List.mem_append_left _ (List.mem_append_left _ (List.mem_append_left _ (List.mem_append_left _ (List.mem_append_right _ h))))))) hown hK hP 25 rfl rfl 1 (by decide) (hts (.fieldLink RX6 19 "FillCells" "history" "LFillCells$History;") (List.mem_of_getElem? (i := 2) rfl)) (fun _ h9 => h9) rfl dX6_draw_28 ?_
      refine lv_aload_n hx hb dX6_draw_31 rfl (lv_at hl 0 rfl) ?_
      refine va_get (ci := 6) (v := .ref (aD G 22)) (C := RX6) (T := TX6) (N := 7) hx hb hts (fun _ h => List.mem_cons_of_mem _ (List.mem_append_left _ (List.mem_append_left _ (List.mem_append_left _ (List.mem_append_left _ (List.mem_append_left _ (List.mem_append_right _ h))))))) hown hK hP 25 rfl rfl 0 (by decide) (hts (.fieldLink RX6 10 "FillCells" "filling" "LFillCells$Filling;") (List.mem_of_getElem? (i := 3) rfl)) (fun _ h9 => h9) rfl dX6_draw_32 ?_
      refine va_get (ci := 1) (v := .ref (aD G 19)) (C := RX1) (T := TX1) (N := 9) hx hb hts (fun _ h => List.mem_cons_of_mem _ (List.mem_append_left _ (List.mem_append_left _ (List.mem_append_left _ (List.mem_append_left _ (List.mem_append_right _ h)))))) hown hK hP 22 rfl rfl 0 (by decide) (hts (.fieldLink RX6 65 "FillCells$Filling" "field" "LFillCells$Field;") (List.mem_of_getElem? (i := 4) rfl)) (fun _ h9 => h9) rfl dX6_draw_35 ?_
      obtain ⟨r4, hC, hE⟩ := bnd_some hE
      refine cv (va_runV (As := [.ref (aD G 19)]) (rest := []) ⟨hx, hb, hml, hown, hts⟩ (c_X2_note l G σ r4 hC _) (cwV 1 hts gX6_draw_X2_note rfl rfl rfl (by decide +kernel) ⟨Nat.le_of_ble_eq_true rfl, Nat.le_of_ble_eq_true rfl⟩) (preV hK hP hD hS hA hX (va_recv hK hP (ci := 2) (q0 := 23) rfl rfl)) rfl rfl hl.1 rfl (lv_room (Nat.le_of_ble_eq_true rfl)) dX6_draw_38 ⟨Nat.le_of_ble_eq_true rfl, Nat.le_of_ble_eq_true rfl⟩) hD hS hA (fun H locs hP hD hS => ?_)
      refine lv_aload_n hx hb dX6_draw_41 rfl (lv_at hl 0 rfl) ?_
      refine va_get (ci := 6) (v := .ref (aD G 22)) (C := RX6) (T := TX6) (N := 7) hx hb hts (fun _ h => List.mem_cons_of_mem _ (List.mem_append_left _ (List.mem_append_left _ (List.mem_append_left _ (List.mem_append_left _ (List.mem_append_left _ (List.mem_append_right _ h))))))) hown hK hP 25 rfl rfl 0 (by decide) (hts (.fieldLink RX6 10 "FillCells" "filling" "LFillCells$Filling;") (List.mem_of_getElem? (i := 3) rfl)) (fun _ h9 => h9) rfl dX6_draw_42 ?_
      refine va_get (ci := 1) (v := .ref (aD G 19)) (C := RX1) (T := TX1) (N := 9) hx hb hts (fun _ h => List.mem_cons_of_mem _ (List.mem_append_left _ (List.mem_append_left _ (List.mem_append_left _ (List.mem_append_left _ (List.mem_append_right _ h)))))) hown hK hP 22 rfl rfl 0 (by decide) (hts (.fieldLink RX6 65 "FillCells$Filling" "field" "LFillCells$Field;") (List.mem_of_getElem? (i := 4) rfl)) (fun _ h9 => h9) rfl dX6_draw_45 ?_
      refine lv_iload_n hx hb dX6_draw_48 rfl (lv_at hl 1 rfl) ?_
      refine lv_iload_n hx hb dX6_draw_49 rfl (lv_at hl 2 rfl) ?_
      obtain ⟨r5, hC, hE⟩ := bnd_some hE
      refine cv (va_runV (As := [.int x1, .int x2]) (rest := []) ⟨hx, hb, hml, hown, hts⟩ (c_X0_drawShapes l G x1 x2 r4 r5 hC _) (cwV 2 hts gX6_draw_X0_drawShapes rfl rfl rfl (by decide +kernel) ⟨Nat.le_of_ble_eq_true rfl, Nat.le_of_ble_eq_true rfl⟩) (preV hK hP hD hS hA hX (va_recv hK hP (ci := 0) (q0 := 19) rfl rfl)) rfl rfl hl.1 rfl (lv_room (Nat.le_of_ble_eq_true rfl)) dX6_draw_50 ⟨Nat.le_of_ble_eq_true rfl, Nat.le_of_ble_eq_true rfl⟩) hD hS hA (fun H locs hP hD hS => ?_)
      refine lv_aload_n hx hb dX6_draw_53 rfl (lv_at hl 0 rfl) ?_
      refine va_get (ci := 6) (v := .ref (aD G 22)) (C := RX6) (T := TX6) (N := 7) hx hb hts (fun _ h => List.mem_cons_of_mem _ (List.mem_append_left _ (List.mem_append_left _ (List.mem_append_left _ (List.mem_append_left _ (List.mem_append_left _ (List.mem_append_right _ h))))))) hown hK hP 25 rfl rfl 0 (by decide) (hts (.fieldLink RX6 10 "FillCells" "filling" "LFillCells$Filling;") (List.mem_of_getElem? (i := 3) rfl)) (fun _ h9 => h9) rfl dX6_draw_54 ?_
      refine va_get (ci := 1) (v := .ref (aD G 19)) (C := RX1) (T := TX1) (N := 9) hx hb hts (fun _ h => List.mem_cons_of_mem _ (List.mem_append_left _ (List.mem_append_left _ (List.mem_append_left _ (List.mem_append_left _ (List.mem_append_right _ h)))))) hown hK hP 22 rfl rfl 0 (by decide) (hts (.fieldLink RX6 65 "FillCells$Filling" "field" "LFillCells$Field;") (List.mem_of_getElem? (i := 4) rfl)) (fun _ h9 => h9) rfl dX6_draw_57 ?_
      refine va_get (ci := 0) (v := .ref (aD G 4)) (C := RX0) (T := TX0) (N := 5) hx hb hts (fun _ h => List.mem_cons_of_mem _ (List.mem_append_left _ (List.mem_append_left _ (List.mem_append_left _ (List.mem_append_right _ h))))) hown hK hP 19 rfl rfl 4 (by decide) (hts (.fieldLink RX6 93 "FillCells$Field" "fill" "[I") (List.mem_of_getElem? (i := 5) rfl)) (fun _ h9 => h9) rfl dX6_draw_60 ?_
      refine lv_iconst (v := (0 : Int32)) hx hb dX6_draw_63 (by decide) ?_
      obtain ⟨r6, hC, hE⟩ := bnd_some hE
      refine cv (va_runS (As := [.ref (aD G 4), .int (0 : Int32)]) (rest := []) ⟨hx, hb, hml, hown, hts⟩ (c_J7_fill_53178 l G 4 (by decide) (0 : Int32) r5 r6 hC _) (va_cwS 2 hts gX6_draw_J7_fill_53178 rfl rfl rfl (by decide +kernel) ⟨Nat.le_of_ble_eq_true rfl, Nat.le_of_ble_eq_true rfl⟩) (preS hK hP hD hS hA hX) rfl rfl hl.1 rfl (lv_room (Nat.le_of_ble_eq_true rfl)) dX6_draw_64 ⟨Nat.le_of_ble_eq_true rfl, Nat.le_of_ble_eq_true rfl⟩) hD hS hA (fun H locs hP hD hS => ?_)
      refine lv_aload_n hx hb dX6_draw_67 rfl (lv_at hl 0 rfl) ?_
      refine va_get (ci := 6) (v := .ref (aD G 22)) (C := RX6) (T := TX6) (N := 7) hx hb hts (fun _ h => List.mem_cons_of_mem _ (List.mem_append_left _ (List.mem_append_left _ (List.mem_append_left _ (List.mem_append_left _ (List.mem_append_left _ (List.mem_append_right _ h))))))) hown hK hP 25 rfl rfl 0 (by decide) (hts (.fieldLink RX6 10 "FillCells" "filling" "LFillCells$Filling;") (List.mem_of_getElem? (i := 3) rfl)) (fun _ h9 => h9) rfl dX6_draw_68 ?_
      obtain ⟨r7, hC, hE⟩ := bnd_some hE
      refine cv (va_runV (As := []) (rest := []) ⟨hx, hb, hml, hown, hts⟩ (c_X1_measure l G r6 r7 hC _) (cwV 0 hts gX6_draw_X1_measure rfl rfl rfl (by decide +kernel) ⟨Nat.le_of_ble_eq_true rfl, Nat.le_of_ble_eq_true rfl⟩) (preV hK hP hD hS hA hX (va_recv hK hP (ci := 1) (q0 := 22) rfl rfl)) rfl rfl hl.1 rfl (lv_room (Nat.le_of_ble_eq_true rfl)) dX6_draw_71 ⟨Nat.le_of_ble_eq_true rfl, Nat.le_of_ble_eq_true rfl⟩) hD hS hA (fun H locs hP hD hS => ?_)
      refine lv_aload_n hx hb dX6_draw_74 rfl (lv_at hl 0 rfl) ?_
      refine va_get (ci := 6) (v := .ref (aD G 23)) (C := RX6) (T := TX6) (N := 7) hx hb hts (fun _ h => List.mem_cons_of_mem _ (List.mem_append_left _ (List.mem_append_left _ (List.mem_append_left _ (List.mem_append_left _ (List.mem_append_left _ (List.mem_append_right _ h))))))) hown hK hP 25 rfl rfl 1 (by decide) (hts (.fieldLink RX6 19 "FillCells" "history" "LFillCells$History;") (List.mem_of_getElem? (i := 2) rfl)) (fun _ h9 => h9) rfl dX6_draw_75 ?_
      obtain ⟨r8, hC, hE⟩ := bnd_some hE
      refine cv (va_runV (As := []) (rest := []) ⟨hx, hb, hml, hown, hts⟩ (c_X2_keep l G r7 r8 hC _) (cwV 0 hts gX6_draw_X2_keep rfl rfl rfl (by decide +kernel) ⟨Nat.le_of_ble_eq_true rfl, Nat.le_of_ble_eq_true rfl⟩) (preV hK hP hD hS hA hX (va_recv hK hP (ci := 2) (q0 := 23) rfl rfl)) rfl rfl hl.1 rfl (lv_room (Nat.le_of_ble_eq_true rfl)) dX6_draw_78 ⟨Nat.le_of_ble_eq_true rfl, Nat.le_of_ble_eq_true rfl⟩) hD hS hA (fun H locs hP hD hS => ?_)
      refine lv_aload_n hx hb dX6_draw_81 rfl (lv_at hl 0 rfl) ?_
      refine va_get (ci := 6) (v := .ref (aD G 22)) (C := RX6) (T := TX6) (N := 7) hx hb hts (fun _ h => List.mem_cons_of_mem _ (List.mem_append_left _ (List.mem_append_left _ (List.mem_append_left _ (List.mem_append_left _ (List.mem_append_left _ (List.mem_append_right _ h))))))) hown hK hP 25 rfl rfl 0 (by decide) (hts (.fieldLink RX6 10 "FillCells" "filling" "LFillCells$Filling;") (List.mem_of_getElem? (i := 3) rfl)) (fun _ h9 => h9) rfl dX6_draw_82 ?_
      refine va_get (ci := 1) (v := .ref (aD G 19)) (C := RX1) (T := TX1) (N := 9) hx hb hts (fun _ h => List.mem_cons_of_mem _ (List.mem_append_left _ (List.mem_append_left _ (List.mem_append_left _ (List.mem_append_left _ (List.mem_append_right _ h)))))) hown hK hP 22 rfl rfl 0 (by decide) (hts (.fieldLink RX6 65 "FillCells$Filling" "field" "LFillCells$Field;") (List.mem_of_getElem? (i := 4) rfl)) (fun _ h9 => h9) rfl dX6_draw_85 ?_
      refine va_get (ci := 0) (v := .ref (aD G 0)) (C := RX0) (T := TX0) (N := 5) hx hb hts (fun _ h => List.mem_cons_of_mem _ (List.mem_append_left _ (List.mem_append_left _ (List.mem_append_left _ (List.mem_append_right _ h))))) hown hK hP 19 rfl rfl 0 (by decide) (hts (.fieldLink RX6 101 "FillCells$Field" "shapes" "[I") (List.mem_of_getElem? (i := 6) rfl)) (fun _ h9 => h9) rfl dX6_draw_88 ?_
      obtain ⟨r9, hC, hE⟩ := bnd_some hE
      refine ci (va_runS (As := [.ref (aD G 0)]) (rest := []) ⟨hx, hb, hml, hown, hts⟩ (c_X6_total l G 0 (by decide) r8 r9 hC _) (va_cwS 1 hts gX6_draw_X6_total rfl rfl rfl (by decide +kernel) ⟨Nat.le_of_ble_eq_true rfl, Nat.le_of_ble_eq_true rfl⟩) (preS hK hP hD hS hA hX) rfl rfl hl.1 rfl (lv_room (Nat.le_of_ble_eq_true rfl)) dX6_draw_91 ⟨Nat.le_of_ble_eq_true rfl, Nat.le_of_ble_eq_true rfl⟩) hD hS hA (fun H locs hP hD hS => ?_)
      rw [← hQ, ← Option.some.inj hE]
      exact ri hx hb hr hlocks hK hP hD hS dX6_draw_94
    · have hE := ip c_ hE
      exact J_20 σ _ _ _ hP hD hS (lv_sub hl [0] rfl) hE
abbrev rmX6_empties : Room := { frames := 4, cells := 0, slots := 0, locals := 89 }

def f_X6_empties (σ : St) : Option (Int32 × St) := bnd (f_X2_note σ) (fun r1 => bnd (f_X6_total 4 r1) (fun r2 => bnd (f_J7_fill_53178 4 (0 : Int32) r1) (fun r3 => bnd (f_X1_measure r3) (fun r4 => bnd (f_X2_keep r4) (fun r5 => some (r2, r5))))))
set_option maxHeartbeats 4000000 in
set_option maxRecDepth 100000 in
theorem c_X6_empties (l : Launch) (G : EV)   (σ : St) (r : (Int32 × St)) (hE : f_X6_empties σ = some r) : MetI l G yX6_empties wsX6_empties rmX6_empties [.ref (aD G 25)] (wC G σ) r.1 (wC G r.2) := by
  refine Met.of0 (Qf := PI G r.1 (wC G r.2)) (cc := cX6_empties) (maxL := 2) (ret := (some .int)) (by decide) rfl (Nat.le_of_ble_eq_true rfl) ?_
  intro p e s m below meth c args A hx hb hr hts hown hlocks hml hin0 hA hS hP hK hD hX ls hl
  have hl : lv_has ls 2 [(0, .ref (aD G 25))] := hl
  generalize hQ : MQ below (PI G r.1 (wC G r.2) A) args s 0 0 A = Q
  unfold f_X6_empties at hE
  refine lv_aload_n hx hb dX6_empties_0 rfl (lv_at hl 0 rfl) ?_
  refine va_get (ci := 6) (v := .ref (aD G 23)) (C := RX6) (T := TX6) (N := 7) hx hb hts (fun _ h => List.mem_cons_of_mem _ (List.mem_append_left _ (List.mem_append_left _ (List.mem_append_left _ (List.mem_append_left _ (List.mem_append_left _ (List.mem_append_right _ h))))))) hown hK hP 25 rfl rfl 1 (by decide) (hts (.fieldLink RX6 19 "FillCells" "history" "LFillCells$History;") (List.mem_of_getElem? (i := 1) rfl)) (fun _ h9 => h9) rfl dX6_empties_1 ?_
  refine lv_aload_n hx hb dX6_empties_4 rfl (lv_at hl 0 rfl) ?_
  refine va_get (ci := 6) (v := .ref (aD G 22)) (C := RX6) (T := TX6) (N := 7) hx hb hts (fun _ h => List.mem_cons_of_mem _ (List.mem_append_left _ (List.mem_append_left _ (List.mem_append_left _ (List.mem_append_left _ (List.mem_append_left _ (List.mem_append_right _ h))))))) hown hK hP 25 rfl rfl 0 (by decide) (hts (.fieldLink RX6 10 "FillCells" "filling" "LFillCells$Filling;") (List.mem_of_getElem? (i := 2) rfl)) (fun _ h9 => h9) rfl dX6_empties_5 ?_
  refine va_get (ci := 1) (v := .ref (aD G 19)) (C := RX1) (T := TX1) (N := 9) hx hb hts (fun _ h => List.mem_cons_of_mem _ (List.mem_append_left _ (List.mem_append_left _ (List.mem_append_left _ (List.mem_append_left _ (List.mem_append_right _ h)))))) hown hK hP 22 rfl rfl 0 (by decide) (hts (.fieldLink RX6 65 "FillCells$Filling" "field" "LFillCells$Field;") (List.mem_of_getElem? (i := 3) rfl)) (fun _ h9 => h9) rfl dX6_empties_8 ?_
  obtain ⟨r1, hC, hE⟩ := bnd_some hE
  refine cv (va_runV (As := [.ref (aD G 19)]) (rest := []) ⟨hx, hb, hml, hown, hts⟩ (c_X2_note l G σ r1 hC _) (cwV 1 hts gX6_empties_X2_note rfl rfl rfl (by decide +kernel) ⟨Nat.le_of_ble_eq_true rfl, Nat.le_of_ble_eq_true rfl⟩) (preV hK hP hD hS hA hX (va_recv hK hP (ci := 2) (q0 := 23) rfl rfl)) rfl rfl hl.1 rfl (lv_room (Nat.le_of_ble_eq_true rfl)) dX6_empties_11 ⟨Nat.le_of_ble_eq_true rfl, Nat.le_of_ble_eq_true rfl⟩) hD hS hA (fun H locs hP hD hS => ?_)
  refine lv_aload_n hx hb dX6_empties_14 rfl (lv_at hl 0 rfl) ?_
  refine va_get (ci := 6) (v := .ref (aD G 22)) (C := RX6) (T := TX6) (N := 7) hx hb hts (fun _ h => List.mem_cons_of_mem _ (List.mem_append_left _ (List.mem_append_left _ (List.mem_append_left _ (List.mem_append_left _ (List.mem_append_left _ (List.mem_append_right _ h))))))) hown hK hP 25 rfl rfl 0 (by decide) (hts (.fieldLink RX6 10 "FillCells" "filling" "LFillCells$Filling;") (List.mem_of_getElem? (i := 2) rfl)) (fun _ h9 => h9) rfl dX6_empties_15 ?_
  refine va_get (ci := 1) (v := .ref (aD G 19)) (C := RX1) (T := TX1) (N := 9) hx hb hts (fun _ h => List.mem_cons_of_mem _ (List.mem_append_left _ (List.mem_append_left _ (List.mem_append_left _ (List.mem_append_left _ (List.mem_append_right _ h)))))) hown hK hP 22 rfl rfl 0 (by decide) (hts (.fieldLink RX6 65 "FillCells$Filling" "field" "LFillCells$Field;") (List.mem_of_getElem? (i := 3) rfl)) (fun _ h9 => h9) rfl dX6_empties_18 ?_
  refine va_get (ci := 0) (v := .ref (aD G 4)) (C := RX0) (T := TX0) (N := 5) hx hb hts (fun _ h => List.mem_cons_of_mem _ (List.mem_append_left _ (List.mem_append_left _ (List.mem_append_left _ (List.mem_append_right _ h))))) hown hK hP 19 rfl rfl 4 (by decide) (hts (.fieldLink RX6 93 "FillCells$Field" "fill" "[I") (List.mem_of_getElem? (i := 4) rfl)) (fun _ h9 => h9) rfl dX6_empties_21 ?_
  obtain ⟨r2, hC, hE⟩ := bnd_some hE
  refine ci (va_runS (As := [.ref (aD G 4)]) (rest := []) ⟨hx, hb, hml, hown, hts⟩ (c_X6_total l G 4 (by decide) r1 r2 hC _) (va_cwS 1 hts gX6_empties_X6_total rfl rfl rfl (by decide +kernel) ⟨Nat.le_of_ble_eq_true rfl, Nat.le_of_ble_eq_true rfl⟩) (preS hK hP hD hS hA hX) rfl rfl hl.1 rfl (lv_room (Nat.le_of_ble_eq_true rfl)) dX6_empties_24 ⟨Nat.le_of_ble_eq_true rfl, Nat.le_of_ble_eq_true rfl⟩) hD hS hA (fun H locs hP hD hS => ?_)
  refine lv_istore_n (lv' := [(1, .int r2), (0, .ref (aD G 25))]) hx hb dX6_empties_27 rfl hl (by decide) rfl (fun ls hl => ?_)
  refine lv_aload_n hx hb dX6_empties_28 rfl (lv_at hl 1 rfl) ?_
  refine va_get (ci := 6) (v := .ref (aD G 22)) (C := RX6) (T := TX6) (N := 7) hx hb hts (fun _ h => List.mem_cons_of_mem _ (List.mem_append_left _ (List.mem_append_left _ (List.mem_append_left _ (List.mem_append_left _ (List.mem_append_left _ (List.mem_append_right _ h))))))) hown hK hP 25 rfl rfl 0 (by decide) (hts (.fieldLink RX6 10 "FillCells" "filling" "LFillCells$Filling;") (List.mem_of_getElem? (i := 2) rfl)) (fun _ h9 => h9) rfl dX6_empties_29 ?_
  refine va_get (ci := 1) (v := .ref (aD G 19)) (C := RX1) (T := TX1) (N := 9) hx hb hts (fun _ h => List.mem_cons_of_mem _ (List.mem_append_left _ (List.mem_append_left _ (List.mem_append_left _ (List.mem_append_left _ (List.mem_append_right _ h)))))) hown hK hP 22 rfl rfl 0 (by decide) (hts (.fieldLink RX6 65 "FillCells$Filling" "field" "LFillCells$Field;") (List.mem_of_getElem? (i := 3) rfl)) (fun _ h9 => h9) rfl dX6_empties_32 ?_
  refine va_get (ci := 0) (v := .ref (aD G 4)) (C := RX0) (T := TX0) (N := 5) hx hb hts (fun _ h => List.mem_cons_of_mem _ (List.mem_append_left _ (List.mem_append_left _ (List.mem_append_left _ (List.mem_append_right _ h))))) hown hK hP 19 rfl rfl 4 (by decide) (hts (.fieldLink RX6 93 "FillCells$Field" "fill" "[I") (List.mem_of_getElem? (i := 4) rfl)) (fun _ h9 => h9) rfl dX6_empties_35 ?_
  refine lv_iconst (v := (0 : Int32)) hx hb dX6_empties_38 (by decide) ?_
  obtain ⟨r3, hC, hE⟩ := bnd_some hE
  refine cv (va_runS (As := [.ref (aD G 4), .int (0 : Int32)]) (rest := []) ⟨hx, hb, hml, hown, hts⟩ (c_J7_fill_53178 l G 4 (by decide) (0 : Int32) r1 r3 hC _) (va_cwS 2 hts gX6_empties_J7_fill_53178 rfl rfl rfl (by decide +kernel) ⟨Nat.le_of_ble_eq_true rfl, Nat.le_of_ble_eq_true rfl⟩) (preS hK hP hD hS hA hX) rfl rfl hl.1 rfl (lv_room (Nat.le_of_ble_eq_true rfl)) dX6_empties_39 ⟨Nat.le_of_ble_eq_true rfl, Nat.le_of_ble_eq_true rfl⟩) hD hS hA (fun H locs hP hD hS => ?_)
  refine lv_aload_n hx hb dX6_empties_42 rfl (lv_at hl 1 rfl) ?_
  refine va_get (ci := 6) (v := .ref (aD G 22)) (C := RX6) (T := TX6) (N := 7) hx hb hts (fun _ h => List.mem_cons_of_mem _ (List.mem_append_left _ (List.mem_append_left _ (List.mem_append_left _ (List.mem_append_left _ (List.mem_append_left _ (List.mem_append_right _ h))))))) hown hK hP 25 rfl rfl 0 (by decide) (hts (.fieldLink RX6 10 "FillCells" "filling" "LFillCells$Filling;") (List.mem_of_getElem? (i := 2) rfl)) (fun _ h9 => h9) rfl dX6_empties_43 ?_
  obtain ⟨r4, hC, hE⟩ := bnd_some hE
  refine cv (va_runV (As := []) (rest := []) ⟨hx, hb, hml, hown, hts⟩ (c_X1_measure l G r3 r4 hC _) (cwV 0 hts gX6_empties_X1_measure rfl rfl rfl (by decide +kernel) ⟨Nat.le_of_ble_eq_true rfl, Nat.le_of_ble_eq_true rfl⟩) (preV hK hP hD hS hA hX (va_recv hK hP (ci := 1) (q0 := 22) rfl rfl)) rfl rfl hl.1 rfl (lv_room (Nat.le_of_ble_eq_true rfl)) dX6_empties_46 ⟨Nat.le_of_ble_eq_true rfl, Nat.le_of_ble_eq_true rfl⟩) hD hS hA (fun H locs hP hD hS => ?_)
  refine lv_aload_n hx hb dX6_empties_49 rfl (lv_at hl 1 rfl) ?_
  refine va_get (ci := 6) (v := .ref (aD G 23)) (C := RX6) (T := TX6) (N := 7) hx hb hts (fun _ h => List.mem_cons_of_mem _ (List.mem_append_left _ (List.mem_append_left _ (List.mem_append_left _ (List.mem_append_left _ (List.mem_append_left _ (List.mem_append_right _ h))))))) hown hK hP 25 rfl rfl 1 (by decide) (hts (.fieldLink RX6 19 "FillCells" "history" "LFillCells$History;") (List.mem_of_getElem? (i := 1) rfl)) (fun _ h9 => h9) rfl dX6_empties_50 ?_
  obtain ⟨r5, hC, hE⟩ := bnd_some hE
  refine cv (va_runV (As := []) (rest := []) ⟨hx, hb, hml, hown, hts⟩ (c_X2_keep l G r4 r5 hC _) (cwV 0 hts gX6_empties_X2_keep rfl rfl rfl (by decide +kernel) ⟨Nat.le_of_ble_eq_true rfl, Nat.le_of_ble_eq_true rfl⟩) (preV hK hP hD hS hA hX (va_recv hK hP (ci := 2) (q0 := 23) rfl rfl)) rfl rfl hl.1 rfl (lv_room (Nat.le_of_ble_eq_true rfl)) dX6_empties_53 ⟨Nat.le_of_ble_eq_true rfl, Nat.le_of_ble_eq_true rfl⟩) hD hS hA (fun H locs hP hD hS => ?_)
  refine lv_iload_n hx hb dX6_empties_56 rfl (lv_at hl 0 rfl) ?_
  rw [← hQ, ← Option.some.inj hE]
  exact ri hx hb hr hlocks hK hP hD hS dX6_empties_57
abbrev rmX6_useSettings : Room := { frames := 4, cells := 0, slots := 0, locals := 89 }
def f_X6_useSettings_J81 (σ : St) : Option St := bnd (f_X1_measure σ) (fun r1 => some r1)
def f_X6_useSettings_L50  (v50 : Int32 × St) : Option (((St)) ⊕ (Int32 × St)) := if (4 : Int32) ≤ v50.1 then (some (.inl (v50.2))) else (gd ((3 : Int32) + v50.1) 8 (gd v50.1 4 (some (.inr ((v50.1 + (1 : Int32)), (sA v50.2 9 v50.1 (rd v50.2 17 ((3 : Int32) + v50.1))))))))
def f_X6_useSettings_J50 (x2 : Int32) (σ : St) : Option St := bnd (loopN (f_X6_useSettings_L50 ) 4096 (x2, σ)) (fun y50 => f_X6_useSettings_J81 y50)
def f_X6_useSettings (σ : St) : Option St := gd (0 : Int32) 8 (gd (1 : Int32) 8 (gd (2 : Int32) 8 (gd (3 : Int32) 8 (f_X6_useSettings_J50 (1 : Int32) (sI (sI (sI (sI σ 6 (rd σ 17 (0 : Int32))) 7 (rd (sI σ 6 (rd σ 17 (0 : Int32))) 17 (1 : Int32))) 8 (rd (sI (sI σ 6 (rd σ 17 (0 : Int32))) 7 (rd (sI σ 6 (rd σ 17 (0 : Int32))) 17 (1 : Int32))) 17 (2 : Int32))) 9 (rd (sI (sI (sI σ 6 (rd σ 17 (0 : Int32))) 7 (rd (sI σ 6 (rd σ 17 (0 : Int32))) 17 (1 : Int32))) 8 (rd (sI (sI σ 6 (rd σ 17 (0 : Int32))) 7 (rd (sI σ 6 (rd σ 17 (0 : Int32))) 17 (1 : Int32))) 17 (2 : Int32))) 17 (3 : Int32)))))))
set_option maxHeartbeats 4000000 in
set_option maxRecDepth 100000 in
theorem c_X6_useSettings (l : Launch) (G : EV)   (σ : St) (r : St) (hE : f_X6_useSettings σ = some r) : MetV l G yX6_useSettings wsX6_useSettings rmX6_useSettings [.ref (aD G 25)] (wC G σ) (wC G r) := by
  refine Met.of0 (Qf := PV G (wC G r)) (cc := cX6_useSettings) (maxL := 3) (ret := none) (by decide) rfl (Nat.le_of_ble_eq_true rfl) ?_
  intro p e s m below meth c args A hx hb hr hts hown hlocks hml hin0 hA hS hP hK hD hX ls hl
  have hl : lv_has ls 3 [(0, .ref (aD G 25))] := hl
  generalize hQ : MQ below (PV G (wC G r) A) args s 0 0 A = Q
  unfold f_X6_useSettings at hE
  have J_81 : ∀ (σ : St) (H : Heap) (locs : List Loc) (ls : Array Slot), va_P G.1 vwCl (wC G σ) H → va_D A (wC G σ) → va_S A s.heap H locs → lv_has ls 3 [(0, .ref (aD G 25))] → f_X6_useSettings_J81 σ = some r → W p l e rmX6_useSettings s m args below meth c H locs 0 0 Q (F0 m 81 ls []) := by
    intro σ H locs ls hP hD hS hl hE
    unfold f_X6_useSettings_J81 at hE
    refine lv_aload_n hx hb dX6_useSettings_81 rfl (lv_at hl 0 rfl) ?_
    refine va_get (ci := 6) (v := .ref (aD G 22)) (C := RX6) (T := TX6) (N := 7) hx hb hts (fun _ h => List.mem_cons_of_mem _ (List.mem_append_left _ (List.mem_append_left _ (List.mem_append_left _ (List.mem_append_left _ (List.mem_append_right _ h)))))) hown hK hP 25 rfl rfl 0 (by decide) (hts (.fieldLink RX6 10 "FillCells" "filling" "LFillCells$Filling;") (List.mem_of_getElem? (i := 1) rfl)) (fun _ h9 => h9) rfl dX6_useSettings_82 ?_
    obtain ⟨r1, hC, hE⟩ := bnd_some hE
    refine cv (va_runV (As := []) (rest := []) ⟨hx, hb, hml, hown, hts⟩ (c_X1_measure l G σ r1 hC _) (cwV 0 hts gX6_useSettings_X1_measure rfl rfl rfl (by decide +kernel) ⟨Nat.le_of_ble_eq_true rfl, Nat.le_of_ble_eq_true rfl⟩) (preV hK hP hD hS hA hX (va_recv hK hP (ci := 1) (q0 := 22) rfl rfl)) rfl rfl hl.1 rfl (lv_room (Nat.le_of_ble_eq_true rfl)) dX6_useSettings_85 ⟨Nat.le_of_ble_eq_true rfl, Nat.le_of_ble_eq_true rfl⟩) hD hS hA (fun H locs hP hD hS => ?_)
    rw [← hQ, ← Option.some.inj hE]
    exact rv hx hb hr hlocks hK hP hD hS dX6_useSettings_88
  have J_50 : ∀ (x2 : Int32) (σ : St) (H : Heap) (locs : List Loc) (ls : Array Slot), va_P G.1 vwCl (wC G σ) H → va_D A (wC G σ) → va_S A s.heap H locs → lv_has ls 3 [(0, .ref (aD G 25)), (2, .int x2)] → f_X6_useSettings_J50 x2 σ = some r → W p l e rmX6_useSettings s m args below meth c H locs 0 0 Q (F0 m 50 ls []) := by
    intro x2 σ H locs ls hP hD hS hl hE
    unfold f_X6_useSettings_J50 at hE
    obtain ⟨y50, hL, hE50⟩ := bnd_some hE
    refine loop_W (body := f_X6_useSettings_L50 ) (y := y50) (P := fun v50 => ∀ (H : Heap) (locs : List Loc) (ls : Array Slot), va_P G.1 vwCl (wC G v50.2) H → va_D A (wC G v50.2) → va_S A s.heap H locs → lv_has ls 3 [(0, .ref (aD G 25)), (2, .int v50.1)] → W p l e rmX6_useSettings s m args below meth c H locs 0 0 Q (F0 m 50 ls [])) ?_ _ _ hL H locs ls hP hD hS hl
    clear hP hD hS hl hE hL
    intro v50 t50 hE hN50 hY50
    intro H locs ls hP hD hS hl
    unfold f_X6_useSettings_L50 at hE
    refine lv_iload_n hx hb dX6_useSettings_50 rfl (lv_at hl 1 rfl) ?_
    refine lv_iconst (v := (4 : Int32)) hx hb dX6_useSettings_51 (by decide) ?_
    refine lv_icmp_ge (tgt := 81) hx hb dX6_useSettings_52 (by decide) (fun c_ => ?_) (fun c_ => ?_)
    · have hE := ip c_ hE
      have e9 := hY50 _ (Option.some.inj hE).symm
      have hE := hE50
      rw [← e9] at hE
      exact J_81 v50.2 _ _ _ hP hD hS (lv_sub hl [0] rfl) hE
    · have hE := im c_ hE
      refine lv_aload_n hx hb dX6_useSettings_55 rfl (lv_at hl 0 rfl) ?_
      refine va_get (ci := 6) (v := .ref (aD G 22)) (C := RX6) (T := TX6) (N := 7) hx hb hts (fun _ h => List.mem_cons_of_mem _ (List.mem_append_left _ (List.mem_append_left _ (List.mem_append_left _ (List.mem_append_left _ (List.mem_append_right _ h)))))) hown hK hP 25 rfl rfl 0 (by decide) (hts (.fieldLink RX6 10 "FillCells" "filling" "LFillCells$Filling;") (List.mem_of_getElem? (i := 1) rfl)) (fun _ h9 => h9) rfl dX6_useSettings_56 ?_
      refine va_get (ci := 1) (v := .ref (aD G 21)) (C := RX1) (T := TX1) (N := 9) hx hb hts (fun _ h => List.mem_cons_of_mem _ (List.mem_append_left _ (List.mem_append_left _ (List.mem_append_left _ (List.mem_append_right _ h))))) hown hK hP 22 rfl rfl 2 (by decide) (hts (.fieldLink RX6 157 "FillCells$Filling" "nets" "LFillCells$Nets;") (List.mem_of_getElem? (i := 8) rfl)) (fun _ h9 => h9) rfl dX6_useSettings_59 ?_
      refine va_get (ci := 3) (v := .ref (aD G 9)) (C := RX3) (T := TX3) (N := 4) hx hb hts (fun _ h => List.mem_cons_of_mem _ (List.mem_append_left _ (List.mem_append_right _ h))) hown hK hP 21 rfl rfl 0 (by decide) (hts (.fieldLink RX6 233 "FillCells$Nets" "limits" "[I") (List.mem_of_getElem? (i := 9) rfl)) (fun _ h9 => h9) rfl dX6_useSettings_62 ?_
      refine lv_iload_n hx hb dX6_useSettings_65 rfl (lv_at hl 1 rfl) ?_
      refine lv_aload_n hx hb dX6_useSettings_66 rfl (lv_at hl 0 rfl) ?_
      refine va_get (ci := 6) (v := .ref (aD G 17)) (C := RX6) (T := TX6) (N := 7) hx hb hts (fun _ h => List.mem_cons_of_mem _ (List.mem_append_left _ (List.mem_append_left _ (List.mem_append_left _ (List.mem_append_left _ (List.mem_append_right _ h)))))) hown hK hP 25 rfl rfl 3 (by decide) (hts (.fieldLink RX6 30 "FillCells" "settings" "[I") (List.mem_of_getElem? (i := 3) rfl)) (fun _ h9 => h9) rfl dX6_useSettings_67 ?_
      refine lv_iconst (v := (3 : Int32)) hx hb dX6_useSettings_70 (by decide) ?_
      refine lv_iload_n hx hb dX6_useSettings_71 rfl (lv_at hl 1 rfl) ?_
      refine lv_iadd hx hb dX6_useSettings_72 ?_
      obtain ⟨h_i, hE⟩ := gd_some hE
      refine ldC hx hb hK hP 17 (by decide) h_i dX6_useSettings_73 ?_
      obtain ⟨h_i, hE⟩ := gd_some hE
      refine stC hx hb hK hP hD hS 9 (by decide) h_i dX6_useSettings_74 (fun H locs hP hD hS => ?_)
      refine lv_iinc (v := (v50.1 + (1 : Int32))) (lv' := [(2, .int (v50.1 + (1 : Int32))), (0, .ref (aD G 25))]) hx hb dX6_useSettings_75 hl (k := 1) rfl rfl (by decide) rfl (fun ls hl => ?_)
      refine lv_goto (tgt := 50) hx hb dX6_useSettings_78 (by decide) ?_
      exact hN50 _ (Option.some.inj hE).symm _ _ _ hP hD hS (lv_sub hl [1, 0] rfl)
  refine lv_aload_n hx hb dX6_useSettings_0 rfl (lv_at hl 0 rfl) ?_
  refine va_get (ci := 6) (v := .ref (aD G 22)) (C := RX6) (T := TX6) (N := 7) hx hb hts (fun _ h => List.mem_cons_of_mem _ (List.mem_append_left _ (List.mem_append_left _ (List.mem_append_left _ (List.mem_append_left _ (List.mem_append_right _ h)))))) hown hK hP 25 rfl rfl 0 (by decide) (hts (.fieldLink RX6 10 "FillCells" "filling" "LFillCells$Filling;") (List.mem_of_getElem? (i := 1) rfl)) (fun _ h9 => h9) rfl dX6_useSettings_1 ?_
  refine va_get (ci := 1) (v := .ref (aD G 20)) (C := RX1) (T := TX1) (N := 9) hx hb hts (fun _ h => List.mem_cons_of_mem _ (List.mem_append_left _ (List.mem_append_left _ (List.mem_append_left _ (List.mem_append_right _ h))))) hown hK hP 22 rfl rfl 1 (by decide) (hts (.fieldLink RX6 117 "FillCells$Filling" "windows" "LFillCells$Windows;") (List.mem_of_getElem? (i := 2) rfl)) (fun _ h9 => h9) rfl dX6_useSettings_4 ?_
  refine lv_astore_n (lv' := [(1, .ref (aD G 20)), (0, .ref (aD G 25))]) hx hb dX6_useSettings_7 rfl hl (by decide) rfl (fun ls hl => ?_)
  refine lv_aload_n hx hb dX6_useSettings_8 rfl (lv_at hl 0 rfl) ?_
  refine lv_aload_n hx hb dX6_useSettings_9 rfl (lv_at hl 1 rfl) ?_
  refine va_get (ci := 6) (v := .ref (aD G 17)) (C := RX6) (T := TX6) (N := 7) hx hb hts (fun _ h => List.mem_cons_of_mem _ (List.mem_append_left _ (List.mem_append_left _ (List.mem_append_left _ (List.mem_append_left _ (List.mem_append_right _ h)))))) hown hK hP 25 rfl rfl 3 (by decide) (hts (.fieldLink RX6 30 "FillCells" "settings" "[I") (List.mem_of_getElem? (i := 3) rfl)) (fun _ h9 => h9) rfl dX6_useSettings_10 ?_
  refine lv_iconst (v := (0 : Int32)) hx hb dX6_useSettings_13 (by decide) ?_
  obtain ⟨h_i, hE⟩ := gd_some hE
  refine ldC hx hb hK hP 17 (by decide) h_i dX6_useSettings_14 ?_
  refine va_put (ci := 5) (v := .int (rd σ 17 (0 : Int32))) (ty := .int) (C := RX5) (T := TX5) (N := 8) hx hb hts (fun _ h => List.mem_cons_of_mem _ (List.mem_append_left _ (List.mem_append_left _ (List.mem_append_right _ h)))) tyX5 tyX5_ok nmX5 hown hK hP hD hS 20 rfl rfl 0 (by decide) (hts (.fieldLink RX6 239 "FillCells$Windows" "height" "I") (List.mem_of_getElem? (i := 4) rfl)) (fun _ h9 => h9) rfl (by decide +kernel) rfl rfl (Nat.le_of_ble_eq_true rfl) dX6_useSettings_15 (fun H locs hP hD hS => ?_)
  have hP : va_P G.1 vwCl (wC G (sI σ 6 (rd σ 17 (0 : Int32)))) H := hP
  have hD : va_D A (wC G (sI σ 6 (rd σ 17 (0 : Int32)))) := hD
  refine lv_aload_n hx hb dX6_useSettings_18 rfl (lv_at hl 0 rfl) ?_
  refine lv_aload_n hx hb dX6_useSettings_19 rfl (lv_at hl 1 rfl) ?_
  refine va_get (ci := 6) (v := .ref (aD G 17)) (C := RX6) (T := TX6) (N := 7) hx hb hts (fun _ h => List.mem_cons_of_mem _ (List.mem_append_left _ (List.mem_append_left _ (List.mem_append_left _ (List.mem_append_left _ (List.mem_append_right _ h)))))) hown hK hP 25 rfl rfl 3 (by decide) (hts (.fieldLink RX6 30 "FillCells" "settings" "[I") (List.mem_of_getElem? (i := 3) rfl)) (fun _ h9 => h9) rfl dX6_useSettings_20 ?_
  refine lv_iconst (v := (1 : Int32)) hx hb dX6_useSettings_23 (by decide) ?_
  obtain ⟨h_i, hE⟩ := gd_some hE
  refine ldC hx hb hK hP 17 (by decide) h_i dX6_useSettings_24 ?_
  refine va_put (ci := 5) (v := .int (rd (sI σ 6 (rd σ 17 (0 : Int32))) 17 (1 : Int32))) (ty := .int) (C := RX5) (T := TX5) (N := 8) hx hb hts (fun _ h => List.mem_cons_of_mem _ (List.mem_append_left _ (List.mem_append_left _ (List.mem_append_right _ h)))) tyX5 tyX5_ok nmX5 hown hK hP hD hS 20 rfl rfl 1 (by decide) (hts (.fieldLink RX6 242 "FillCells$Windows" "width" "I") (List.mem_of_getElem? (i := 5) rfl)) (fun _ h9 => h9) rfl (by decide +kernel) rfl rfl (Nat.le_of_ble_eq_true rfl) dX6_useSettings_25 (fun H locs hP hD hS => ?_)
  have hP : va_P G.1 vwCl (wC G (sI (sI σ 6 (rd σ 17 (0 : Int32))) 7 (rd (sI σ 6 (rd σ 17 (0 : Int32))) 17 (1 : Int32)))) H := hP
  have hD : va_D A (wC G (sI (sI σ 6 (rd σ 17 (0 : Int32))) 7 (rd (sI σ 6 (rd σ 17 (0 : Int32))) 17 (1 : Int32)))) := hD
  refine lv_aload_n hx hb dX6_useSettings_28 rfl (lv_at hl 0 rfl) ?_
  refine lv_aload_n hx hb dX6_useSettings_29 rfl (lv_at hl 1 rfl) ?_
  refine va_get (ci := 6) (v := .ref (aD G 17)) (C := RX6) (T := TX6) (N := 7) hx hb hts (fun _ h => List.mem_cons_of_mem _ (List.mem_append_left _ (List.mem_append_left _ (List.mem_append_left _ (List.mem_append_left _ (List.mem_append_right _ h)))))) hown hK hP 25 rfl rfl 3 (by decide) (hts (.fieldLink RX6 30 "FillCells" "settings" "[I") (List.mem_of_getElem? (i := 3) rfl)) (fun _ h9 => h9) rfl dX6_useSettings_30 ?_
  refine lv_iconst (v := (2 : Int32)) hx hb dX6_useSettings_33 (by decide) ?_
  obtain ⟨h_i, hE⟩ := gd_some hE
  refine ldC hx hb hK hP 17 (by decide) h_i dX6_useSettings_34 ?_
  refine va_put (ci := 5) (v := .int (rd (sI (sI σ 6 (rd σ 17 (0 : Int32))) 7 (rd (sI σ 6 (rd σ 17 (0 : Int32))) 17 (1 : Int32))) 17 (2 : Int32))) (ty := .int) (C := RX5) (T := TX5) (N := 8) hx hb hts (fun _ h => List.mem_cons_of_mem _ (List.mem_append_left _ (List.mem_append_left _ (List.mem_append_right _ h)))) tyX5 tyX5_ok nmX5 hown hK hP hD hS 20 rfl rfl 2 (by decide) (hts (.fieldLink RX6 245 "FillCells$Windows" "low" "I") (List.mem_of_getElem? (i := 6) rfl)) (fun _ h9 => h9) rfl (by decide +kernel) rfl rfl (Nat.le_of_ble_eq_true rfl) dX6_useSettings_35 (fun H locs hP hD hS => ?_)
  have hP : va_P G.1 vwCl (wC G (sI (sI (sI σ 6 (rd σ 17 (0 : Int32))) 7 (rd (sI σ 6 (rd σ 17 (0 : Int32))) 17 (1 : Int32))) 8 (rd (sI (sI σ 6 (rd σ 17 (0 : Int32))) 7 (rd (sI σ 6 (rd σ 17 (0 : Int32))) 17 (1 : Int32))) 17 (2 : Int32)))) H := hP
  have hD : va_D A (wC G (sI (sI (sI σ 6 (rd σ 17 (0 : Int32))) 7 (rd (sI σ 6 (rd σ 17 (0 : Int32))) 17 (1 : Int32))) 8 (rd (sI (sI σ 6 (rd σ 17 (0 : Int32))) 7 (rd (sI σ 6 (rd σ 17 (0 : Int32))) 17 (1 : Int32))) 17 (2 : Int32)))) := hD
  refine lv_aload_n hx hb dX6_useSettings_38 rfl (lv_at hl 0 rfl) ?_
  refine lv_aload_n hx hb dX6_useSettings_39 rfl (lv_at hl 1 rfl) ?_
  refine va_get (ci := 6) (v := .ref (aD G 17)) (C := RX6) (T := TX6) (N := 7) hx hb hts (fun _ h => List.mem_cons_of_mem _ (List.mem_append_left _ (List.mem_append_left _ (List.mem_append_left _ (List.mem_append_left _ (List.mem_append_right _ h)))))) hown hK hP 25 rfl rfl 3 (by decide) (hts (.fieldLink RX6 30 "FillCells" "settings" "[I") (List.mem_of_getElem? (i := 3) rfl)) (fun _ h9 => h9) rfl dX6_useSettings_40 ?_
  refine lv_iconst (v := (3 : Int32)) hx hb dX6_useSettings_43 (by decide) ?_
  obtain ⟨h_i, hE⟩ := gd_some hE
  refine ldC hx hb hK hP 17 (by decide) h_i dX6_useSettings_44 ?_
  refine va_put (ci := 5) (v := .int (rd (sI (sI (sI σ 6 (rd σ 17 (0 : Int32))) 7 (rd (sI σ 6 (rd σ 17 (0 : Int32))) 17 (1 : Int32))) 8 (rd (sI (sI σ 6 (rd σ 17 (0 : Int32))) 7 (rd (sI σ 6 (rd σ 17 (0 : Int32))) 17 (1 : Int32))) 17 (2 : Int32))) 17 (3 : Int32))) (ty := .int) (C := RX5) (T := TX5) (N := 8) hx hb hts (fun _ h => List.mem_cons_of_mem _ (List.mem_append_left _ (List.mem_append_left _ (List.mem_append_right _ h)))) tyX5 tyX5_ok nmX5 hown hK hP hD hS 20 rfl rfl 3 (by decide) (hts (.fieldLink RX6 248 "FillCells$Windows" "high" "I") (List.mem_of_getElem? (i := 7) rfl)) (fun _ h9 => h9) rfl (by decide +kernel) rfl rfl (Nat.le_of_ble_eq_true rfl) dX6_useSettings_45 (fun H locs hP hD hS => ?_)
  have hP : va_P G.1 vwCl (wC G (sI (sI (sI (sI σ 6 (rd σ 17 (0 : Int32))) 7 (rd (sI σ 6 (rd σ 17 (0 : Int32))) 17 (1 : Int32))) 8 (rd (sI (sI σ 6 (rd σ 17 (0 : Int32))) 7 (rd (sI σ 6 (rd σ 17 (0 : Int32))) 17 (1 : Int32))) 17 (2 : Int32))) 9 (rd (sI (sI (sI σ 6 (rd σ 17 (0 : Int32))) 7 (rd (sI σ 6 (rd σ 17 (0 : Int32))) 17 (1 : Int32))) 8 (rd (sI (sI σ 6 (rd σ 17 (0 : Int32))) 7 (rd (sI σ 6 (rd σ 17 (0 : Int32))) 17 (1 : Int32))) 17 (2 : Int32))) 17 (3 : Int32)))) H := hP
  have hD : va_D A (wC G (sI (sI (sI (sI σ 6 (rd σ 17 (0 : Int32))) 7 (rd (sI σ 6 (rd σ 17 (0 : Int32))) 17 (1 : Int32))) 8 (rd (sI (sI σ 6 (rd σ 17 (0 : Int32))) 7 (rd (sI σ 6 (rd σ 17 (0 : Int32))) 17 (1 : Int32))) 17 (2 : Int32))) 9 (rd (sI (sI (sI σ 6 (rd σ 17 (0 : Int32))) 7 (rd (sI σ 6 (rd σ 17 (0 : Int32))) 17 (1 : Int32))) 8 (rd (sI (sI σ 6 (rd σ 17 (0 : Int32))) 7 (rd (sI σ 6 (rd σ 17 (0 : Int32))) 17 (1 : Int32))) 17 (2 : Int32))) 17 (3 : Int32)))) := hD
  refine lv_iconst (v := (1 : Int32)) hx hb dX6_useSettings_48 (by decide) ?_
  refine lv_istore_n (lv' := [(2, .int (1 : Int32)), (1, .ref (aD G 20)), (0, .ref (aD G 25))]) hx hb dX6_useSettings_49 rfl hl (by decide) rfl (fun ls hl => ?_)
  exact J_50 (1 : Int32) (sI (sI (sI (sI σ 6 (rd σ 17 (0 : Int32))) 7 (rd (sI σ 6 (rd σ 17 (0 : Int32))) 17 (1 : Int32))) 8 (rd (sI (sI σ 6 (rd σ 17 (0 : Int32))) 7 (rd (sI σ 6 (rd σ 17 (0 : Int32))) 17 (1 : Int32))) 17 (2 : Int32))) 9 (rd (sI (sI (sI σ 6 (rd σ 17 (0 : Int32))) 7 (rd (sI σ 6 (rd σ 17 (0 : Int32))) 17 (1 : Int32))) 8 (rd (sI (sI σ 6 (rd σ 17 (0 : Int32))) 7 (rd (sI σ 6 (rd σ 17 (0 : Int32))) 17 (1 : Int32))) 17 (2 : Int32))) 17 (3 : Int32))) _ _ _ hP hD hS (lv_sub hl [2, 0] rfl) hE
abbrev rmX6_rules : Room := { frames := 5, cells := 0, slots := 0, locals := 111 }
def f_X6_rules_J27 (σ : St) : Option (Int32 × St) := bnd (f_X6_refuse (-2 : Int32) σ) (fun r2 => some (r2.1, r2.2))
def f_X6_rules (x1 x2 : Int32) (σ : St) : Option (Int32 × St) := bnd (f_X6_isIn x1 (0 : Int32) (7 : Int32)) (fun r1 => if r1 = 0 then (f_X6_rules_J27 σ) else (gd x1 8 (gd x1 8 (bnd (f_X6_isIn x2 (svl 1 (x1).toNatClampNeg) (svl 2 (x1).toNatClampNeg)) (fun r3 => if r3 = 0 then (f_X6_rules_J27 σ) else (gd x1 8 (gd x1 8 (bnd (f_X6_useSettings (sA σ 17 x1 x2)) (fun r4 => some ((rd σ 17 x1), r4))))))))))
set_option maxHeartbeats 4000000 in
set_option maxRecDepth 100000 in
theorem c_X6_rules (l : Launch) (G : EV)  (x1 x2 : Int32) (σ : St) (r : (Int32 × St)) (hE : f_X6_rules x1 x2 σ = some r) : MetI l G yX6_rules wsX6_rules rmX6_rules [.ref (aD G 25), .int x1, .int x2] (wC G σ) r.1 (wC G r.2) := by
  refine Met.of0 (Qf := PI G r.1 (wC G r.2)) (cc := cX6_rules) (maxL := 4) (ret := (some .int)) (by decide) rfl (Nat.le_of_ble_eq_true rfl) ?_
  intro p e s m below meth c args A hx hb hr hts hown hlocks hml hin0 hA hS hP hK hD hX ls hl
  have hl : lv_has ls 4 [(0, .ref (aD G 25)), (1, .int x1), (2, .int x2)] := hl
  generalize hQ : MQ below (PI G r.1 (wC G r.2) A) args s 0 0 A = Q
  unfold f_X6_rules at hE
  have J_27 : ∀ (σ : St) (H : Heap) (locs : List Loc) (ls : Array Slot), va_P G.1 vwCl (wC G σ) H → va_D A (wC G σ) → va_S A s.heap H locs → lv_has ls 4 [(0, .ref (aD G 25))] → f_X6_rules_J27 σ = some r → W p l e rmX6_rules s m args below meth c H locs 0 0 Q (F0 m 27 ls []) := by
    intro σ H locs ls hP hD hS hl hE
    unfold f_X6_rules_J27 at hE
    refine lv_aload_n hx hb dX6_rules_27 rfl (lv_at hl 0 rfl) ?_
    refine lv_bipush (v := (-2 : Int32)) hx hb dX6_rules_28 (by decide) ?_
    obtain ⟨r2, hC, hE⟩ := bnd_some hE
    refine ci (va_runV (As := [.int (-2 : Int32)]) (rest := []) ⟨hx, hb, hml, hown, hts⟩ (c_X6_refuse l G (-2 : Int32) σ r2 hC _) (cwV 1 hts gX6_rules_X6_refuse rfl rfl rfl (by decide +kernel) ⟨Nat.le_of_ble_eq_true rfl, Nat.le_of_ble_eq_true rfl⟩) (preV hK hP hD hS hA hX (va_recv hK hP (ci := 6) (q0 := 25) rfl rfl)) rfl rfl hl.1 rfl (lv_room (Nat.le_of_ble_eq_true rfl)) dX6_rules_30 ⟨Nat.le_of_ble_eq_true rfl, Nat.le_of_ble_eq_true rfl⟩) hD hS hA (fun H locs hP hD hS => ?_)
    rw [← hQ, ← Option.some.inj hE]
    exact ri hx hb hr hlocks hK hP hD hS dX6_rules_33
  refine lv_iload_n hx hb dX6_rules_0 rfl (lv_at hl 1 rfl) ?_
  refine lv_iconst (v := (0 : Int32)) hx hb dX6_rules_1 (by decide) ?_
  refine lv_bipush (v := (7 : Int32)) hx hb dX6_rules_2 (by decide) ?_
  obtain ⟨r1, hC, hE⟩ := bnd_some hE
  refine ci (va_runS (As := [.int x1, .int (0 : Int32), .int (7 : Int32)]) (rest := []) ⟨hx, hb, hml, hown, hts⟩ (c_X6_isIn l G x1 (0 : Int32) (7 : Int32) σ r1 hC _) (va_cwS 3 hts gX6_rules_X6_isIn rfl rfl rfl (by decide +kernel) ⟨Nat.le_of_ble_eq_true rfl, Nat.le_of_ble_eq_true rfl⟩) (preS hK hP hD hS hA hX) rfl rfl hl.1 rfl (lv_room (Nat.le_of_ble_eq_true rfl)) dX6_rules_4 ⟨Nat.le_of_ble_eq_true rfl, Nat.le_of_ble_eq_true rfl⟩) hD hS hA (fun H locs hP hD hS => ?_)
  refine lv_if_eq (tgt := 27) hx hb dX6_rules_7 (by decide) (fun c_ => ?_) (fun c_ => ?_)
  · have hE := ip c_ hE
    exact J_27 σ _ _ _ hP hD hS (lv_sub hl [0] rfl) hE
  · have hE := im c_ hE
    refine lv_iload_n hx hb dX6_rules_10 rfl (lv_at hl 2 rfl) ?_
    refine va_gets hx hb (hX.2 1 (by decide)).1 hS hown (hts (.fieldLink RX6 108 "FillCells" "SETTING_LEAST" "[I") (List.mem_of_getElem? (i := 1) rfl)) (fun _ h9 => h9) dX6_rules_11 ?_
    refine lv_iload_n hx hb dX6_rules_14 rfl (lv_at hl 1 rfl) ?_
    obtain ⟨h_i, hE⟩ := gd_some hE
    refine va_ti hx hb (hX.2 1 (by decide)).2 hS h_i rfl dX6_rules_15 ?_
    refine va_gets hx hb (hX.2 2 (by decide)).1 hS hown (hts (.fieldLink RX6 111 "FillCells" "SETTING_MOST" "[I") (List.mem_of_getElem? (i := 2) rfl)) (fun _ h9 => h9) dX6_rules_16 ?_
    refine lv_iload_n hx hb dX6_rules_19 rfl (lv_at hl 1 rfl) ?_
    obtain ⟨h_i, hE⟩ := gd_some hE
    refine va_ti hx hb (hX.2 2 (by decide)).2 hS h_i rfl dX6_rules_20 ?_
    obtain ⟨r3, hC, hE⟩ := bnd_some hE
    refine ci (va_runS (As := [.int x2, .int (svl 1 (x1).toNatClampNeg), .int (svl 2 (x1).toNatClampNeg)]) (rest := []) ⟨hx, hb, hml, hown, hts⟩ (c_X6_isIn l G x2 (svl 1 (x1).toNatClampNeg) (svl 2 (x1).toNatClampNeg) σ r3 hC _) (va_cwS 3 hts gX6_rules_X6_isIn rfl rfl rfl (by decide +kernel) ⟨Nat.le_of_ble_eq_true rfl, Nat.le_of_ble_eq_true rfl⟩) (preS hK hP hD hS hA hX) rfl rfl hl.1 rfl (lv_room (Nat.le_of_ble_eq_true rfl)) dX6_rules_21 ⟨Nat.le_of_ble_eq_true rfl, Nat.le_of_ble_eq_true rfl⟩) hD hS hA (fun H locs hP hD hS => ?_)
    refine lv_if_ne (tgt := 34) hx hb dX6_rules_24 (by decide) (fun c_ => ?_) (fun c_ => ?_)
    · have hE := im c_ hE
      refine lv_aload_n hx hb dX6_rules_34 rfl (lv_at hl 0 rfl) ?_
      refine va_get (ci := 6) (v := .ref (aD G 17)) (C := RX6) (T := TX6) (N := 7) hx hb hts (fun _ h => List.mem_cons_of_mem _ (List.mem_append_left _ (List.mem_append_left _ (List.mem_append_left _ (List.mem_append_left _ (List.mem_append_right _ h)))))) hown hK hP 25 rfl rfl 3 (by decide) (hts (.fieldLink RX6 30 "FillCells" "settings" "[I") (List.mem_of_getElem? (i := 3) rfl)) (fun _ h9 => h9) rfl dX6_rules_35 ?_
      refine lv_iload_n hx hb dX6_rules_38 rfl (lv_at hl 1 rfl) ?_
      obtain ⟨h_i, hE⟩ := gd_some hE
      refine ldC hx hb hK hP 17 (by decide) h_i dX6_rules_39 ?_
      refine lv_istore_n (lv' := [(3, .int (rd σ 17 x1)), (0, .ref (aD G 25)), (1, .int x1), (2, .int x2)]) hx hb dX6_rules_40 rfl hl (by decide) rfl (fun ls hl => ?_)
      refine lv_aload_n hx hb dX6_rules_41 rfl (lv_at hl 1 rfl) ?_
      refine va_get (ci := 6) (v := .ref (aD G 17)) (C := RX6) (T := TX6) (N := 7) hx hb hts (fun _ h => List.mem_cons_of_mem _ (List.mem_append_left _ (List.mem_append_left _ (List.mem_append_left _ (List.mem_append_left _ (List.mem_append_right _ h)))))) hown hK hP 25 rfl rfl 3 (by decide) (hts (.fieldLink RX6 30 "FillCells" "settings" "[I") (List.mem_of_getElem? (i := 3) rfl)) (fun _ h9 => h9) rfl dX6_rules_42 ?_
      refine lv_iload_n hx hb dX6_rules_45 rfl (lv_at hl 2 rfl) ?_
      refine lv_iload_n hx hb dX6_rules_46 rfl (lv_at hl 3 rfl) ?_
      obtain ⟨h_i, hE⟩ := gd_some hE
      refine stC hx hb hK hP hD hS 17 (by decide) h_i dX6_rules_47 (fun H locs hP hD hS => ?_)
      refine lv_aload_n hx hb dX6_rules_48 rfl (lv_at hl 1 rfl) ?_
      obtain ⟨r4, hC, hE⟩ := bnd_some hE
      refine cv (va_runV (As := []) (rest := []) ⟨hx, hb, hml, hown, hts⟩ (c_X6_useSettings l G (sA σ 17 x1 x2) r4 hC _) (cwV 0 hts gX6_rules_X6_useSettings rfl rfl rfl (by decide +kernel) ⟨Nat.le_of_ble_eq_true rfl, Nat.le_of_ble_eq_true rfl⟩) (preV hK hP hD hS hA hX (va_recv hK hP (ci := 6) (q0 := 25) rfl rfl)) rfl rfl hl.1 rfl (lv_room (Nat.le_of_ble_eq_true rfl)) dX6_rules_49 ⟨Nat.le_of_ble_eq_true rfl, Nat.le_of_ble_eq_true rfl⟩) hD hS hA (fun H locs hP hD hS => ?_)
      refine lv_iload_n hx hb dX6_rules_52 rfl (lv_at hl 0 rfl) ?_
      rw [← hQ, ← Option.some.inj hE]
      exact ri hx hb hr hlocks hK hP hD hS dX6_rules_53
    · have hE := ip c_ hE
      exact J_27 σ _ _ _ hP hD hS (lv_sub hl [0] rfl) hE
abbrev rmX6_of : Room := { frames := 4, cells := 0, slots := 0, locals := 92 }
def f_X6_of_J17 (σ : St) : Option (Int32 × St) := bnd (f_X6_refuse (-2 : Int32) σ) (fun r2 => some (r2.1, r2.2))
def f_X6_of (x1 x2 : Int32) (σ : St) : Option (Int32 × St) := bnd (f_X6_isCell x1) (fun r1 => if r1 = 0 then (f_X6_of_J17 σ) else (bnd (f_X6_isIn x2 (0 : Int32) (6 : Int32)) (fun r3 => if r3 = 0 then (f_X6_of_J17 σ) else (if x2 = (5 : Int32) then (bnd (f_X1_may x1 σ) (fun r5 => if r5 = 0 then (some ((0 : Int32), σ)) else (some ((1 : Int32), σ)))) else (if x2 = (6 : Int32) then (gd x1 80 (some ((rd σ 6 x1), σ))) else (bnd (f_X0_part x2 σ) (fun r4 => gq (r4 < 18) (gd x1 (lnC r4) (some ((rd σ r4 x1), σ))))))))))
set_option maxHeartbeats 4000000 in
set_option maxRecDepth 100000 in
theorem c_X6_of (l : Launch) (G : EV)  (x1 x2 : Int32) (σ : St) (r : (Int32 × St)) (hE : f_X6_of x1 x2 σ = some r) : MetI l G yX6_of wsX6_of rmX6_of [.ref (aD G 25), .int x1, .int x2] (wC G σ) r.1 (wC G r.2) := by
  refine Met.of0 (Qf := PI G r.1 (wC G r.2)) (cc := cX6_of) (maxL := 3) (ret := (some .int)) (by decide) rfl (Nat.le_of_ble_eq_true rfl) ?_
  intro p e s m below meth c args A hx hb hr hts hown hlocks hml hin0 hA hS hP hK hD hX ls hl
  have hl : lv_has ls 3 [(0, .ref (aD G 25)), (1, .int x1), (2, .int x2)] := hl
  generalize hQ : MQ below (PI G r.1 (wC G r.2) A) args s 0 0 A = Q
  unfold f_X6_of at hE
  have J_17 : ∀ (σ : St) (H : Heap) (locs : List Loc) (ls : Array Slot), va_P G.1 vwCl (wC G σ) H → va_D A (wC G σ) → va_S A s.heap H locs → lv_has ls 3 [(0, .ref (aD G 25))] → f_X6_of_J17 σ = some r → W p l e rmX6_of s m args below meth c H locs 0 0 Q (F0 m 17 ls []) := by
    intro σ H locs ls hP hD hS hl hE
    unfold f_X6_of_J17 at hE
    refine lv_aload_n hx hb dX6_of_17 rfl (lv_at hl 0 rfl) ?_
    refine lv_bipush (v := (-2 : Int32)) hx hb dX6_of_18 (by decide) ?_
    obtain ⟨r2, hC, hE⟩ := bnd_some hE
    refine ci (va_runV (As := [.int (-2 : Int32)]) (rest := []) ⟨hx, hb, hml, hown, hts⟩ (c_X6_refuse l G (-2 : Int32) σ r2 hC _) (cwV 1 hts gX6_of_X6_refuse rfl rfl rfl (by decide +kernel) ⟨Nat.le_of_ble_eq_true rfl, Nat.le_of_ble_eq_true rfl⟩) (preV hK hP hD hS hA hX (va_recv hK hP (ci := 6) (q0 := 25) rfl rfl)) rfl rfl hl.1 rfl (lv_room (Nat.le_of_ble_eq_true rfl)) dX6_of_20 ⟨Nat.le_of_ble_eq_true rfl, Nat.le_of_ble_eq_true rfl⟩) hD hS hA (fun H locs hP hD hS => ?_)
    rw [← hQ, ← Option.some.inj hE]
    exact ri hx hb hr hlocks hK hP hD hS dX6_of_23
  refine lv_iload_n hx hb dX6_of_0 rfl (lv_at hl 1 rfl) ?_
  obtain ⟨r1, hC, hE⟩ := bnd_some hE
  refine ci (va_runS (As := [.int x1]) (rest := []) ⟨hx, hb, hml, hown, hts⟩ (c_X6_isCell l G x1 σ r1 hC _) (va_cwS 1 hts gX6_of_X6_isCell rfl rfl rfl (by decide +kernel) ⟨Nat.le_of_ble_eq_true rfl, Nat.le_of_ble_eq_true rfl⟩) (preS hK hP hD hS hA hX) rfl rfl hl.1 rfl (lv_room (Nat.le_of_ble_eq_true rfl)) dX6_of_1 ⟨Nat.le_of_ble_eq_true rfl, Nat.le_of_ble_eq_true rfl⟩) hD hS hA (fun H locs hP hD hS => ?_)
  refine lv_if_eq (tgt := 17) hx hb dX6_of_4 (by decide) (fun c_ => ?_) (fun c_ => ?_)
  · have hE := ip c_ hE
    exact J_17 σ _ _ _ hP hD hS (lv_sub hl [0] rfl) hE
  · have hE := im c_ hE
    refine lv_iload_n hx hb dX6_of_7 rfl (lv_at hl 2 rfl) ?_
    refine lv_iconst (v := (0 : Int32)) hx hb dX6_of_8 (by decide) ?_
    refine lv_bipush (v := (6 : Int32)) hx hb dX6_of_9 (by decide) ?_
    obtain ⟨r3, hC, hE⟩ := bnd_some hE
    refine ci (va_runS (As := [.int x2, .int (0 : Int32), .int (6 : Int32)]) (rest := []) ⟨hx, hb, hml, hown, hts⟩ (c_X6_isIn l G x2 (0 : Int32) (6 : Int32) σ r3 hC _) (va_cwS 3 hts gX6_of_X6_isIn rfl rfl rfl (by decide +kernel) ⟨Nat.le_of_ble_eq_true rfl, Nat.le_of_ble_eq_true rfl⟩) (preS hK hP hD hS hA hX) rfl rfl hl.1 rfl (lv_room (Nat.le_of_ble_eq_true rfl)) dX6_of_11 ⟨Nat.le_of_ble_eq_true rfl, Nat.le_of_ble_eq_true rfl⟩) hD hS hA (fun H locs hP hD hS => ?_)
    refine lv_if_ne (tgt := 24) hx hb dX6_of_14 (by decide) (fun c_ => ?_) (fun c_ => ?_)
    · have hE := im c_ hE
      refine lv_iload_n hx hb dX6_of_24 rfl (lv_at hl 2 rfl) ?_
      refine lv_iconst (v := (5 : Int32)) hx hb dX6_of_25 (by decide) ?_
      refine lv_icmp_ne (tgt := 46) hx hb dX6_of_26 (by decide) (fun c_ => ?_) (fun c_ => ?_)
      · have hE := im c_ hE
        refine lv_iload_n hx hb dX6_of_46 rfl (lv_at hl 2 rfl) ?_
        refine lv_bipush (v := (6 : Int32)) hx hb dX6_of_47 (by decide) ?_
        refine lv_icmp_ne (tgt := 65) hx hb dX6_of_49 (by decide) (fun c_ => ?_) (fun c_ => ?_)
        · have hE := im c_ hE
          refine lv_aload_n hx hb dX6_of_65 rfl (lv_at hl 0 rfl) ?_
          refine va_get (ci := 6) (v := .ref (aD G 22)) (C := RX6) (T := TX6) (N := 7) hx hb hts (fun _ h => List.mem_cons_of_mem _ (List.mem_append_left _ (List.mem_append_left _ (List.mem_append_left _ (List.mem_append_left _ (List.mem_append_right _ h)))))) hown hK hP 25 rfl rfl 0 (by decide) (hts (.fieldLink RX6 10 "FillCells" "filling" "LFillCells$Filling;") (List.mem_of_getElem? (i := 1) rfl)) (fun _ h9 => h9) rfl dX6_of_66 ?_
          refine va_get (ci := 1) (v := .ref (aD G 19)) (C := RX1) (T := TX1) (N := 9) hx hb hts (fun _ h => List.mem_cons_of_mem _ (List.mem_append_left _ (List.mem_append_left _ (List.mem_append_left _ (List.mem_append_right _ h))))) hown hK hP 22 rfl rfl 0 (by decide) (hts (.fieldLink RX6 65 "FillCells$Filling" "field" "LFillCells$Field;") (List.mem_of_getElem? (i := 4) rfl)) (fun _ h9 => h9) rfl dX6_of_69 ?_
          refine lv_iload_n hx hb dX6_of_72 rfl (lv_at hl 2 rfl) ?_
          obtain ⟨r4, hC, hE⟩ := bnd_some hE
          refine cr (va_runV (As := [.int x2]) (rest := []) ⟨hx, hb, hml, hown, hts⟩ (c_X0_part l G x2 σ r4 hC _) (cwV 1 hts gX6_of_X0_part rfl rfl rfl (by decide +kernel) ⟨Nat.le_of_ble_eq_true rfl, Nat.le_of_ble_eq_true rfl⟩) (preV hK hP hD hS hA hX (va_recv hK hP (ci := 0) (q0 := 19) rfl rfl)) rfl rfl hl.1 rfl (lv_room (Nat.le_of_ble_eq_true rfl)) dX6_of_73 ⟨Nat.le_of_ble_eq_true rfl, Nat.le_of_ble_eq_true rfl⟩) hD hS hA (fun H locs hP hD hS => ?_)
          obtain ⟨hr4, hE⟩ := gq_some hE
          refine lv_iload_n hx hb dX6_of_76 rfl (lv_at hl 1 rfl) ?_
          obtain ⟨h_i, hE⟩ := gd_some hE
          refine ldC hx hb hK hP r4 hr4 h_i dX6_of_77 ?_
          rw [← hQ, ← Option.some.inj hE]
          exact ri hx hb hr hlocks hK hP hD hS dX6_of_78
        · have hE := ip c_ hE
          refine lv_aload_n hx hb dX6_of_52 rfl (lv_at hl 0 rfl) ?_
          refine va_get (ci := 6) (v := .ref (aD G 22)) (C := RX6) (T := TX6) (N := 7) hx hb hts (fun _ h => List.mem_cons_of_mem _ (List.mem_append_left _ (List.mem_append_left _ (List.mem_append_left _ (List.mem_append_left _ (List.mem_append_right _ h)))))) hown hK hP 25 rfl rfl 0 (by decide) (hts (.fieldLink RX6 10 "FillCells" "filling" "LFillCells$Filling;") (List.mem_of_getElem? (i := 1) rfl)) (fun _ h9 => h9) rfl dX6_of_53 ?_
          refine va_get (ci := 1) (v := .ref (aD G 20)) (C := RX1) (T := TX1) (N := 9) hx hb hts (fun _ h => List.mem_cons_of_mem _ (List.mem_append_left _ (List.mem_append_left _ (List.mem_append_left _ (List.mem_append_right _ h))))) hown hK hP 22 rfl rfl 1 (by decide) (hts (.fieldLink RX6 117 "FillCells$Filling" "windows" "LFillCells$Windows;") (List.mem_of_getElem? (i := 2) rfl)) (fun _ h9 => h9) rfl dX6_of_56 ?_
          refine va_get (ci := 5) (v := .ref (aD G 6)) (C := RX5) (T := TX5) (N := 8) hx hb hts (fun _ h => List.mem_cons_of_mem _ (List.mem_append_left _ (List.mem_append_left _ (List.mem_append_right _ h)))) hown hK hP 20 rfl rfl 5 (by decide) (hts (.fieldLink RX6 121 "FillCells$Windows" "thinOver" "[I") (List.mem_of_getElem? (i := 3) rfl)) (fun _ h9 => h9) rfl dX6_of_59 ?_
          refine lv_iload_n hx hb dX6_of_62 rfl (lv_at hl 1 rfl) ?_
          obtain ⟨h_i, hE⟩ := gd_some hE
          refine ldC hx hb hK hP 6 (by decide) h_i dX6_of_63 ?_
          rw [← hQ, ← Option.some.inj hE]
          exact ri hx hb hr hlocks hK hP hD hS dX6_of_64
      · have hE := ip c_ hE
        refine lv_aload_n hx hb dX6_of_29 rfl (lv_at hl 0 rfl) ?_
        refine va_get (ci := 6) (v := .ref (aD G 22)) (C := RX6) (T := TX6) (N := 7) hx hb hts (fun _ h => List.mem_cons_of_mem _ (List.mem_append_left _ (List.mem_append_left _ (List.mem_append_left _ (List.mem_append_left _ (List.mem_append_right _ h)))))) hown hK hP 25 rfl rfl 0 (by decide) (hts (.fieldLink RX6 10 "FillCells" "filling" "LFillCells$Filling;") (List.mem_of_getElem? (i := 1) rfl)) (fun _ h9 => h9) rfl dX6_of_30 ?_
        refine lv_iload_n hx hb dX6_of_33 rfl (lv_at hl 1 rfl) ?_
        obtain ⟨r5, hC, hE⟩ := bnd_some hE
        refine ci (va_runV (As := [.int x1]) (rest := []) ⟨hx, hb, hml, hown, hts⟩ (c_X1_may l G x1 σ r5 hC _) (cwV 1 hts gX6_of_X1_may rfl rfl rfl (by decide +kernel) ⟨Nat.le_of_ble_eq_true rfl, Nat.le_of_ble_eq_true rfl⟩) (preV hK hP hD hS hA hX (va_recv hK hP (ci := 1) (q0 := 22) rfl rfl)) rfl rfl hl.1 rfl (lv_room (Nat.le_of_ble_eq_true rfl)) dX6_of_34 ⟨Nat.le_of_ble_eq_true rfl, Nat.le_of_ble_eq_true rfl⟩) hD hS hA (fun H locs hP hD hS => ?_)
        refine lv_if_eq (tgt := 44) hx hb dX6_of_37 (by decide) (fun c_ => ?_) (fun c_ => ?_)
        · have hE := ip c_ hE
          refine lv_iconst (v := (0 : Int32)) hx hb dX6_of_44 (by decide) ?_
          rw [← hQ, ← Option.some.inj hE]
          exact ri hx hb hr hlocks hK hP hD hS dX6_of_45
        · have hE := im c_ hE
          refine lv_iconst (v := (1 : Int32)) hx hb dX6_of_40 (by decide) ?_
          refine lv_goto (tgt := 45) hx hb dX6_of_41 (by decide) ?_
          rw [← hQ, ← Option.some.inj hE]
          exact ri hx hb hr hlocks hK hP hD hS dX6_of_45
    · have hE := ip c_ hE
      exact J_17 σ _ _ _ hP hD hS (lv_sub hl [0] rfl) hE
abbrev rmX6_sum : Room := { frames := 2, cells := 0, slots := 0, locals := 42 }

def f_X6_sum (x1 : Int32) (σ : St) : Option (Int32 × St) := bnd (f_X6_isCell x1) (fun r1 => if r1 = 0 then (bnd (f_X6_refuse (-2 : Int32) σ) (fun r2 => some (r2.1, r2.2))) else (gd x1 80 (some ((rd σ 5 x1), σ))))
set_option maxHeartbeats 4000000 in
set_option maxRecDepth 100000 in
theorem c_X6_sum (l : Launch) (G : EV)  (x1 : Int32) (σ : St) (r : (Int32 × St)) (hE : f_X6_sum x1 σ = some r) : MetI l G yX6_sum wsX6_sum rmX6_sum [.ref (aD G 25), .int x1] (wC G σ) r.1 (wC G r.2) := by
  refine Met.of0 (Qf := PI G r.1 (wC G r.2)) (cc := cX6_sum) (maxL := 2) (ret := (some .int)) (by decide) rfl (Nat.le_of_ble_eq_true rfl) ?_
  intro p e s m below meth c args A hx hb hr hts hown hlocks hml hin0 hA hS hP hK hD hX ls hl
  have hl : lv_has ls 2 [(0, .ref (aD G 25)), (1, .int x1)] := hl
  generalize hQ : MQ below (PI G r.1 (wC G r.2) A) args s 0 0 A = Q
  unfold f_X6_sum at hE
  refine lv_iload_n hx hb dX6_sum_0 rfl (lv_at hl 1 rfl) ?_
  obtain ⟨r1, hC, hE⟩ := bnd_some hE
  refine ci (va_runS (As := [.int x1]) (rest := []) ⟨hx, hb, hml, hown, hts⟩ (c_X6_isCell l G x1 σ r1 hC _) (va_cwS 1 hts gX6_sum_X6_isCell rfl rfl rfl (by decide +kernel) ⟨Nat.le_of_ble_eq_true rfl, Nat.le_of_ble_eq_true rfl⟩) (preS hK hP hD hS hA hX) rfl rfl hl.1 rfl (lv_room (Nat.le_of_ble_eq_true rfl)) dX6_sum_1 ⟨Nat.le_of_ble_eq_true rfl, Nat.le_of_ble_eq_true rfl⟩) hD hS hA (fun H locs hP hD hS => ?_)
  refine lv_if_eq (tgt := 22) hx hb dX6_sum_4 (by decide) (fun c_ => ?_) (fun c_ => ?_)
  · have hE := ip c_ hE
    refine lv_aload_n hx hb dX6_sum_22 rfl (lv_at hl 0 rfl) ?_
    refine lv_bipush (v := (-2 : Int32)) hx hb dX6_sum_23 (by decide) ?_
    obtain ⟨r2, hC, hE⟩ := bnd_some hE
    refine ci (va_runV (As := [.int (-2 : Int32)]) (rest := []) ⟨hx, hb, hml, hown, hts⟩ (c_X6_refuse l G (-2 : Int32) σ r2 hC _) (cwV 1 hts gX6_sum_X6_refuse rfl rfl rfl (by decide +kernel) ⟨Nat.le_of_ble_eq_true rfl, Nat.le_of_ble_eq_true rfl⟩) (preV hK hP hD hS hA hX (va_recv hK hP (ci := 6) (q0 := 25) rfl rfl)) rfl rfl hl.1 rfl (lv_room (Nat.le_of_ble_eq_true rfl)) dX6_sum_25 ⟨Nat.le_of_ble_eq_true rfl, Nat.le_of_ble_eq_true rfl⟩) hD hS hA (fun H locs hP hD hS => ?_)
    rw [← hQ, ← Option.some.inj hE]
    exact ri hx hb hr hlocks hK hP hD hS dX6_sum_28
  · have hE := im c_ hE
    refine lv_aload_n hx hb dX6_sum_7 rfl (lv_at hl 0 rfl) ?_
    refine va_get (ci := 6) (v := .ref (aD G 22)) (C := RX6) (T := TX6) (N := 7) hx hb hts (fun _ h => List.mem_cons_of_mem _ (List.mem_append_left _ (List.mem_append_left _ (List.mem_append_right _ h)))) hown hK hP 25 rfl rfl 0 (by decide) (hts (.fieldLink RX6 10 "FillCells" "filling" "LFillCells$Filling;") (List.mem_of_getElem? (i := 1) rfl)) (fun _ h9 => h9) rfl dX6_sum_8 ?_
    refine va_get (ci := 1) (v := .ref (aD G 20)) (C := RX1) (T := TX1) (N := 9) hx hb hts (fun _ h => List.mem_cons_of_mem _ (List.mem_append_left _ (List.mem_append_right _ h))) hown hK hP 22 rfl rfl 1 (by decide) (hts (.fieldLink RX6 117 "FillCells$Filling" "windows" "LFillCells$Windows;") (List.mem_of_getElem? (i := 2) rfl)) (fun _ h9 => h9) rfl dX6_sum_11 ?_
    refine va_get (ci := 5) (v := .ref (aD G 5)) (C := RX5) (T := TX5) (N := 8) hx hb hts (fun _ h => List.mem_cons_of_mem _ (List.mem_append_right _ h)) hown hK hP 20 rfl rfl 4 (by decide) (hts (.fieldLink RX6 126 "FillCells$Windows" "sums" "[I") (List.mem_of_getElem? (i := 3) rfl)) (fun _ h9 => h9) rfl dX6_sum_14 ?_
    refine lv_iload_n hx hb dX6_sum_17 rfl (lv_at hl 1 rfl) ?_
    obtain ⟨h_i, hE⟩ := gd_some hE
    refine ldC hx hb hK hP 5 (by decide) h_i dX6_sum_18 ?_
    refine lv_goto (tgt := 28) hx hb dX6_sum_19 (by decide) ?_
    rw [← hQ, ← Option.some.inj hE]
    exact ri hx hb hr hlocks hK hP hD hS dX6_sum_28
abbrev rmX6_windows : Room := { frames := 2, cells := 0, slots := 0, locals := 45 }

def f_X6_windows (x1 : Int32) (σ : St) : Option (Int32 × St) := if x1 = (0 : Int32) then (bnd (f_X5_count σ) (fun r1 => some (r1, σ))) else (if x1 = (1 : Int32) then (bnd (f_X5_countThin σ) (fun r2 => some (r2, σ))) else (if x1 = (2 : Int32) then (bnd (f_X5_countThick σ) (fun r3 => some (r3, σ))) else (if x1 = (3 : Int32) then (bnd (f_X5_countUnlike σ) (fun r4 => some (r4, σ))) else (bnd (f_X6_refuse (-2 : Int32) σ) (fun r5 => some (r5.1, r5.2))))))
set_option maxHeartbeats 4000000 in
set_option maxRecDepth 100000 in
theorem c_X6_windows (l : Launch) (G : EV)  (x1 : Int32) (σ : St) (r : (Int32 × St)) (hE : f_X6_windows x1 σ = some r) : MetI l G yX6_windows wsX6_windows rmX6_windows [.ref (aD G 25), .int x1] (wC G σ) r.1 (wC G r.2) := by
  refine Met.of0 (Qf := PI G r.1 (wC G r.2)) (cc := cX6_windows) (maxL := 2) (ret := (some .int)) (by decide) rfl (Nat.le_of_ble_eq_true rfl) ?_
  intro p e s m below meth c args A hx hb hr hts hown hlocks hml hin0 hA hS hP hK hD hX ls hl
  have hl : lv_has ls 2 [(0, .ref (aD G 25)), (1, .int x1)] := hl
  generalize hQ : MQ below (PI G r.1 (wC G r.2) A) args s 0 0 A = Q
  unfold f_X6_windows at hE
  refine lv_iload_n hx hb dX6_windows_0 rfl (lv_at hl 1 rfl) ?_
  by_cases c_0 : x1 = (0 : Int32)
  · have hE := ip c_0 hE
    refine lv_tableIn (off := 31) (tgt := 32) hx hb dX6_windows_1 (by rw [c_0]; decide) (by rw [c_0]; decide) (by rw [c_0]; rfl) (by decide) ?_
    refine lv_aload_n hx hb dX6_windows_32 rfl (lv_at hl 0 rfl) ?_
    refine va_get (ci := 6) (v := .ref (aD G 22)) (C := RX6) (T := TX6) (N := 7) hx hb hts (fun _ h => List.mem_cons_of_mem _ (List.mem_append_left _ (List.mem_append_left _ (List.mem_append_right _ h)))) hown hK hP 25 rfl rfl 0 (by decide) (hts (.fieldLink RX6 10 "FillCells" "filling" "LFillCells$Filling;") (List.mem_of_getElem? (i := 1) rfl)) (fun _ h9 => h9) rfl dX6_windows_33 ?_
    refine va_get (ci := 1) (v := .ref (aD G 20)) (C := RX1) (T := TX1) (N := 9) hx hb hts (fun _ h => List.mem_cons_of_mem _ (List.mem_append_left _ (List.mem_append_right _ h))) hown hK hP 22 rfl rfl 1 (by decide) (hts (.fieldLink RX6 117 "FillCells$Filling" "windows" "LFillCells$Windows;") (List.mem_of_getElem? (i := 2) rfl)) (fun _ h9 => h9) rfl dX6_windows_36 ?_
    obtain ⟨r1, hC, hE⟩ := bnd_some hE
    refine ci (va_runV (As := []) (rest := []) ⟨hx, hb, hml, hown, hts⟩ (c_X5_count l G σ r1 hC _) (cwV 0 hts gX6_windows_X5_count rfl rfl rfl (by decide +kernel) ⟨Nat.le_of_ble_eq_true rfl, Nat.le_of_ble_eq_true rfl⟩) (preV hK hP hD hS hA hX (va_recv hK hP (ci := 5) (q0 := 20) rfl rfl)) rfl rfl hl.1 rfl (lv_room (Nat.le_of_ble_eq_true rfl)) dX6_windows_39 ⟨Nat.le_of_ble_eq_true rfl, Nat.le_of_ble_eq_true rfl⟩) hD hS hA (fun H locs hP hD hS => ?_)
    rw [← hQ, ← Option.some.inj hE]
    exact ri hx hb hr hlocks hK hP hD hS dX6_windows_42
  · have hE := im c_0 hE
    by_cases c_1 : x1 = (1 : Int32)
    · have hE := ip c_1 hE
      refine lv_tableIn (off := 42) (tgt := 43) hx hb dX6_windows_1 (by rw [c_1]; decide) (by rw [c_1]; decide) (by rw [c_1]; rfl) (by decide) ?_
      refine lv_aload_n hx hb dX6_windows_43 rfl (lv_at hl 0 rfl) ?_
      refine va_get (ci := 6) (v := .ref (aD G 22)) (C := RX6) (T := TX6) (N := 7) hx hb hts (fun _ h => List.mem_cons_of_mem _ (List.mem_append_left _ (List.mem_append_left _ (List.mem_append_right _ h)))) hown hK hP 25 rfl rfl 0 (by decide) (hts (.fieldLink RX6 10 "FillCells" "filling" "LFillCells$Filling;") (List.mem_of_getElem? (i := 1) rfl)) (fun _ h9 => h9) rfl dX6_windows_44 ?_
      refine va_get (ci := 1) (v := .ref (aD G 20)) (C := RX1) (T := TX1) (N := 9) hx hb hts (fun _ h => List.mem_cons_of_mem _ (List.mem_append_left _ (List.mem_append_right _ h))) hown hK hP 22 rfl rfl 1 (by decide) (hts (.fieldLink RX6 117 "FillCells$Filling" "windows" "LFillCells$Windows;") (List.mem_of_getElem? (i := 2) rfl)) (fun _ h9 => h9) rfl dX6_windows_47 ?_
      obtain ⟨r2, hC, hE⟩ := bnd_some hE
      refine ci (va_runV (As := []) (rest := []) ⟨hx, hb, hml, hown, hts⟩ (c_X5_countThin l G σ r2 hC _) (cwV 0 hts gX6_windows_X5_countThin rfl rfl rfl (by decide +kernel) ⟨Nat.le_of_ble_eq_true rfl, Nat.le_of_ble_eq_true rfl⟩) (preV hK hP hD hS hA hX (va_recv hK hP (ci := 5) (q0 := 20) rfl rfl)) rfl rfl hl.1 rfl (lv_room (Nat.le_of_ble_eq_true rfl)) dX6_windows_50 ⟨Nat.le_of_ble_eq_true rfl, Nat.le_of_ble_eq_true rfl⟩) hD hS hA (fun H locs hP hD hS => ?_)
      rw [← hQ, ← Option.some.inj hE]
      exact ri hx hb hr hlocks hK hP hD hS dX6_windows_53
    · have hE := im c_1 hE
      by_cases c_2 : x1 = (2 : Int32)
      · have hE := ip c_2 hE
        refine lv_tableIn (off := 53) (tgt := 54) hx hb dX6_windows_1 (by rw [c_2]; decide) (by rw [c_2]; decide) (by rw [c_2]; rfl) (by decide) ?_
        refine lv_aload_n hx hb dX6_windows_54 rfl (lv_at hl 0 rfl) ?_
        refine va_get (ci := 6) (v := .ref (aD G 22)) (C := RX6) (T := TX6) (N := 7) hx hb hts (fun _ h => List.mem_cons_of_mem _ (List.mem_append_left _ (List.mem_append_left _ (List.mem_append_right _ h)))) hown hK hP 25 rfl rfl 0 (by decide) (hts (.fieldLink RX6 10 "FillCells" "filling" "LFillCells$Filling;") (List.mem_of_getElem? (i := 1) rfl)) (fun _ h9 => h9) rfl dX6_windows_55 ?_
        refine va_get (ci := 1) (v := .ref (aD G 20)) (C := RX1) (T := TX1) (N := 9) hx hb hts (fun _ h => List.mem_cons_of_mem _ (List.mem_append_left _ (List.mem_append_right _ h))) hown hK hP 22 rfl rfl 1 (by decide) (hts (.fieldLink RX6 117 "FillCells$Filling" "windows" "LFillCells$Windows;") (List.mem_of_getElem? (i := 2) rfl)) (fun _ h9 => h9) rfl dX6_windows_58 ?_
        obtain ⟨r3, hC, hE⟩ := bnd_some hE
        refine ci (va_runV (As := []) (rest := []) ⟨hx, hb, hml, hown, hts⟩ (c_X5_countThick l G σ r3 hC _) (cwV 0 hts gX6_windows_X5_countThick rfl rfl rfl (by decide +kernel) ⟨Nat.le_of_ble_eq_true rfl, Nat.le_of_ble_eq_true rfl⟩) (preV hK hP hD hS hA hX (va_recv hK hP (ci := 5) (q0 := 20) rfl rfl)) rfl rfl hl.1 rfl (lv_room (Nat.le_of_ble_eq_true rfl)) dX6_windows_61 ⟨Nat.le_of_ble_eq_true rfl, Nat.le_of_ble_eq_true rfl⟩) hD hS hA (fun H locs hP hD hS => ?_)
        rw [← hQ, ← Option.some.inj hE]
        exact ri hx hb hr hlocks hK hP hD hS dX6_windows_64
      · have hE := im c_2 hE
        by_cases c_3 : x1 = (3 : Int32)
        · have hE := ip c_3 hE
          refine lv_tableIn (off := 64) (tgt := 65) hx hb dX6_windows_1 (by rw [c_3]; decide) (by rw [c_3]; decide) (by rw [c_3]; rfl) (by decide) ?_
          refine lv_aload_n hx hb dX6_windows_65 rfl (lv_at hl 0 rfl) ?_
          refine va_get (ci := 6) (v := .ref (aD G 22)) (C := RX6) (T := TX6) (N := 7) hx hb hts (fun _ h => List.mem_cons_of_mem _ (List.mem_append_left _ (List.mem_append_left _ (List.mem_append_right _ h)))) hown hK hP 25 rfl rfl 0 (by decide) (hts (.fieldLink RX6 10 "FillCells" "filling" "LFillCells$Filling;") (List.mem_of_getElem? (i := 1) rfl)) (fun _ h9 => h9) rfl dX6_windows_66 ?_
          refine va_get (ci := 1) (v := .ref (aD G 20)) (C := RX1) (T := TX1) (N := 9) hx hb hts (fun _ h => List.mem_cons_of_mem _ (List.mem_append_left _ (List.mem_append_right _ h))) hown hK hP 22 rfl rfl 1 (by decide) (hts (.fieldLink RX6 117 "FillCells$Filling" "windows" "LFillCells$Windows;") (List.mem_of_getElem? (i := 2) rfl)) (fun _ h9 => h9) rfl dX6_windows_69 ?_
          obtain ⟨r4, hC, hE⟩ := bnd_some hE
          refine ci (va_runV (As := []) (rest := []) ⟨hx, hb, hml, hown, hts⟩ (c_X5_countUnlike l G σ r4 hC _) (cwV 0 hts gX6_windows_X5_countUnlike rfl rfl rfl (by decide +kernel) ⟨Nat.le_of_ble_eq_true rfl, Nat.le_of_ble_eq_true rfl⟩) (preV hK hP hD hS hA hX (va_recv hK hP (ci := 5) (q0 := 20) rfl rfl)) rfl rfl hl.1 rfl (lv_room (Nat.le_of_ble_eq_true rfl)) dX6_windows_72 ⟨Nat.le_of_ble_eq_true rfl, Nat.le_of_ble_eq_true rfl⟩) hD hS hA (fun H locs hP hD hS => ?_)
          rw [← hQ, ← Option.some.inj hE]
          exact ri hx hb hr hlocks hK hP hD hS dX6_windows_75
        · have hE := im c_3 hE
          refine lv_tableOut (tgt := 76) hx hb dX6_windows_1 (by have q0 := lv_neT (a := 0) c_0 (by decide); have q1 := lv_neT (a := 1) c_1 (by decide); have q2 := lv_neT (a := 2) c_2 (by decide); have q3 := lv_neT (a := 3) c_3 (by decide); omega) (by decide) ?_
          refine lv_aload_n hx hb dX6_windows_76 rfl (lv_at hl 0 rfl) ?_
          refine lv_bipush (v := (-2 : Int32)) hx hb dX6_windows_77 (by decide) ?_
          obtain ⟨r5, hC, hE⟩ := bnd_some hE
          refine ci (va_runV (As := [.int (-2 : Int32)]) (rest := []) ⟨hx, hb, hml, hown, hts⟩ (c_X6_refuse l G (-2 : Int32) σ r5 hC _) (cwV 1 hts gX6_windows_X6_refuse rfl rfl rfl (by decide +kernel) ⟨Nat.le_of_ble_eq_true rfl, Nat.le_of_ble_eq_true rfl⟩) (preV hK hP hD hS hA hX (va_recv hK hP (ci := 6) (q0 := 25) rfl rfl)) rfl rfl hl.1 rfl (lv_room (Nat.le_of_ble_eq_true rfl)) dX6_windows_79 ⟨Nat.le_of_ble_eq_true rfl, Nat.le_of_ble_eq_true rfl⟩) hD hS hA (fun H locs hP hD hS => ?_)
          rw [← hQ, ← Option.some.inj hE]
          exact ri hx hb hr hlocks hK hP hD hS dX6_windows_82
abbrev rmX6_worst : Room := { frames := 1, cells := 0, slots := 0, locals := 22 }

def f_X6_worst (x1 : Int32) (σ : St) : Option (Int32 × St) := if x1 = (0 : Int32) then (bnd (f_X5_atLeast σ) (fun r1 => some (r1, σ))) else (if x1 = (1 : Int32) then (bnd (f_X5_atGreatest σ) (fun r2 => some (r2, σ))) else (if x1 = (2 : Int32) then (bnd (f_X5_atLeast σ) (fun r3 => gd r3 80 (some ((rd σ 5 r3), σ)))) else (if x1 = (3 : Int32) then (bnd (f_X5_atGreatest σ) (fun r4 => gd r4 80 (some ((rd σ 5 r4), σ)))) else (bnd (f_X6_refuse (-2 : Int32) σ) (fun r5 => some (r5.1, r5.2))))))
set_option maxHeartbeats 4000000 in
set_option maxRecDepth 100000 in
theorem c_X6_worst (l : Launch) (G : EV)  (x1 : Int32) (σ : St) (r : (Int32 × St)) (hE : f_X6_worst x1 σ = some r) : MetI l G yX6_worst wsX6_worst rmX6_worst [.ref (aD G 25), .int x1] (wC G σ) r.1 (wC G r.2) := by
  refine Met.of0 (Qf := PI G r.1 (wC G r.2)) (cc := cX6_worst) (maxL := 2) (ret := (some .int)) (by decide) rfl (Nat.le_of_ble_eq_true rfl) ?_
  intro p e s m below meth c args A hx hb hr hts hown hlocks hml hin0 hA hS hP hK hD hX ls hl
  have hl : lv_has ls 2 [(0, .ref (aD G 25)), (1, .int x1)] := hl
  generalize hQ : MQ below (PI G r.1 (wC G r.2) A) args s 0 0 A = Q
  unfold f_X6_worst at hE
  refine lv_iload_n hx hb dX6_worst_0 rfl (lv_at hl 1 rfl) ?_
  by_cases c_0 : x1 = (0 : Int32)
  · have hE := ip c_0 hE
    refine lv_tableIn (off := 31) (tgt := 32) hx hb dX6_worst_1 (by rw [c_0]; decide) (by rw [c_0]; decide) (by rw [c_0]; rfl) (by decide) ?_
    refine lv_aload_n hx hb dX6_worst_32 rfl (lv_at hl 0 rfl) ?_
    refine va_get (ci := 6) (v := .ref (aD G 22)) (C := RX6) (T := TX6) (N := 7) hx hb hts (fun _ h => List.mem_cons_of_mem _ (List.mem_append_left _ (List.mem_append_left _ (List.mem_append_right _ h)))) hown hK hP 25 rfl rfl 0 (by decide) (hts (.fieldLink RX6 10 "FillCells" "filling" "LFillCells$Filling;") (List.mem_of_getElem? (i := 1) rfl)) (fun _ h9 => h9) rfl dX6_worst_33 ?_
    refine va_get (ci := 1) (v := .ref (aD G 20)) (C := RX1) (T := TX1) (N := 9) hx hb hts (fun _ h => List.mem_cons_of_mem _ (List.mem_append_left _ (List.mem_append_right _ h))) hown hK hP 22 rfl rfl 1 (by decide) (hts (.fieldLink RX6 117 "FillCells$Filling" "windows" "LFillCells$Windows;") (List.mem_of_getElem? (i := 2) rfl)) (fun _ h9 => h9) rfl dX6_worst_36 ?_
    obtain ⟨r1, hC, hE⟩ := bnd_some hE
    refine ci (va_runV (As := []) (rest := []) ⟨hx, hb, hml, hown, hts⟩ (c_X5_atLeast l G σ r1 hC _) (cwV 0 hts gX6_worst_X5_atLeast rfl rfl rfl (by decide +kernel) ⟨Nat.le_of_ble_eq_true rfl, Nat.le_of_ble_eq_true rfl⟩) (preV hK hP hD hS hA hX (va_recv hK hP (ci := 5) (q0 := 20) rfl rfl)) rfl rfl hl.1 rfl (lv_room (Nat.le_of_ble_eq_true rfl)) dX6_worst_39 ⟨Nat.le_of_ble_eq_true rfl, Nat.le_of_ble_eq_true rfl⟩) hD hS hA (fun H locs hP hD hS => ?_)
    rw [← hQ, ← Option.some.inj hE]
    exact ri hx hb hr hlocks hK hP hD hS dX6_worst_42
  · have hE := im c_0 hE
    by_cases c_1 : x1 = (1 : Int32)
    · have hE := ip c_1 hE
      refine lv_tableIn (off := 42) (tgt := 43) hx hb dX6_worst_1 (by rw [c_1]; decide) (by rw [c_1]; decide) (by rw [c_1]; rfl) (by decide) ?_
      refine lv_aload_n hx hb dX6_worst_43 rfl (lv_at hl 0 rfl) ?_
      refine va_get (ci := 6) (v := .ref (aD G 22)) (C := RX6) (T := TX6) (N := 7) hx hb hts (fun _ h => List.mem_cons_of_mem _ (List.mem_append_left _ (List.mem_append_left _ (List.mem_append_right _ h)))) hown hK hP 25 rfl rfl 0 (by decide) (hts (.fieldLink RX6 10 "FillCells" "filling" "LFillCells$Filling;") (List.mem_of_getElem? (i := 1) rfl)) (fun _ h9 => h9) rfl dX6_worst_44 ?_
      refine va_get (ci := 1) (v := .ref (aD G 20)) (C := RX1) (T := TX1) (N := 9) hx hb hts (fun _ h => List.mem_cons_of_mem _ (List.mem_append_left _ (List.mem_append_right _ h))) hown hK hP 22 rfl rfl 1 (by decide) (hts (.fieldLink RX6 117 "FillCells$Filling" "windows" "LFillCells$Windows;") (List.mem_of_getElem? (i := 2) rfl)) (fun _ h9 => h9) rfl dX6_worst_47 ?_
      obtain ⟨r2, hC, hE⟩ := bnd_some hE
      refine ci (va_runV (As := []) (rest := []) ⟨hx, hb, hml, hown, hts⟩ (c_X5_atGreatest l G σ r2 hC _) (cwV 0 hts gX6_worst_X5_atGreatest rfl rfl rfl (by decide +kernel) ⟨Nat.le_of_ble_eq_true rfl, Nat.le_of_ble_eq_true rfl⟩) (preV hK hP hD hS hA hX (va_recv hK hP (ci := 5) (q0 := 20) rfl rfl)) rfl rfl hl.1 rfl (lv_room (Nat.le_of_ble_eq_true rfl)) dX6_worst_50 ⟨Nat.le_of_ble_eq_true rfl, Nat.le_of_ble_eq_true rfl⟩) hD hS hA (fun H locs hP hD hS => ?_)
      rw [← hQ, ← Option.some.inj hE]
      exact ri hx hb hr hlocks hK hP hD hS dX6_worst_53
    · have hE := im c_1 hE
      by_cases c_2 : x1 = (2 : Int32)
      · have hE := ip c_2 hE
        refine lv_tableIn (off := 53) (tgt := 54) hx hb dX6_worst_1 (by rw [c_2]; decide) (by rw [c_2]; decide) (by rw [c_2]; rfl) (by decide) ?_
        refine lv_aload_n hx hb dX6_worst_54 rfl (lv_at hl 0 rfl) ?_
        refine va_get (ci := 6) (v := .ref (aD G 22)) (C := RX6) (T := TX6) (N := 7) hx hb hts (fun _ h => List.mem_cons_of_mem _ (List.mem_append_left _ (List.mem_append_left _ (List.mem_append_right _ h)))) hown hK hP 25 rfl rfl 0 (by decide) (hts (.fieldLink RX6 10 "FillCells" "filling" "LFillCells$Filling;") (List.mem_of_getElem? (i := 1) rfl)) (fun _ h9 => h9) rfl dX6_worst_55 ?_
        refine va_get (ci := 1) (v := .ref (aD G 20)) (C := RX1) (T := TX1) (N := 9) hx hb hts (fun _ h => List.mem_cons_of_mem _ (List.mem_append_left _ (List.mem_append_right _ h))) hown hK hP 22 rfl rfl 1 (by decide) (hts (.fieldLink RX6 117 "FillCells$Filling" "windows" "LFillCells$Windows;") (List.mem_of_getElem? (i := 2) rfl)) (fun _ h9 => h9) rfl dX6_worst_58 ?_
        refine va_get (ci := 5) (v := .ref (aD G 5)) (C := RX5) (T := TX5) (N := 8) hx hb hts (fun _ h => List.mem_cons_of_mem _ (List.mem_append_right _ h)) hown hK hP 20 rfl rfl 4 (by decide) (hts (.fieldLink RX6 126 "FillCells$Windows" "sums" "[I") (List.mem_of_getElem? (i := 3) rfl)) (fun _ h9 => h9) rfl dX6_worst_61 ?_
        refine lv_aload_n hx hb dX6_worst_64 rfl (lv_at hl 0 rfl) ?_
        refine va_get (ci := 6) (v := .ref (aD G 22)) (C := RX6) (T := TX6) (N := 7) hx hb hts (fun _ h => List.mem_cons_of_mem _ (List.mem_append_left _ (List.mem_append_left _ (List.mem_append_right _ h)))) hown hK hP 25 rfl rfl 0 (by decide) (hts (.fieldLink RX6 10 "FillCells" "filling" "LFillCells$Filling;") (List.mem_of_getElem? (i := 1) rfl)) (fun _ h9 => h9) rfl dX6_worst_65 ?_
        refine va_get (ci := 1) (v := .ref (aD G 20)) (C := RX1) (T := TX1) (N := 9) hx hb hts (fun _ h => List.mem_cons_of_mem _ (List.mem_append_left _ (List.mem_append_right _ h))) hown hK hP 22 rfl rfl 1 (by decide) (hts (.fieldLink RX6 117 "FillCells$Filling" "windows" "LFillCells$Windows;") (List.mem_of_getElem? (i := 2) rfl)) (fun _ h9 => h9) rfl dX6_worst_68 ?_
        obtain ⟨r3, hC, hE⟩ := bnd_some hE
        refine ci (va_runV (As := []) (rest := [.ref (aD G 5)]) ⟨hx, hb, hml, hown, hts⟩ (c_X5_atLeast l G σ r3 hC _) (cwV 0 hts gX6_worst_X5_atLeast rfl rfl rfl (by decide +kernel) ⟨Nat.le_of_ble_eq_true rfl, Nat.le_of_ble_eq_true rfl⟩) (preV hK hP hD hS hA hX (va_recv hK hP (ci := 5) (q0 := 20) rfl rfl)) rfl rfl hl.1 rfl (lv_room (Nat.le_of_ble_eq_true rfl)) dX6_worst_71 ⟨Nat.le_of_ble_eq_true rfl, Nat.le_of_ble_eq_true rfl⟩) hD hS hA (fun H locs hP hD hS => ?_)
        obtain ⟨h_i, hE⟩ := gd_some hE
        refine ldC hx hb hK hP 5 (by decide) h_i dX6_worst_74 ?_
        rw [← hQ, ← Option.some.inj hE]
        exact ri hx hb hr hlocks hK hP hD hS dX6_worst_75
      · have hE := im c_2 hE
        by_cases c_3 : x1 = (3 : Int32)
        · have hE := ip c_3 hE
          refine lv_tableIn (off := 75) (tgt := 76) hx hb dX6_worst_1 (by rw [c_3]; decide) (by rw [c_3]; decide) (by rw [c_3]; rfl) (by decide) ?_
          refine lv_aload_n hx hb dX6_worst_76 rfl (lv_at hl 0 rfl) ?_
          refine va_get (ci := 6) (v := .ref (aD G 22)) (C := RX6) (T := TX6) (N := 7) hx hb hts (fun _ h => List.mem_cons_of_mem _ (List.mem_append_left _ (List.mem_append_left _ (List.mem_append_right _ h)))) hown hK hP 25 rfl rfl 0 (by decide) (hts (.fieldLink RX6 10 "FillCells" "filling" "LFillCells$Filling;") (List.mem_of_getElem? (i := 1) rfl)) (fun _ h9 => h9) rfl dX6_worst_77 ?_
          refine va_get (ci := 1) (v := .ref (aD G 20)) (C := RX1) (T := TX1) (N := 9) hx hb hts (fun _ h => List.mem_cons_of_mem _ (List.mem_append_left _ (List.mem_append_right _ h))) hown hK hP 22 rfl rfl 1 (by decide) (hts (.fieldLink RX6 117 "FillCells$Filling" "windows" "LFillCells$Windows;") (List.mem_of_getElem? (i := 2) rfl)) (fun _ h9 => h9) rfl dX6_worst_80 ?_
          refine va_get (ci := 5) (v := .ref (aD G 5)) (C := RX5) (T := TX5) (N := 8) hx hb hts (fun _ h => List.mem_cons_of_mem _ (List.mem_append_right _ h)) hown hK hP 20 rfl rfl 4 (by decide) (hts (.fieldLink RX6 126 "FillCells$Windows" "sums" "[I") (List.mem_of_getElem? (i := 3) rfl)) (fun _ h9 => h9) rfl dX6_worst_83 ?_
          refine lv_aload_n hx hb dX6_worst_86 rfl (lv_at hl 0 rfl) ?_
          refine va_get (ci := 6) (v := .ref (aD G 22)) (C := RX6) (T := TX6) (N := 7) hx hb hts (fun _ h => List.mem_cons_of_mem _ (List.mem_append_left _ (List.mem_append_left _ (List.mem_append_right _ h)))) hown hK hP 25 rfl rfl 0 (by decide) (hts (.fieldLink RX6 10 "FillCells" "filling" "LFillCells$Filling;") (List.mem_of_getElem? (i := 1) rfl)) (fun _ h9 => h9) rfl dX6_worst_87 ?_
          refine va_get (ci := 1) (v := .ref (aD G 20)) (C := RX1) (T := TX1) (N := 9) hx hb hts (fun _ h => List.mem_cons_of_mem _ (List.mem_append_left _ (List.mem_append_right _ h))) hown hK hP 22 rfl rfl 1 (by decide) (hts (.fieldLink RX6 117 "FillCells$Filling" "windows" "LFillCells$Windows;") (List.mem_of_getElem? (i := 2) rfl)) (fun _ h9 => h9) rfl dX6_worst_90 ?_
          obtain ⟨r4, hC, hE⟩ := bnd_some hE
          refine ci (va_runV (As := []) (rest := [.ref (aD G 5)]) ⟨hx, hb, hml, hown, hts⟩ (c_X5_atGreatest l G σ r4 hC _) (cwV 0 hts gX6_worst_X5_atGreatest rfl rfl rfl (by decide +kernel) ⟨Nat.le_of_ble_eq_true rfl, Nat.le_of_ble_eq_true rfl⟩) (preV hK hP hD hS hA hX (va_recv hK hP (ci := 5) (q0 := 20) rfl rfl)) rfl rfl hl.1 rfl (lv_room (Nat.le_of_ble_eq_true rfl)) dX6_worst_93 ⟨Nat.le_of_ble_eq_true rfl, Nat.le_of_ble_eq_true rfl⟩) hD hS hA (fun H locs hP hD hS => ?_)
          obtain ⟨h_i, hE⟩ := gd_some hE
          refine ldC hx hb hK hP 5 (by decide) h_i dX6_worst_96 ?_
          rw [← hQ, ← Option.some.inj hE]
          exact ri hx hb hr hlocks hK hP hD hS dX6_worst_97
        · have hE := im c_3 hE
          refine lv_tableOut (tgt := 98) hx hb dX6_worst_1 (by have q0 := lv_neT (a := 0) c_0 (by decide); have q1 := lv_neT (a := 1) c_1 (by decide); have q2 := lv_neT (a := 2) c_2 (by decide); have q3 := lv_neT (a := 3) c_3 (by decide); omega) (by decide) ?_
          refine lv_aload_n hx hb dX6_worst_98 rfl (lv_at hl 0 rfl) ?_
          refine lv_bipush (v := (-2 : Int32)) hx hb dX6_worst_99 (by decide) ?_
          obtain ⟨r5, hC, hE⟩ := bnd_some hE
          refine ci (va_runV (As := [.int (-2 : Int32)]) (rest := []) ⟨hx, hb, hml, hown, hts⟩ (c_X6_refuse l G (-2 : Int32) σ r5 hC _) (cwV 1 hts gX6_worst_X6_refuse rfl rfl rfl (by decide +kernel) ⟨Nat.le_of_ble_eq_true rfl, Nat.le_of_ble_eq_true rfl⟩) (preV hK hP hD hS hA hX (va_recv hK hP (ci := 6) (q0 := 25) rfl rfl)) rfl rfl hl.1 rfl (lv_room (Nat.le_of_ble_eq_true rfl)) dX6_worst_101 ⟨Nat.le_of_ble_eq_true rfl, Nat.le_of_ble_eq_true rfl⟩) hD hS hA (fun H locs hP hD hS => ?_)
          rw [← hQ, ← Option.some.inj hE]
          exact ri hx hb hr hlocks hK hP hD hS dX6_worst_104
abbrev rmX6_order : Room := { frames := 2, cells := 0, slots := 0, locals := 46 }
def f_X6_order_J13 (σ : St) : Option (Int32 × St) := bnd (f_X6_refuse (-2 : Int32) σ) (fun r1 => some (r1.1, r1.2))
def f_X6_order_J41 (x3 : Int32) (σ : St) : Option (Int32 × St) := some (x3, σ)
def f_X6_order (x1 x2 : Int32) (σ : St) : Option (Int32 × St) := if x1 < 0 then (f_X6_order_J13 σ) else (bnd (f_X6_isIn x2 (0 : Int32) (1 : Int32)) (fun r2 => if r2 = 0 then (f_X6_order_J13 σ) else (bnd (f_X5_unlikeSum x1 σ) (fun r3 => if x2 = 0 then (f_X6_order_J41 r3 σ) else (if r3 = (-1 : Int32) then (f_X6_order_J41 r3 σ) else (bnd (f_X5_countOf r3 σ) (fun r4 => some (r4, σ))))))))
set_option maxHeartbeats 4000000 in
set_option maxRecDepth 100000 in
theorem c_X6_order (l : Launch) (G : EV)  (x1 x2 : Int32) (σ : St) (r : (Int32 × St)) (hE : f_X6_order x1 x2 σ = some r) : MetI l G yX6_order wsX6_order rmX6_order [.ref (aD G 25), .int x1, .int x2] (wC G σ) r.1 (wC G r.2) := by
  refine Met.of0 (Qf := PI G r.1 (wC G r.2)) (cc := cX6_order) (maxL := 4) (ret := (some .int)) (by decide) rfl (Nat.le_of_ble_eq_true rfl) ?_
  intro p e s m below meth c args A hx hb hr hts hown hlocks hml hin0 hA hS hP hK hD hX ls hl
  have hl : lv_has ls 4 [(0, .ref (aD G 25)), (1, .int x1), (2, .int x2)] := hl
  generalize hQ : MQ below (PI G r.1 (wC G r.2) A) args s 0 0 A = Q
  unfold f_X6_order at hE
  have J_13 : ∀ (σ : St) (H : Heap) (locs : List Loc) (ls : Array Slot), va_P G.1 vwCl (wC G σ) H → va_D A (wC G σ) → va_S A s.heap H locs → lv_has ls 4 [(0, .ref (aD G 25))] → f_X6_order_J13 σ = some r → W p l e rmX6_order s m args below meth c H locs 0 0 Q (F0 m 13 ls []) := by
    intro σ H locs ls hP hD hS hl hE
    unfold f_X6_order_J13 at hE
    refine lv_aload_n hx hb dX6_order_13 rfl (lv_at hl 0 rfl) ?_
    refine lv_bipush (v := (-2 : Int32)) hx hb dX6_order_14 (by decide) ?_
    obtain ⟨r1, hC, hE⟩ := bnd_some hE
    refine ci (va_runV (As := [.int (-2 : Int32)]) (rest := []) ⟨hx, hb, hml, hown, hts⟩ (c_X6_refuse l G (-2 : Int32) σ r1 hC _) (cwV 1 hts gX6_order_X6_refuse rfl rfl rfl (by decide +kernel) ⟨Nat.le_of_ble_eq_true rfl, Nat.le_of_ble_eq_true rfl⟩) (preV hK hP hD hS hA hX (va_recv hK hP (ci := 6) (q0 := 25) rfl rfl)) rfl rfl hl.1 rfl (lv_room (Nat.le_of_ble_eq_true rfl)) dX6_order_16 ⟨Nat.le_of_ble_eq_true rfl, Nat.le_of_ble_eq_true rfl⟩) hD hS hA (fun H locs hP hD hS => ?_)
    rw [← hQ, ← Option.some.inj hE]
    exact ri hx hb hr hlocks hK hP hD hS dX6_order_19
  have J_41 : ∀ (x3 : Int32) (σ : St) (H : Heap) (locs : List Loc) (ls : Array Slot), va_P G.1 vwCl (wC G σ) H → va_D A (wC G σ) → va_S A s.heap H locs → lv_has ls 4 [(3, .int x3)] → f_X6_order_J41 x3 σ = some r → W p l e rmX6_order s m args below meth c H locs 0 0 Q (F0 m 41 ls []) := by
    intro x3 σ H locs ls hP hD hS hl hE
    unfold f_X6_order_J41 at hE
    refine lv_iload_n hx hb dX6_order_41 rfl (lv_at hl 0 rfl) ?_
    refine lv_goto (tgt := 56) hx hb dX6_order_42 (by decide) ?_
    rw [← hQ, ← Option.some.inj hE]
    exact ri hx hb hr hlocks hK hP hD hS dX6_order_56
  refine lv_iload_n hx hb dX6_order_0 rfl (lv_at hl 1 rfl) ?_
  refine lv_if_lt (tgt := 13) hx hb dX6_order_1 (by decide) (fun c_ => ?_) (fun c_ => ?_)
  · have hE := ip c_ hE
    exact J_13 σ _ _ _ hP hD hS (lv_sub hl [0] rfl) hE
  · have hE := im c_ hE
    refine lv_iload_n hx hb dX6_order_4 rfl (lv_at hl 2 rfl) ?_
    refine lv_iconst (v := (0 : Int32)) hx hb dX6_order_5 (by decide) ?_
    refine lv_iconst (v := (1 : Int32)) hx hb dX6_order_6 (by decide) ?_
    obtain ⟨r2, hC, hE⟩ := bnd_some hE
    refine ci (va_runS (As := [.int x2, .int (0 : Int32), .int (1 : Int32)]) (rest := []) ⟨hx, hb, hml, hown, hts⟩ (c_X6_isIn l G x2 (0 : Int32) (1 : Int32) σ r2 hC _) (va_cwS 3 hts gX6_order_X6_isIn rfl rfl rfl (by decide +kernel) ⟨Nat.le_of_ble_eq_true rfl, Nat.le_of_ble_eq_true rfl⟩) (preS hK hP hD hS hA hX) rfl rfl hl.1 rfl (lv_room (Nat.le_of_ble_eq_true rfl)) dX6_order_7 ⟨Nat.le_of_ble_eq_true rfl, Nat.le_of_ble_eq_true rfl⟩) hD hS hA (fun H locs hP hD hS => ?_)
    refine lv_if_ne (tgt := 20) hx hb dX6_order_10 (by decide) (fun c_ => ?_) (fun c_ => ?_)
    · have hE := im c_ hE
      refine lv_aload_n hx hb dX6_order_20 rfl (lv_at hl 0 rfl) ?_
      refine va_get (ci := 6) (v := .ref (aD G 22)) (C := RX6) (T := TX6) (N := 7) hx hb hts (fun _ h => List.mem_cons_of_mem _ (List.mem_append_left _ (List.mem_append_left _ (List.mem_append_right _ h)))) hown hK hP 25 rfl rfl 0 (by decide) (hts (.fieldLink RX6 10 "FillCells" "filling" "LFillCells$Filling;") (List.mem_of_getElem? (i := 1) rfl)) (fun _ h9 => h9) rfl dX6_order_21 ?_
      refine va_get (ci := 1) (v := .ref (aD G 20)) (C := RX1) (T := TX1) (N := 9) hx hb hts (fun _ h => List.mem_cons_of_mem _ (List.mem_append_left _ (List.mem_append_right _ h))) hown hK hP 22 rfl rfl 1 (by decide) (hts (.fieldLink RX6 117 "FillCells$Filling" "windows" "LFillCells$Windows;") (List.mem_of_getElem? (i := 2) rfl)) (fun _ h9 => h9) rfl dX6_order_24 ?_
      refine lv_iload_n hx hb dX6_order_27 rfl (lv_at hl 1 rfl) ?_
      obtain ⟨r3, hC, hE⟩ := bnd_some hE
      refine ci (va_runV (As := [.int x1]) (rest := []) ⟨hx, hb, hml, hown, hts⟩ (c_X5_unlikeSum l G x1 σ r3 hC _) (cwV 1 hts gX6_order_X5_unlikeSum rfl rfl rfl (by decide +kernel) ⟨Nat.le_of_ble_eq_true rfl, Nat.le_of_ble_eq_true rfl⟩) (preV hK hP hD hS hA hX (va_recv hK hP (ci := 5) (q0 := 20) rfl rfl)) rfl rfl hl.1 rfl (lv_room (Nat.le_of_ble_eq_true rfl)) dX6_order_28 ⟨Nat.le_of_ble_eq_true rfl, Nat.le_of_ble_eq_true rfl⟩) hD hS hA (fun H locs hP hD hS => ?_)
      refine lv_istore_n (lv' := [(3, .int r3), (0, .ref (aD G 25)), (1, .int x1), (2, .int x2)]) hx hb dX6_order_31 rfl hl (by decide) rfl (fun ls hl => ?_)
      refine lv_iload_n hx hb dX6_order_32 rfl (lv_at hl 3 rfl) ?_
      refine lv_if_eq (tgt := 41) hx hb dX6_order_33 (by decide) (fun c_ => ?_) (fun c_ => ?_)
      · have hE := ip c_ hE
        exact J_41 r3 σ _ _ _ hP hD hS (lv_sub hl [0] rfl) hE
      · have hE := im c_ hE
        refine lv_iload_n hx hb dX6_order_36 rfl (lv_at hl 0 rfl) ?_
        refine lv_iconst (v := (-1 : Int32)) hx hb dX6_order_37 (by decide) ?_
        refine lv_icmp_ne (tgt := 45) hx hb dX6_order_38 (by decide) (fun c_ => ?_) (fun c_ => ?_)
        · have hE := im c_ hE
          refine lv_aload_n hx hb dX6_order_45 rfl (lv_at hl 1 rfl) ?_
          refine va_get (ci := 6) (v := .ref (aD G 22)) (C := RX6) (T := TX6) (N := 7) hx hb hts (fun _ h => List.mem_cons_of_mem _ (List.mem_append_left _ (List.mem_append_left _ (List.mem_append_right _ h)))) hown hK hP 25 rfl rfl 0 (by decide) (hts (.fieldLink RX6 10 "FillCells" "filling" "LFillCells$Filling;") (List.mem_of_getElem? (i := 1) rfl)) (fun _ h9 => h9) rfl dX6_order_46 ?_
          refine va_get (ci := 1) (v := .ref (aD G 20)) (C := RX1) (T := TX1) (N := 9) hx hb hts (fun _ h => List.mem_cons_of_mem _ (List.mem_append_left _ (List.mem_append_right _ h))) hown hK hP 22 rfl rfl 1 (by decide) (hts (.fieldLink RX6 117 "FillCells$Filling" "windows" "LFillCells$Windows;") (List.mem_of_getElem? (i := 2) rfl)) (fun _ h9 => h9) rfl dX6_order_49 ?_
          refine lv_iload_n hx hb dX6_order_52 rfl (lv_at hl 0 rfl) ?_
          obtain ⟨r4, hC, hE⟩ := bnd_some hE
          refine ci (va_runV (As := [.int r3]) (rest := []) ⟨hx, hb, hml, hown, hts⟩ (c_X5_countOf l G r3 σ r4 hC _) (cwV 1 hts gX6_order_X5_countOf rfl rfl rfl (by decide +kernel) ⟨Nat.le_of_ble_eq_true rfl, Nat.le_of_ble_eq_true rfl⟩) (preV hK hP hD hS hA hX (va_recv hK hP (ci := 5) (q0 := 20) rfl rfl)) rfl rfl hl.1 rfl (lv_room (Nat.le_of_ble_eq_true rfl)) dX6_order_53 ⟨Nat.le_of_ble_eq_true rfl, Nat.le_of_ble_eq_true rfl⟩) hD hS hA (fun H locs hP hD hS => ?_)
          rw [← hQ, ← Option.some.inj hE]
          exact ri hx hb hr hlocks hK hP hD hS dX6_order_56
        · have hE := ip c_ hE
          exact J_41 r3 σ _ _ _ hP hD hS (lv_sub hl [0] rfl) hE
    · have hE := ip c_ hE
      exact J_13 σ _ _ _ hP hD hS (lv_sub hl [0] rfl) hE
abbrev rmX6_turn : Room := { frames := 2, cells := 0, slots := 0, locals := 49 }

def f_X6_turn (x1 : Int32) (σ : St) : Option (Int32 × St) := if 0 ≤ x1 then (bnd (f_X5_rising x1 σ) (fun r1 => some (r1, σ))) else (bnd (f_X6_refuse (-2 : Int32) σ) (fun r2 => some (r2.1, r2.2)))
set_option maxHeartbeats 4000000 in
set_option maxRecDepth 100000 in
theorem c_X6_turn (l : Launch) (G : EV)  (x1 : Int32) (σ : St) (r : (Int32 × St)) (hE : f_X6_turn x1 σ = some r) : MetI l G yX6_turn wsX6_turn rmX6_turn [.ref (aD G 25), .int x1] (wC G σ) r.1 (wC G r.2) := by
  refine Met.of0 (Qf := PI G r.1 (wC G r.2)) (cc := cX6_turn) (maxL := 2) (ret := (some .int)) (by decide) rfl (Nat.le_of_ble_eq_true rfl) ?_
  intro p e s m below meth c args A hx hb hr hts hown hlocks hml hin0 hA hS hP hK hD hX ls hl
  have hl : lv_has ls 2 [(0, .ref (aD G 25)), (1, .int x1)] := hl
  generalize hQ : MQ below (PI G r.1 (wC G r.2) A) args s 0 0 A = Q
  unfold f_X6_turn at hE
  refine lv_iload_n hx hb dX6_turn_0 rfl (lv_at hl 1 rfl) ?_
  refine lv_if_ge (tgt := 13) hx hb dX6_turn_1 (by decide) (fun c_ => ?_) (fun c_ => ?_)
  · have hE := ip c_ hE
    refine lv_aload_n hx hb dX6_turn_13 rfl (lv_at hl 0 rfl) ?_
    refine va_get (ci := 6) (v := .ref (aD G 22)) (C := RX6) (T := TX6) (N := 7) hx hb hts (fun _ h => List.mem_cons_of_mem _ (List.mem_append_left _ (List.mem_append_left _ (List.mem_append_right _ h)))) hown hK hP 25 rfl rfl 0 (by decide) (hts (.fieldLink RX6 10 "FillCells" "filling" "LFillCells$Filling;") (List.mem_of_getElem? (i := 1) rfl)) (fun _ h9 => h9) rfl dX6_turn_14 ?_
    refine va_get (ci := 1) (v := .ref (aD G 20)) (C := RX1) (T := TX1) (N := 9) hx hb hts (fun _ h => List.mem_cons_of_mem _ (List.mem_append_left _ (List.mem_append_right _ h))) hown hK hP 22 rfl rfl 1 (by decide) (hts (.fieldLink RX6 117 "FillCells$Filling" "windows" "LFillCells$Windows;") (List.mem_of_getElem? (i := 2) rfl)) (fun _ h9 => h9) rfl dX6_turn_17 ?_
    refine lv_iload_n hx hb dX6_turn_20 rfl (lv_at hl 1 rfl) ?_
    obtain ⟨r1, hC, hE⟩ := bnd_some hE
    refine ci (va_runV (As := [.int x1]) (rest := []) ⟨hx, hb, hml, hown, hts⟩ (c_X5_rising l G x1 σ r1 hC _) (cwV 1 hts gX6_turn_X5_rising rfl rfl rfl (by decide +kernel) ⟨Nat.le_of_ble_eq_true rfl, Nat.le_of_ble_eq_true rfl⟩) (preV hK hP hD hS hA hX (va_recv hK hP (ci := 5) (q0 := 20) rfl rfl)) rfl rfl hl.1 rfl (lv_room (Nat.le_of_ble_eq_true rfl)) dX6_turn_21 ⟨Nat.le_of_ble_eq_true rfl, Nat.le_of_ble_eq_true rfl⟩) hD hS hA (fun H locs hP hD hS => ?_)
    rw [← hQ, ← Option.some.inj hE]
    exact ri hx hb hr hlocks hK hP hD hS dX6_turn_24
  · have hE := im c_ hE
    refine lv_aload_n hx hb dX6_turn_4 rfl (lv_at hl 0 rfl) ?_
    refine lv_bipush (v := (-2 : Int32)) hx hb dX6_turn_5 (by decide) ?_
    obtain ⟨r2, hC, hE⟩ := bnd_some hE
    refine ci (va_runV (As := [.int (-2 : Int32)]) (rest := []) ⟨hx, hb, hml, hown, hts⟩ (c_X6_refuse l G (-2 : Int32) σ r2 hC _) (cwV 1 hts gX6_turn_X6_refuse rfl rfl rfl (by decide +kernel) ⟨Nat.le_of_ble_eq_true rfl, Nat.le_of_ble_eq_true rfl⟩) (preV hK hP hD hS hA hX (va_recv hK hP (ci := 6) (q0 := 25) rfl rfl)) rfl rfl hl.1 rfl (lv_room (Nat.le_of_ble_eq_true rfl)) dX6_turn_7 ⟨Nat.le_of_ble_eq_true rfl, Nat.le_of_ble_eq_true rfl⟩) hD hS hA (fun H locs hP hD hS => ?_)
    refine lv_goto (tgt := 24) hx hb dX6_turn_10 (by decide) ?_
    rw [← hQ, ← Option.some.inj hE]
    exact ri hx hb hr hlocks hK hP hD hS dX6_turn_24
abbrev rmX6_burden : Room := { frames := 1, cells := 0, slots := 0, locals := 22 }

def f_X6_burden (x1 : Int32) (σ : St) : Option (Int32 × St) := bnd (f_X6_isIn x1 (1 : Int32) (3 : Int32)) (fun r1 => if r1 = 0 then (bnd (f_X6_refuse (-2 : Int32) σ) (fun r2 => some (r2.1, r2.2))) else (gd x1 4 (some ((rd σ 10 x1), σ))))
set_option maxHeartbeats 4000000 in
set_option maxRecDepth 100000 in
theorem c_X6_burden (l : Launch) (G : EV)  (x1 : Int32) (σ : St) (r : (Int32 × St)) (hE : f_X6_burden x1 σ = some r) : MetI l G yX6_burden wsX6_burden rmX6_burden [.ref (aD G 25), .int x1] (wC G σ) r.1 (wC G r.2) := by
  refine Met.of0 (Qf := PI G r.1 (wC G r.2)) (cc := cX6_burden) (maxL := 2) (ret := (some .int)) (by decide) rfl (Nat.le_of_ble_eq_true rfl) ?_
  intro p e s m below meth c args A hx hb hr hts hown hlocks hml hin0 hA hS hP hK hD hX ls hl
  have hl : lv_has ls 2 [(0, .ref (aD G 25)), (1, .int x1)] := hl
  generalize hQ : MQ below (PI G r.1 (wC G r.2) A) args s 0 0 A = Q
  unfold f_X6_burden at hE
  refine lv_iload_n hx hb dX6_burden_0 rfl (lv_at hl 1 rfl) ?_
  refine lv_iconst (v := (1 : Int32)) hx hb dX6_burden_1 (by decide) ?_
  refine lv_iconst (v := (3 : Int32)) hx hb dX6_burden_2 (by decide) ?_
  obtain ⟨r1, hC, hE⟩ := bnd_some hE
  refine ci (va_runS (As := [.int x1, .int (1 : Int32), .int (3 : Int32)]) (rest := []) ⟨hx, hb, hml, hown, hts⟩ (c_X6_isIn l G x1 (1 : Int32) (3 : Int32) σ r1 hC _) (va_cwS 3 hts gX6_burden_X6_isIn rfl rfl rfl (by decide +kernel) ⟨Nat.le_of_ble_eq_true rfl, Nat.le_of_ble_eq_true rfl⟩) (preS hK hP hD hS hA hX) rfl rfl hl.1 rfl (lv_room (Nat.le_of_ble_eq_true rfl)) dX6_burden_3 ⟨Nat.le_of_ble_eq_true rfl, Nat.le_of_ble_eq_true rfl⟩) hD hS hA (fun H locs hP hD hS => ?_)
  refine lv_if_eq (tgt := 24) hx hb dX6_burden_6 (by decide) (fun c_ => ?_) (fun c_ => ?_)
  · have hE := ip c_ hE
    refine lv_aload_n hx hb dX6_burden_24 rfl (lv_at hl 0 rfl) ?_
    refine lv_bipush (v := (-2 : Int32)) hx hb dX6_burden_25 (by decide) ?_
    obtain ⟨r2, hC, hE⟩ := bnd_some hE
    refine ci (va_runV (As := [.int (-2 : Int32)]) (rest := []) ⟨hx, hb, hml, hown, hts⟩ (c_X6_refuse l G (-2 : Int32) σ r2 hC _) (cwV 1 hts gX6_burden_X6_refuse rfl rfl rfl (by decide +kernel) ⟨Nat.le_of_ble_eq_true rfl, Nat.le_of_ble_eq_true rfl⟩) (preV hK hP hD hS hA hX (va_recv hK hP (ci := 6) (q0 := 25) rfl rfl)) rfl rfl hl.1 rfl (lv_room (Nat.le_of_ble_eq_true rfl)) dX6_burden_27 ⟨Nat.le_of_ble_eq_true rfl, Nat.le_of_ble_eq_true rfl⟩) hD hS hA (fun H locs hP hD hS => ?_)
    rw [← hQ, ← Option.some.inj hE]
    exact ri hx hb hr hlocks hK hP hD hS dX6_burden_30
  · have hE := im c_ hE
    refine lv_aload_n hx hb dX6_burden_9 rfl (lv_at hl 0 rfl) ?_
    refine va_get (ci := 6) (v := .ref (aD G 22)) (C := RX6) (T := TX6) (N := 7) hx hb hts (fun _ h => List.mem_cons_of_mem _ (List.mem_append_left _ (List.mem_append_left _ (List.mem_append_right _ h)))) hown hK hP 25 rfl rfl 0 (by decide) (hts (.fieldLink RX6 10 "FillCells" "filling" "LFillCells$Filling;") (List.mem_of_getElem? (i := 1) rfl)) (fun _ h9 => h9) rfl dX6_burden_10 ?_
    refine va_get (ci := 1) (v := .ref (aD G 21)) (C := RX1) (T := TX1) (N := 9) hx hb hts (fun _ h => List.mem_cons_of_mem _ (List.mem_append_left _ (List.mem_append_right _ h))) hown hK hP 22 rfl rfl 2 (by decide) (hts (.fieldLink RX6 157 "FillCells$Filling" "nets" "LFillCells$Nets;") (List.mem_of_getElem? (i := 2) rfl)) (fun _ h9 => h9) rfl dX6_burden_13 ?_
    refine va_get (ci := 3) (v := .ref (aD G 10)) (C := RX3) (T := TX3) (N := 4) hx hb hts (fun _ h => List.mem_cons_of_mem _ (List.mem_append_right _ h)) hown hK hP 21 rfl rfl 1 (by decide) (hts (.fieldLink RX6 161 "FillCells$Nets" "burdens" "[I") (List.mem_of_getElem? (i := 3) rfl)) (fun _ h9 => h9) rfl dX6_burden_16 ?_
    refine lv_iload_n hx hb dX6_burden_19 rfl (lv_at hl 1 rfl) ?_
    obtain ⟨h_i, hE⟩ := gd_some hE
    refine ldC hx hb hK hP 10 (by decide) h_i dX6_burden_20 ?_
    refine lv_goto (tgt := 30) hx hb dX6_burden_21 (by decide) ?_
    rw [← hQ, ← Option.some.inj hE]
    exact ri hx hb hr hlocks hK hP hD hS dX6_burden_30
abbrev rmX6_all : Room := { frames := 1, cells := 0, slots := 0, locals := 25 }

def f_X6_all (x1 : Int32) (σ : St) : Option (Int32 × St) := if x1 = (0 : Int32) then (bnd (f_X6_total 4 σ) (fun r1 => some (r1, σ))) else (if x1 = (1 : Int32) then (bnd (f_X6_total 0 σ) (fun r2 => some (r2, σ))) else (if x1 = (2 : Int32) then (bnd (f_X0_countFilled σ) (fun r3 => some (r3, σ))) else (if x1 = (3 : Int32) then (bnd (f_X6_total 1 σ) (fun r4 => some (r4, σ))) else (bnd (f_X6_refuse (-2 : Int32) σ) (fun r5 => some (r5.1, r5.2))))))
set_option maxHeartbeats 4000000 in
set_option maxRecDepth 100000 in
theorem c_X6_all (l : Launch) (G : EV)  (x1 : Int32) (σ : St) (r : (Int32 × St)) (hE : f_X6_all x1 σ = some r) : MetI l G yX6_all wsX6_all rmX6_all [.ref (aD G 25), .int x1] (wC G σ) r.1 (wC G r.2) := by
  refine Met.of0 (Qf := PI G r.1 (wC G r.2)) (cc := cX6_all) (maxL := 2) (ret := (some .int)) (by decide) rfl (Nat.le_of_ble_eq_true rfl) ?_
  intro p e s m below meth c args A hx hb hr hts hown hlocks hml hin0 hA hS hP hK hD hX ls hl
  have hl : lv_has ls 2 [(0, .ref (aD G 25)), (1, .int x1)] := hl
  generalize hQ : MQ below (PI G r.1 (wC G r.2) A) args s 0 0 A = Q
  unfold f_X6_all at hE
  refine lv_iload_n hx hb dX6_all_0 rfl (lv_at hl 1 rfl) ?_
  by_cases c_0 : x1 = (0 : Int32)
  · have hE := ip c_0 hE
    refine lv_tableIn (off := 31) (tgt := 32) hx hb dX6_all_1 (by rw [c_0]; decide) (by rw [c_0]; decide) (by rw [c_0]; rfl) (by decide) ?_
    refine lv_aload_n hx hb dX6_all_32 rfl (lv_at hl 0 rfl) ?_
    refine va_get (ci := 6) (v := .ref (aD G 22)) (C := RX6) (T := TX6) (N := 7) hx hb hts (fun _ h => List.mem_cons_of_mem _ (List.mem_append_left _ (List.mem_append_left _ (List.mem_append_right _ h)))) hown hK hP 25 rfl rfl 0 (by decide) (hts (.fieldLink RX6 10 "FillCells" "filling" "LFillCells$Filling;") (List.mem_of_getElem? (i := 1) rfl)) (fun _ h9 => h9) rfl dX6_all_33 ?_
    refine va_get (ci := 1) (v := .ref (aD G 19)) (C := RX1) (T := TX1) (N := 9) hx hb hts (fun _ h => List.mem_cons_of_mem _ (List.mem_append_left _ (List.mem_append_right _ h))) hown hK hP 22 rfl rfl 0 (by decide) (hts (.fieldLink RX6 65 "FillCells$Filling" "field" "LFillCells$Field;") (List.mem_of_getElem? (i := 2) rfl)) (fun _ h9 => h9) rfl dX6_all_36 ?_
    refine va_get (ci := 0) (v := .ref (aD G 4)) (C := RX0) (T := TX0) (N := 5) hx hb hts (fun _ h => List.mem_cons_of_mem _ (List.mem_append_right _ h)) hown hK hP 19 rfl rfl 4 (by decide) (hts (.fieldLink RX6 93 "FillCells$Field" "fill" "[I") (List.mem_of_getElem? (i := 3) rfl)) (fun _ h9 => h9) rfl dX6_all_39 ?_
    obtain ⟨r1, hC, hE⟩ := bnd_some hE
    refine ci (va_runS (As := [.ref (aD G 4)]) (rest := []) ⟨hx, hb, hml, hown, hts⟩ (c_X6_total l G 4 (by decide) σ r1 hC _) (va_cwS 1 hts gX6_all_X6_total rfl rfl rfl (by decide +kernel) ⟨Nat.le_of_ble_eq_true rfl, Nat.le_of_ble_eq_true rfl⟩) (preS hK hP hD hS hA hX) rfl rfl hl.1 rfl (lv_room (Nat.le_of_ble_eq_true rfl)) dX6_all_42 ⟨Nat.le_of_ble_eq_true rfl, Nat.le_of_ble_eq_true rfl⟩) hD hS hA (fun H locs hP hD hS => ?_)
    rw [← hQ, ← Option.some.inj hE]
    exact ri hx hb hr hlocks hK hP hD hS dX6_all_45
  · have hE := im c_0 hE
    by_cases c_1 : x1 = (1 : Int32)
    · have hE := ip c_1 hE
      refine lv_tableIn (off := 45) (tgt := 46) hx hb dX6_all_1 (by rw [c_1]; decide) (by rw [c_1]; decide) (by rw [c_1]; rfl) (by decide) ?_
      refine lv_aload_n hx hb dX6_all_46 rfl (lv_at hl 0 rfl) ?_
      refine va_get (ci := 6) (v := .ref (aD G 22)) (C := RX6) (T := TX6) (N := 7) hx hb hts (fun _ h => List.mem_cons_of_mem _ (List.mem_append_left _ (List.mem_append_left _ (List.mem_append_right _ h)))) hown hK hP 25 rfl rfl 0 (by decide) (hts (.fieldLink RX6 10 "FillCells" "filling" "LFillCells$Filling;") (List.mem_of_getElem? (i := 1) rfl)) (fun _ h9 => h9) rfl dX6_all_47 ?_
      refine va_get (ci := 1) (v := .ref (aD G 19)) (C := RX1) (T := TX1) (N := 9) hx hb hts (fun _ h => List.mem_cons_of_mem _ (List.mem_append_left _ (List.mem_append_right _ h))) hown hK hP 22 rfl rfl 0 (by decide) (hts (.fieldLink RX6 65 "FillCells$Filling" "field" "LFillCells$Field;") (List.mem_of_getElem? (i := 2) rfl)) (fun _ h9 => h9) rfl dX6_all_50 ?_
      refine va_get (ci := 0) (v := .ref (aD G 0)) (C := RX0) (T := TX0) (N := 5) hx hb hts (fun _ h => List.mem_cons_of_mem _ (List.mem_append_right _ h)) hown hK hP 19 rfl rfl 0 (by decide) (hts (.fieldLink RX6 101 "FillCells$Field" "shapes" "[I") (List.mem_of_getElem? (i := 4) rfl)) (fun _ h9 => h9) rfl dX6_all_53 ?_
      obtain ⟨r2, hC, hE⟩ := bnd_some hE
      refine ci (va_runS (As := [.ref (aD G 0)]) (rest := []) ⟨hx, hb, hml, hown, hts⟩ (c_X6_total l G 0 (by decide) σ r2 hC _) (va_cwS 1 hts gX6_all_X6_total rfl rfl rfl (by decide +kernel) ⟨Nat.le_of_ble_eq_true rfl, Nat.le_of_ble_eq_true rfl⟩) (preS hK hP hD hS hA hX) rfl rfl hl.1 rfl (lv_room (Nat.le_of_ble_eq_true rfl)) dX6_all_56 ⟨Nat.le_of_ble_eq_true rfl, Nat.le_of_ble_eq_true rfl⟩) hD hS hA (fun H locs hP hD hS => ?_)
      rw [← hQ, ← Option.some.inj hE]
      exact ri hx hb hr hlocks hK hP hD hS dX6_all_59
    · have hE := im c_1 hE
      by_cases c_2 : x1 = (2 : Int32)
      · have hE := ip c_2 hE
        refine lv_tableIn (off := 59) (tgt := 60) hx hb dX6_all_1 (by rw [c_2]; decide) (by rw [c_2]; decide) (by rw [c_2]; rfl) (by decide) ?_
        refine lv_aload_n hx hb dX6_all_60 rfl (lv_at hl 0 rfl) ?_
        refine va_get (ci := 6) (v := .ref (aD G 22)) (C := RX6) (T := TX6) (N := 7) hx hb hts (fun _ h => List.mem_cons_of_mem _ (List.mem_append_left _ (List.mem_append_left _ (List.mem_append_right _ h)))) hown hK hP 25 rfl rfl 0 (by decide) (hts (.fieldLink RX6 10 "FillCells" "filling" "LFillCells$Filling;") (List.mem_of_getElem? (i := 1) rfl)) (fun _ h9 => h9) rfl dX6_all_61 ?_
        refine va_get (ci := 1) (v := .ref (aD G 19)) (C := RX1) (T := TX1) (N := 9) hx hb hts (fun _ h => List.mem_cons_of_mem _ (List.mem_append_left _ (List.mem_append_right _ h))) hown hK hP 22 rfl rfl 0 (by decide) (hts (.fieldLink RX6 65 "FillCells$Filling" "field" "LFillCells$Field;") (List.mem_of_getElem? (i := 2) rfl)) (fun _ h9 => h9) rfl dX6_all_64 ?_
        obtain ⟨r3, hC, hE⟩ := bnd_some hE
        refine ci (va_runV (As := []) (rest := []) ⟨hx, hb, hml, hown, hts⟩ (c_X0_countFilled l G σ r3 hC _) (cwV 0 hts gX6_all_X0_countFilled rfl rfl rfl (by decide +kernel) ⟨Nat.le_of_ble_eq_true rfl, Nat.le_of_ble_eq_true rfl⟩) (preV hK hP hD hS hA hX (va_recv hK hP (ci := 0) (q0 := 19) rfl rfl)) rfl rfl hl.1 rfl (lv_room (Nat.le_of_ble_eq_true rfl)) dX6_all_67 ⟨Nat.le_of_ble_eq_true rfl, Nat.le_of_ble_eq_true rfl⟩) hD hS hA (fun H locs hP hD hS => ?_)
        rw [← hQ, ← Option.some.inj hE]
        exact ri hx hb hr hlocks hK hP hD hS dX6_all_70
      · have hE := im c_2 hE
        by_cases c_3 : x1 = (3 : Int32)
        · have hE := ip c_3 hE
          refine lv_tableIn (off := 70) (tgt := 71) hx hb dX6_all_1 (by rw [c_3]; decide) (by rw [c_3]; decide) (by rw [c_3]; rfl) (by decide) ?_
          refine lv_aload_n hx hb dX6_all_71 rfl (lv_at hl 0 rfl) ?_
          refine va_get (ci := 6) (v := .ref (aD G 22)) (C := RX6) (T := TX6) (N := 7) hx hb hts (fun _ h => List.mem_cons_of_mem _ (List.mem_append_left _ (List.mem_append_left _ (List.mem_append_right _ h)))) hown hK hP 25 rfl rfl 0 (by decide) (hts (.fieldLink RX6 10 "FillCells" "filling" "LFillCells$Filling;") (List.mem_of_getElem? (i := 1) rfl)) (fun _ h9 => h9) rfl dX6_all_72 ?_
          refine va_get (ci := 1) (v := .ref (aD G 19)) (C := RX1) (T := TX1) (N := 9) hx hb hts (fun _ h => List.mem_cons_of_mem _ (List.mem_append_left _ (List.mem_append_right _ h))) hown hK hP 22 rfl rfl 0 (by decide) (hts (.fieldLink RX6 65 "FillCells$Filling" "field" "LFillCells$Field;") (List.mem_of_getElem? (i := 2) rfl)) (fun _ h9 => h9) rfl dX6_all_75 ?_
          refine va_get (ci := 0) (v := .ref (aD G 1)) (C := RX0) (T := TX0) (N := 5) hx hb hts (fun _ h => List.mem_cons_of_mem _ (List.mem_append_right _ h)) hown hK hP 19 rfl rfl 1 (by decide) (hts (.fieldLink RX6 169 "FillCells$Field" "shut" "[I") (List.mem_of_getElem? (i := 5) rfl)) (fun _ h9 => h9) rfl dX6_all_78 ?_
          obtain ⟨r4, hC, hE⟩ := bnd_some hE
          refine ci (va_runS (As := [.ref (aD G 1)]) (rest := []) ⟨hx, hb, hml, hown, hts⟩ (c_X6_total l G 1 (by decide) σ r4 hC _) (va_cwS 1 hts gX6_all_X6_total rfl rfl rfl (by decide +kernel) ⟨Nat.le_of_ble_eq_true rfl, Nat.le_of_ble_eq_true rfl⟩) (preS hK hP hD hS hA hX) rfl rfl hl.1 rfl (lv_room (Nat.le_of_ble_eq_true rfl)) dX6_all_81 ⟨Nat.le_of_ble_eq_true rfl, Nat.le_of_ble_eq_true rfl⟩) hD hS hA (fun H locs hP hD hS => ?_)
          rw [← hQ, ← Option.some.inj hE]
          exact ri hx hb hr hlocks hK hP hD hS dX6_all_84
        · have hE := im c_3 hE
          refine lv_tableOut (tgt := 85) hx hb dX6_all_1 (by have q0 := lv_neT (a := 0) c_0 (by decide); have q1 := lv_neT (a := 1) c_1 (by decide); have q2 := lv_neT (a := 2) c_2 (by decide); have q3 := lv_neT (a := 3) c_3 (by decide); omega) (by decide) ?_
          refine lv_aload_n hx hb dX6_all_85 rfl (lv_at hl 0 rfl) ?_
          refine lv_bipush (v := (-2 : Int32)) hx hb dX6_all_86 (by decide) ?_
          obtain ⟨r5, hC, hE⟩ := bnd_some hE
          refine ci (va_runV (As := [.int (-2 : Int32)]) (rest := []) ⟨hx, hb, hml, hown, hts⟩ (c_X6_refuse l G (-2 : Int32) σ r5 hC _) (cwV 1 hts gX6_all_X6_refuse rfl rfl rfl (by decide +kernel) ⟨Nat.le_of_ble_eq_true rfl, Nat.le_of_ble_eq_true rfl⟩) (preV hK hP hD hS hA hX (va_recv hK hP (ci := 6) (q0 := 25) rfl rfl)) rfl rfl hl.1 rfl (lv_room (Nat.le_of_ble_eq_true rfl)) dX6_all_88 ⟨Nat.le_of_ble_eq_true rfl, Nat.le_of_ble_eq_true rfl⟩) hD hS hA (fun H locs hP hD hS => ?_)
          rw [← hQ, ← Option.some.inj hE]
          exact ri hx hb hr hlocks hK hP hD hS dX6_all_91
abbrev rmX6_changeFamily : Room := { frames := 4, cells := 0, slots := 0, locals := 101 }

def f_X6_changeFamily (x1 x2 : Int32) (σ : St) : Option (Int32 × St) := bnd (f_X2_note σ) (fun r1 => bnd (f_X1_change x1 x2 r1) (fun r2 => bnd (f_X2_keep r2) (fun r3 => gd x1 80 (some ((rd r3 4 x1), r3)))))
set_option maxHeartbeats 4000000 in
set_option maxRecDepth 100000 in
theorem c_X6_changeFamily (l : Launch) (G : EV)  (x1 x2 : Int32) (σ : St) (r : (Int32 × St)) (hE : f_X6_changeFamily x1 x2 σ = some r) : MetI l G yX6_changeFamily wsX6_changeFamily rmX6_changeFamily [.ref (aD G 25), .int x1, .int x2] (wC G σ) r.1 (wC G r.2) := by
  refine Met.of0 (Qf := PI G r.1 (wC G r.2)) (cc := cX6_changeFamily) (maxL := 3) (ret := (some .int)) (by decide) rfl (Nat.le_of_ble_eq_true rfl) ?_
  intro p e s m below meth c args A hx hb hr hts hown hlocks hml hin0 hA hS hP hK hD hX ls hl
  have hl : lv_has ls 3 [(0, .ref (aD G 25)), (1, .int x1), (2, .int x2)] := hl
  generalize hQ : MQ below (PI G r.1 (wC G r.2) A) args s 0 0 A = Q
  unfold f_X6_changeFamily at hE
  refine lv_aload_n hx hb dX6_changeFamily_0 rfl (lv_at hl 0 rfl) ?_
  refine va_get (ci := 6) (v := .ref (aD G 23)) (C := RX6) (T := TX6) (N := 7) hx hb hts (fun _ h => List.mem_cons_of_mem _ (List.mem_append_left _ (List.mem_append_left _ (List.mem_append_left _ (List.mem_append_left _ (List.mem_append_left _ (List.mem_append_right _ h))))))) hown hK hP 25 rfl rfl 1 (by decide) (hts (.fieldLink RX6 19 "FillCells" "history" "LFillCells$History;") (List.mem_of_getElem? (i := 1) rfl)) (fun _ h9 => h9) rfl dX6_changeFamily_1 ?_
  refine lv_aload_n hx hb dX6_changeFamily_4 rfl (lv_at hl 0 rfl) ?_
  refine va_get (ci := 6) (v := .ref (aD G 22)) (C := RX6) (T := TX6) (N := 7) hx hb hts (fun _ h => List.mem_cons_of_mem _ (List.mem_append_left _ (List.mem_append_left _ (List.mem_append_left _ (List.mem_append_left _ (List.mem_append_left _ (List.mem_append_right _ h))))))) hown hK hP 25 rfl rfl 0 (by decide) (hts (.fieldLink RX6 10 "FillCells" "filling" "LFillCells$Filling;") (List.mem_of_getElem? (i := 2) rfl)) (fun _ h9 => h9) rfl dX6_changeFamily_5 ?_
  refine va_get (ci := 1) (v := .ref (aD G 19)) (C := RX1) (T := TX1) (N := 9) hx hb hts (fun _ h => List.mem_cons_of_mem _ (List.mem_append_left _ (List.mem_append_left _ (List.mem_append_left _ (List.mem_append_left _ (List.mem_append_right _ h)))))) hown hK hP 22 rfl rfl 0 (by decide) (hts (.fieldLink RX6 65 "FillCells$Filling" "field" "LFillCells$Field;") (List.mem_of_getElem? (i := 3) rfl)) (fun _ h9 => h9) rfl dX6_changeFamily_8 ?_
  obtain ⟨r1, hC, hE⟩ := bnd_some hE
  refine cv (va_runV (As := [.ref (aD G 19)]) (rest := []) ⟨hx, hb, hml, hown, hts⟩ (c_X2_note l G σ r1 hC _) (cwV 1 hts gX6_changeFamily_X2_note rfl rfl rfl (by decide +kernel) ⟨Nat.le_of_ble_eq_true rfl, Nat.le_of_ble_eq_true rfl⟩) (preV hK hP hD hS hA hX (va_recv hK hP (ci := 2) (q0 := 23) rfl rfl)) rfl rfl hl.1 rfl (lv_room (Nat.le_of_ble_eq_true rfl)) dX6_changeFamily_11 ⟨Nat.le_of_ble_eq_true rfl, Nat.le_of_ble_eq_true rfl⟩) hD hS hA (fun H locs hP hD hS => ?_)
  refine lv_aload_n hx hb dX6_changeFamily_14 rfl (lv_at hl 0 rfl) ?_
  refine va_get (ci := 6) (v := .ref (aD G 22)) (C := RX6) (T := TX6) (N := 7) hx hb hts (fun _ h => List.mem_cons_of_mem _ (List.mem_append_left _ (List.mem_append_left _ (List.mem_append_left _ (List.mem_append_left _ (List.mem_append_left _ (List.mem_append_right _ h))))))) hown hK hP 25 rfl rfl 0 (by decide) (hts (.fieldLink RX6 10 "FillCells" "filling" "LFillCells$Filling;") (List.mem_of_getElem? (i := 2) rfl)) (fun _ h9 => h9) rfl dX6_changeFamily_15 ?_
  refine lv_iload_n hx hb dX6_changeFamily_18 rfl (lv_at hl 1 rfl) ?_
  refine lv_iload_n hx hb dX6_changeFamily_19 rfl (lv_at hl 2 rfl) ?_
  obtain ⟨r2, hC, hE⟩ := bnd_some hE
  refine cv (va_runV (As := [.int x1, .int x2]) (rest := []) ⟨hx, hb, hml, hown, hts⟩ (c_X1_change l G x1 x2 r1 r2 hC _) (cwV 2 hts gX6_changeFamily_X1_change rfl rfl rfl (by decide +kernel) ⟨Nat.le_of_ble_eq_true rfl, Nat.le_of_ble_eq_true rfl⟩) (preV hK hP hD hS hA hX (va_recv hK hP (ci := 1) (q0 := 22) rfl rfl)) rfl rfl hl.1 rfl (lv_room (Nat.le_of_ble_eq_true rfl)) dX6_changeFamily_20 ⟨Nat.le_of_ble_eq_true rfl, Nat.le_of_ble_eq_true rfl⟩) hD hS hA (fun H locs hP hD hS => ?_)
  refine lv_aload_n hx hb dX6_changeFamily_23 rfl (lv_at hl 0 rfl) ?_
  refine va_get (ci := 6) (v := .ref (aD G 23)) (C := RX6) (T := TX6) (N := 7) hx hb hts (fun _ h => List.mem_cons_of_mem _ (List.mem_append_left _ (List.mem_append_left _ (List.mem_append_left _ (List.mem_append_left _ (List.mem_append_left _ (List.mem_append_right _ h))))))) hown hK hP 25 rfl rfl 1 (by decide) (hts (.fieldLink RX6 19 "FillCells" "history" "LFillCells$History;") (List.mem_of_getElem? (i := 1) rfl)) (fun _ h9 => h9) rfl dX6_changeFamily_24 ?_
  obtain ⟨r3, hC, hE⟩ := bnd_some hE
  refine cv (va_runV (As := []) (rest := []) ⟨hx, hb, hml, hown, hts⟩ (c_X2_keep l G r2 r3 hC _) (cwV 0 hts gX6_changeFamily_X2_keep rfl rfl rfl (by decide +kernel) ⟨Nat.le_of_ble_eq_true rfl, Nat.le_of_ble_eq_true rfl⟩) (preV hK hP hD hS hA hX (va_recv hK hP (ci := 2) (q0 := 23) rfl rfl)) rfl rfl hl.1 rfl (lv_room (Nat.le_of_ble_eq_true rfl)) dX6_changeFamily_27 ⟨Nat.le_of_ble_eq_true rfl, Nat.le_of_ble_eq_true rfl⟩) hD hS hA (fun H locs hP hD hS => ?_)
  refine lv_aload_n hx hb dX6_changeFamily_30 rfl (lv_at hl 0 rfl) ?_
  refine va_get (ci := 6) (v := .ref (aD G 22)) (C := RX6) (T := TX6) (N := 7) hx hb hts (fun _ h => List.mem_cons_of_mem _ (List.mem_append_left _ (List.mem_append_left _ (List.mem_append_left _ (List.mem_append_left _ (List.mem_append_left _ (List.mem_append_right _ h))))))) hown hK hP 25 rfl rfl 0 (by decide) (hts (.fieldLink RX6 10 "FillCells" "filling" "LFillCells$Filling;") (List.mem_of_getElem? (i := 2) rfl)) (fun _ h9 => h9) rfl dX6_changeFamily_31 ?_
  refine va_get (ci := 1) (v := .ref (aD G 19)) (C := RX1) (T := TX1) (N := 9) hx hb hts (fun _ h => List.mem_cons_of_mem _ (List.mem_append_left _ (List.mem_append_left _ (List.mem_append_left _ (List.mem_append_left _ (List.mem_append_right _ h)))))) hown hK hP 22 rfl rfl 0 (by decide) (hts (.fieldLink RX6 65 "FillCells$Filling" "field" "LFillCells$Field;") (List.mem_of_getElem? (i := 3) rfl)) (fun _ h9 => h9) rfl dX6_changeFamily_34 ?_
  refine va_get (ci := 0) (v := .ref (aD G 4)) (C := RX0) (T := TX0) (N := 5) hx hb hts (fun _ h => List.mem_cons_of_mem _ (List.mem_append_left _ (List.mem_append_left _ (List.mem_append_left _ (List.mem_append_right _ h))))) hown hK hP 19 rfl rfl 4 (by decide) (hts (.fieldLink RX6 93 "FillCells$Field" "fill" "[I") (List.mem_of_getElem? (i := 4) rfl)) (fun _ h9 => h9) rfl dX6_changeFamily_37 ?_
  refine lv_iload_n hx hb dX6_changeFamily_40 rfl (lv_at hl 1 rfl) ?_
  obtain ⟨h_i, hE⟩ := gd_some hE
  refine ldC hx hb hK hP 4 (by decide) h_i dX6_changeFamily_41 ?_
  rw [← hQ, ← Option.some.inj hE]
  exact ri hx hb hr hlocks hK hP hD hS dX6_changeFamily_42
abbrev rmX6_more : Room := { frames := 5, cells := 0, slots := 0, locals := 123 }

def f_X6_more (x1 : Int32) (σ : St) : Option (Int32 × St) := bnd (f_X6_isCell x1) (fun r1 => if r1 = 0 then (bnd (f_X6_refuse (-2 : Int32) σ) (fun r5 => some (r5.1, r5.2))) else (bnd (f_X1_may x1 σ) (fun r2 => if r2 = 0 then (bnd (f_X6_refuse (-3 : Int32) σ) (fun r4 => some (r4.1, r4.2))) else (bnd (f_X6_changeFamily x1 (1 : Int32) σ) (fun r3 => some (r3.1, r3.2))))))
set_option maxHeartbeats 4000000 in
set_option maxRecDepth 100000 in
theorem c_X6_more (l : Launch) (G : EV)  (x1 : Int32) (σ : St) (r : (Int32 × St)) (hE : f_X6_more x1 σ = some r) : MetI l G yX6_more wsX6_more rmX6_more [.ref (aD G 25), .int x1] (wC G σ) r.1 (wC G r.2) := by
  refine Met.of0 (Qf := PI G r.1 (wC G r.2)) (cc := cX6_more) (maxL := 2) (ret := (some .int)) (by decide) rfl (Nat.le_of_ble_eq_true rfl) ?_
  intro p e s m below meth c args A hx hb hr hts hown hlocks hml hin0 hA hS hP hK hD hX ls hl
  have hl : lv_has ls 2 [(0, .ref (aD G 25)), (1, .int x1)] := hl
  generalize hQ : MQ below (PI G r.1 (wC G r.2) A) args s 0 0 A = Q
  unfold f_X6_more at hE
  refine lv_iload_n hx hb dX6_more_0 rfl (lv_at hl 1 rfl) ?_
  obtain ⟨r1, hC, hE⟩ := bnd_some hE
  refine ci (va_runS (As := [.int x1]) (rest := []) ⟨hx, hb, hml, hown, hts⟩ (c_X6_isCell l G x1 σ r1 hC _) (va_cwS 1 hts gX6_more_X6_isCell rfl rfl rfl (by decide +kernel) ⟨Nat.le_of_ble_eq_true rfl, Nat.le_of_ble_eq_true rfl⟩) (preS hK hP hD hS hA hX) rfl rfl hl.1 rfl (lv_room (Nat.le_of_ble_eq_true rfl)) dX6_more_1 ⟨Nat.le_of_ble_eq_true rfl, Nat.le_of_ble_eq_true rfl⟩) hD hS hA (fun H locs hP hD hS => ?_)
  refine lv_if_ne (tgt := 14) hx hb dX6_more_4 (by decide) (fun c_ => ?_) (fun c_ => ?_)
  · have hE := im c_ hE
    refine lv_aload_n hx hb dX6_more_14 rfl (lv_at hl 0 rfl) ?_
    refine va_get (ci := 6) (v := .ref (aD G 22)) (C := RX6) (T := TX6) (N := 7) hx hb hts (fun _ h => List.mem_cons_of_mem _ (List.mem_append_left _ (List.mem_append_left _ (List.mem_append_left _ (List.mem_append_left _ (List.mem_append_left _ (List.mem_append_right _ h))))))) hown hK hP 25 rfl rfl 0 (by decide) (hts (.fieldLink RX6 10 "FillCells" "filling" "LFillCells$Filling;") (List.mem_of_getElem? (i := 1) rfl)) (fun _ h9 => h9) rfl dX6_more_15 ?_
    refine lv_iload_n hx hb dX6_more_18 rfl (lv_at hl 1 rfl) ?_
    obtain ⟨r2, hC, hE⟩ := bnd_some hE
    refine ci (va_runV (As := [.int x1]) (rest := []) ⟨hx, hb, hml, hown, hts⟩ (c_X1_may l G x1 σ r2 hC _) (cwV 1 hts gX6_more_X1_may rfl rfl rfl (by decide +kernel) ⟨Nat.le_of_ble_eq_true rfl, Nat.le_of_ble_eq_true rfl⟩) (preV hK hP hD hS hA hX (va_recv hK hP (ci := 1) (q0 := 22) rfl rfl)) rfl rfl hl.1 rfl (lv_room (Nat.le_of_ble_eq_true rfl)) dX6_more_19 ⟨Nat.le_of_ble_eq_true rfl, Nat.le_of_ble_eq_true rfl⟩) hD hS hA (fun H locs hP hD hS => ?_)
    refine lv_if_ne (tgt := 32) hx hb dX6_more_22 (by decide) (fun c_ => ?_) (fun c_ => ?_)
    · have hE := im c_ hE
      refine lv_aload_n hx hb dX6_more_32 rfl (lv_at hl 0 rfl) ?_
      refine lv_iload_n hx hb dX6_more_33 rfl (lv_at hl 1 rfl) ?_
      refine lv_iconst (v := (1 : Int32)) hx hb dX6_more_34 (by decide) ?_
      obtain ⟨r3, hC, hE⟩ := bnd_some hE
      refine ci (va_runV (As := [.int x1, .int (1 : Int32)]) (rest := []) ⟨hx, hb, hml, hown, hts⟩ (c_X6_changeFamily l G x1 (1 : Int32) σ r3 hC _) (cwV 2 hts gX6_more_X6_changeFamily rfl rfl rfl (by decide +kernel) ⟨Nat.le_of_ble_eq_true rfl, Nat.le_of_ble_eq_true rfl⟩) (preV hK hP hD hS hA hX (va_recv hK hP (ci := 6) (q0 := 25) rfl rfl)) rfl rfl hl.1 rfl (lv_room (Nat.le_of_ble_eq_true rfl)) dX6_more_35 ⟨Nat.le_of_ble_eq_true rfl, Nat.le_of_ble_eq_true rfl⟩) hD hS hA (fun H locs hP hD hS => ?_)
      rw [← hQ, ← Option.some.inj hE]
      exact ri hx hb hr hlocks hK hP hD hS dX6_more_38
    · have hE := ip c_ hE
      refine lv_aload_n hx hb dX6_more_25 rfl (lv_at hl 0 rfl) ?_
      refine lv_bipush (v := (-3 : Int32)) hx hb dX6_more_26 (by decide) ?_
      obtain ⟨r4, hC, hE⟩ := bnd_some hE
      refine ci (va_runV (As := [.int (-3 : Int32)]) (rest := []) ⟨hx, hb, hml, hown, hts⟩ (c_X6_refuse l G (-3 : Int32) σ r4 hC _) (cwV 1 hts gX6_more_X6_refuse rfl rfl rfl (by decide +kernel) ⟨Nat.le_of_ble_eq_true rfl, Nat.le_of_ble_eq_true rfl⟩) (preV hK hP hD hS hA hX (va_recv hK hP (ci := 6) (q0 := 25) rfl rfl)) rfl rfl hl.1 rfl (lv_room (Nat.le_of_ble_eq_true rfl)) dX6_more_28 ⟨Nat.le_of_ble_eq_true rfl, Nat.le_of_ble_eq_true rfl⟩) hD hS hA (fun H locs hP hD hS => ?_)
      rw [← hQ, ← Option.some.inj hE]
      exact ri hx hb hr hlocks hK hP hD hS dX6_more_31
  · have hE := ip c_ hE
    refine lv_aload_n hx hb dX6_more_7 rfl (lv_at hl 0 rfl) ?_
    refine lv_bipush (v := (-2 : Int32)) hx hb dX6_more_8 (by decide) ?_
    obtain ⟨r5, hC, hE⟩ := bnd_some hE
    refine ci (va_runV (As := [.int (-2 : Int32)]) (rest := []) ⟨hx, hb, hml, hown, hts⟩ (c_X6_refuse l G (-2 : Int32) σ r5 hC _) (cwV 1 hts gX6_more_X6_refuse rfl rfl rfl (by decide +kernel) ⟨Nat.le_of_ble_eq_true rfl, Nat.le_of_ble_eq_true rfl⟩) (preV hK hP hD hS hA hX (va_recv hK hP (ci := 6) (q0 := 25) rfl rfl)) rfl rfl hl.1 rfl (lv_room (Nat.le_of_ble_eq_true rfl)) dX6_more_10 ⟨Nat.le_of_ble_eq_true rfl, Nat.le_of_ble_eq_true rfl⟩) hD hS hA (fun H locs hP hD hS => ?_)
    rw [← hQ, ← Option.some.inj hE]
    exact ri hx hb hr hlocks hK hP hD hS dX6_more_13
abbrev rmX6_less : Room := { frames := 5, cells := 0, slots := 0, locals := 123 }

def f_X6_less (x1 : Int32) (σ : St) : Option (Int32 × St) := bnd (f_X6_isCell x1) (fun r1 => if r1 = 0 then (bnd (f_X6_refuse (-2 : Int32) σ) (fun r4 => some (r4.1, r4.2))) else (gd x1 80 (if 0 < (rd σ 4 x1) then (bnd (f_X6_changeFamily x1 (-1 : Int32) σ) (fun r2 => some (r2.1, r2.2))) else (bnd (f_X6_refuse (-3 : Int32) σ) (fun r3 => some (r3.1, r3.2))))))
set_option maxHeartbeats 4000000 in
set_option maxRecDepth 100000 in
theorem c_X6_less (l : Launch) (G : EV)  (x1 : Int32) (σ : St) (r : (Int32 × St)) (hE : f_X6_less x1 σ = some r) : MetI l G yX6_less wsX6_less rmX6_less [.ref (aD G 25), .int x1] (wC G σ) r.1 (wC G r.2) := by
  refine Met.of0 (Qf := PI G r.1 (wC G r.2)) (cc := cX6_less) (maxL := 2) (ret := (some .int)) (by decide) rfl (Nat.le_of_ble_eq_true rfl) ?_
  intro p e s m below meth c args A hx hb hr hts hown hlocks hml hin0 hA hS hP hK hD hX ls hl
  have hl : lv_has ls 2 [(0, .ref (aD G 25)), (1, .int x1)] := hl
  generalize hQ : MQ below (PI G r.1 (wC G r.2) A) args s 0 0 A = Q
  unfold f_X6_less at hE
  refine lv_iload_n hx hb dX6_less_0 rfl (lv_at hl 1 rfl) ?_
  obtain ⟨r1, hC, hE⟩ := bnd_some hE
  refine ci (va_runS (As := [.int x1]) (rest := []) ⟨hx, hb, hml, hown, hts⟩ (c_X6_isCell l G x1 σ r1 hC _) (va_cwS 1 hts gX6_less_X6_isCell rfl rfl rfl (by decide +kernel) ⟨Nat.le_of_ble_eq_true rfl, Nat.le_of_ble_eq_true rfl⟩) (preS hK hP hD hS hA hX) rfl rfl hl.1 rfl (lv_room (Nat.le_of_ble_eq_true rfl)) dX6_less_1 ⟨Nat.le_of_ble_eq_true rfl, Nat.le_of_ble_eq_true rfl⟩) hD hS hA (fun H locs hP hD hS => ?_)
  refine lv_if_ne (tgt := 14) hx hb dX6_less_4 (by decide) (fun c_ => ?_) (fun c_ => ?_)
  · have hE := im c_ hE
    refine lv_aload_n hx hb dX6_less_14 rfl (lv_at hl 0 rfl) ?_
    refine va_get (ci := 6) (v := .ref (aD G 22)) (C := RX6) (T := TX6) (N := 7) hx hb hts (fun _ h => List.mem_cons_of_mem _ (List.mem_append_left _ (List.mem_append_left _ (List.mem_append_left _ (List.mem_append_left _ (List.mem_append_left _ (List.mem_append_right _ h))))))) hown hK hP 25 rfl rfl 0 (by decide) (hts (.fieldLink RX6 10 "FillCells" "filling" "LFillCells$Filling;") (List.mem_of_getElem? (i := 1) rfl)) (fun _ h9 => h9) rfl dX6_less_15 ?_
    refine va_get (ci := 1) (v := .ref (aD G 19)) (C := RX1) (T := TX1) (N := 9) hx hb hts (fun _ h => List.mem_cons_of_mem _ (List.mem_append_left _ (List.mem_append_left _ (List.mem_append_left _ (List.mem_append_left _ (List.mem_append_right _ h)))))) hown hK hP 22 rfl rfl 0 (by decide) (hts (.fieldLink RX6 65 "FillCells$Filling" "field" "LFillCells$Field;") (List.mem_of_getElem? (i := 2) rfl)) (fun _ h9 => h9) rfl dX6_less_18 ?_
    refine va_get (ci := 0) (v := .ref (aD G 4)) (C := RX0) (T := TX0) (N := 5) hx hb hts (fun _ h => List.mem_cons_of_mem _ (List.mem_append_left _ (List.mem_append_left _ (List.mem_append_left _ (List.mem_append_right _ h))))) hown hK hP 19 rfl rfl 4 (by decide) (hts (.fieldLink RX6 93 "FillCells$Field" "fill" "[I") (List.mem_of_getElem? (i := 3) rfl)) (fun _ h9 => h9) rfl dX6_less_21 ?_
    refine lv_iload_n hx hb dX6_less_24 rfl (lv_at hl 1 rfl) ?_
    obtain ⟨h_i, hE⟩ := gd_some hE
    refine ldC hx hb hK hP 4 (by decide) h_i dX6_less_25 ?_
    refine lv_if_gt (tgt := 36) hx hb dX6_less_26 (by decide) (fun c_ => ?_) (fun c_ => ?_)
    · have hE := ip c_ hE
      refine lv_aload_n hx hb dX6_less_36 rfl (lv_at hl 0 rfl) ?_
      refine lv_iload_n hx hb dX6_less_37 rfl (lv_at hl 1 rfl) ?_
      refine lv_iconst (v := (-1 : Int32)) hx hb dX6_less_38 (by decide) ?_
      obtain ⟨r2, hC, hE⟩ := bnd_some hE
      refine ci (va_runV (As := [.int x1, .int (-1 : Int32)]) (rest := []) ⟨hx, hb, hml, hown, hts⟩ (c_X6_changeFamily l G x1 (-1 : Int32) σ r2 hC _) (cwV 2 hts gX6_less_X6_changeFamily rfl rfl rfl (by decide +kernel) ⟨Nat.le_of_ble_eq_true rfl, Nat.le_of_ble_eq_true rfl⟩) (preV hK hP hD hS hA hX (va_recv hK hP (ci := 6) (q0 := 25) rfl rfl)) rfl rfl hl.1 rfl (lv_room (Nat.le_of_ble_eq_true rfl)) dX6_less_39 ⟨Nat.le_of_ble_eq_true rfl, Nat.le_of_ble_eq_true rfl⟩) hD hS hA (fun H locs hP hD hS => ?_)
      rw [← hQ, ← Option.some.inj hE]
      exact ri hx hb hr hlocks hK hP hD hS dX6_less_42
    · have hE := im c_ hE
      refine lv_aload_n hx hb dX6_less_29 rfl (lv_at hl 0 rfl) ?_
      refine lv_bipush (v := (-3 : Int32)) hx hb dX6_less_30 (by decide) ?_
      obtain ⟨r3, hC, hE⟩ := bnd_some hE
      refine ci (va_runV (As := [.int (-3 : Int32)]) (rest := []) ⟨hx, hb, hml, hown, hts⟩ (c_X6_refuse l G (-3 : Int32) σ r3 hC _) (cwV 1 hts gX6_less_X6_refuse rfl rfl rfl (by decide +kernel) ⟨Nat.le_of_ble_eq_true rfl, Nat.le_of_ble_eq_true rfl⟩) (preV hK hP hD hS hA hX (va_recv hK hP (ci := 6) (q0 := 25) rfl rfl)) rfl rfl hl.1 rfl (lv_room (Nat.le_of_ble_eq_true rfl)) dX6_less_32 ⟨Nat.le_of_ble_eq_true rfl, Nat.le_of_ble_eq_true rfl⟩) hD hS hA (fun H locs hP hD hS => ?_)
      rw [← hQ, ← Option.some.inj hE]
      exact ri hx hb hr hlocks hK hP hD hS dX6_less_35
  · have hE := ip c_ hE
    refine lv_aload_n hx hb dX6_less_7 rfl (lv_at hl 0 rfl) ?_
    refine lv_bipush (v := (-2 : Int32)) hx hb dX6_less_8 (by decide) ?_
    obtain ⟨r4, hC, hE⟩ := bnd_some hE
    refine ci (va_runV (As := [.int (-2 : Int32)]) (rest := []) ⟨hx, hb, hml, hown, hts⟩ (c_X6_refuse l G (-2 : Int32) σ r4 hC _) (cwV 1 hts gX6_less_X6_refuse rfl rfl rfl (by decide +kernel) ⟨Nat.le_of_ble_eq_true rfl, Nat.le_of_ble_eq_true rfl⟩) (preV hK hP hD hS hA hX (va_recv hK hP (ci := 6) (q0 := 25) rfl rfl)) rfl rfl hl.1 rfl (lv_room (Nat.le_of_ble_eq_true rfl)) dX6_less_10 ⟨Nat.le_of_ble_eq_true rfl, Nat.le_of_ble_eq_true rfl⟩) hD hS hA (fun H locs hP hD hS => ?_)
    rw [← hQ, ← Option.some.inj hE]
    exact ri hx hb hr hlocks hK hP hD hS dX6_less_13
abbrev rmX6_next : Room := { frames := 5, cells := 0, slots := 0, locals := 119 }

def f_X6_next (σ : St) : Option (Int32 × St) := gd (7 : Int32) 8 (bnd (f_X1_choice (rd σ 17 (7 : Int32)) σ) (fun r1 => some (r1.1, r1.2)))
set_option maxHeartbeats 4000000 in
set_option maxRecDepth 100000 in
theorem c_X6_next (l : Launch) (G : EV)   (σ : St) (r : (Int32 × St)) (hE : f_X6_next σ = some r) : MetI l G yX6_next wsX6_next rmX6_next [.ref (aD G 25)] (wC G σ) r.1 (wC G r.2) := by
  refine Met.of0 (Qf := PI G r.1 (wC G r.2)) (cc := cX6_next) (maxL := 1) (ret := (some .int)) (by decide) rfl (Nat.le_of_ble_eq_true rfl) ?_
  intro p e s m below meth c args A hx hb hr hts hown hlocks hml hin0 hA hS hP hK hD hX ls hl
  have hl : lv_has ls 1 [(0, .ref (aD G 25))] := hl
  generalize hQ : MQ below (PI G r.1 (wC G r.2) A) args s 0 0 A = Q
  unfold f_X6_next at hE
  refine lv_aload_n hx hb dX6_next_0 rfl (lv_at hl 0 rfl) ?_
  refine va_get (ci := 6) (v := .ref (aD G 22)) (C := RX6) (T := TX6) (N := 7) hx hb hts (fun _ h => List.mem_cons_of_mem _ (List.mem_append_left _ (List.mem_append_left _ (List.mem_append_left _ (List.mem_append_left _ (List.mem_append_right _ h)))))) hown hK hP 25 rfl rfl 0 (by decide) (hts (.fieldLink RX6 10 "FillCells" "filling" "LFillCells$Filling;") (List.mem_of_getElem? (i := 1) rfl)) (fun _ h9 => h9) rfl dX6_next_1 ?_
  refine lv_aload_n hx hb dX6_next_4 rfl (lv_at hl 0 rfl) ?_
  refine va_get (ci := 6) (v := .ref (aD G 17)) (C := RX6) (T := TX6) (N := 7) hx hb hts (fun _ h => List.mem_cons_of_mem _ (List.mem_append_left _ (List.mem_append_left _ (List.mem_append_left _ (List.mem_append_left _ (List.mem_append_right _ h)))))) hown hK hP 25 rfl rfl 3 (by decide) (hts (.fieldLink RX6 30 "FillCells" "settings" "[I") (List.mem_of_getElem? (i := 2) rfl)) (fun _ h9 => h9) rfl dX6_next_5 ?_
  refine lv_bipush (v := (7 : Int32)) hx hb dX6_next_8 (by decide) ?_
  obtain ⟨h_i, hE⟩ := gd_some hE
  refine ldC hx hb hK hP 17 (by decide) h_i dX6_next_10 ?_
  obtain ⟨r1, hC, hE⟩ := bnd_some hE
  refine ci (va_runV (As := [.int (rd σ 17 (7 : Int32))]) (rest := []) ⟨hx, hb, hml, hown, hts⟩ (c_X1_choice l G (rd σ 17 (7 : Int32)) σ r1 hC _) (cwV 1 hts gX6_next_X1_choice rfl rfl rfl (by decide +kernel) ⟨Nat.le_of_ble_eq_true rfl, Nat.le_of_ble_eq_true rfl⟩) (preV hK hP hD hS hA hX (va_recv hK hP (ci := 1) (q0 := 22) rfl rfl)) rfl rfl hl.1 rfl (lv_room (Nat.le_of_ble_eq_true rfl)) dX6_next_11 ⟨Nat.le_of_ble_eq_true rfl, Nat.le_of_ble_eq_true rfl⟩) hD hS hA (fun H locs hP hD hS => ?_)
  rw [← hQ, ← Option.some.inj hE]
  exact ri hx hb hr hlocks hK hP hD hS dX6_next_14
abbrev rmX6_steps : Room := { frames := 6, cells := 0, slots := 0, locals := 143 }

def f_X6_steps (x1 : Int32) (σ : St) : Option (Int32 × St) := bnd (f_X6_isIn x1 (1 : Int32) (60 : Int32)) (fun r1 => if r1 = 0 then (bnd (f_X6_refuse (-2 : Int32) σ) (fun r5 => some (r5.1, r5.2))) else (bnd (f_X2_note σ) (fun r2 => gd (7 : Int32) 8 (bnd (f_X1_stepOn (rd r2 17 (7 : Int32)) x1 r2) (fun r3 => if r3.1 ≤ 0 then (some (r3.1, r3.2)) else (bnd (f_X2_keep r3.2) (fun r4 => some (r3.1, r4))))))))
set_option maxHeartbeats 4000000 in
set_option maxRecDepth 100000 in
theorem c_X6_steps (l : Launch) (G : EV)  (x1 : Int32) (σ : St) (r : (Int32 × St)) (hE : f_X6_steps x1 σ = some r) : MetI l G yX6_steps wsX6_steps rmX6_steps [.ref (aD G 25), .int x1] (wC G σ) r.1 (wC G r.2) := by
  refine Met.of0 (Qf := PI G r.1 (wC G r.2)) (cc := cX6_steps) (maxL := 3) (ret := (some .int)) (by decide) rfl (Nat.le_of_ble_eq_true rfl) ?_
  intro p e s m below meth c args A hx hb hr hts hown hlocks hml hin0 hA hS hP hK hD hX ls hl
  have hl : lv_has ls 3 [(0, .ref (aD G 25)), (1, .int x1)] := hl
  generalize hQ : MQ below (PI G r.1 (wC G r.2) A) args s 0 0 A = Q
  unfold f_X6_steps at hE
  refine lv_iload_n hx hb dX6_steps_0 rfl (lv_at hl 1 rfl) ?_
  refine lv_iconst (v := (1 : Int32)) hx hb dX6_steps_1 (by decide) ?_
  refine lv_bipush (v := (60 : Int32)) hx hb dX6_steps_2 (by decide) ?_
  obtain ⟨r1, hC, hE⟩ := bnd_some hE
  refine ci (va_runS (As := [.int x1, .int (1 : Int32), .int (60 : Int32)]) (rest := []) ⟨hx, hb, hml, hown, hts⟩ (c_X6_isIn l G x1 (1 : Int32) (60 : Int32) σ r1 hC _) (va_cwS 3 hts gX6_steps_X6_isIn rfl rfl rfl (by decide +kernel) ⟨Nat.le_of_ble_eq_true rfl, Nat.le_of_ble_eq_true rfl⟩) (preS hK hP hD hS hA hX) rfl rfl hl.1 rfl (lv_room (Nat.le_of_ble_eq_true rfl)) dX6_steps_4 ⟨Nat.le_of_ble_eq_true rfl, Nat.le_of_ble_eq_true rfl⟩) hD hS hA (fun H locs hP hD hS => ?_)
  refine lv_if_ne (tgt := 17) hx hb dX6_steps_7 (by decide) (fun c_ => ?_) (fun c_ => ?_)
  · have hE := im c_ hE
    refine lv_aload_n hx hb dX6_steps_17 rfl (lv_at hl 0 rfl) ?_
    refine va_get (ci := 6) (v := .ref (aD G 23)) (C := RX6) (T := TX6) (N := 7) hx hb hts (fun _ h => List.mem_cons_of_mem _ (List.mem_append_left _ (List.mem_append_left _ (List.mem_append_left _ (List.mem_append_left _ (List.mem_append_left _ (List.mem_append_right _ h))))))) hown hK hP 25 rfl rfl 1 (by decide) (hts (.fieldLink RX6 19 "FillCells" "history" "LFillCells$History;") (List.mem_of_getElem? (i := 1) rfl)) (fun _ h9 => h9) rfl dX6_steps_18 ?_
    refine lv_aload_n hx hb dX6_steps_21 rfl (lv_at hl 0 rfl) ?_
    refine va_get (ci := 6) (v := .ref (aD G 22)) (C := RX6) (T := TX6) (N := 7) hx hb hts (fun _ h => List.mem_cons_of_mem _ (List.mem_append_left _ (List.mem_append_left _ (List.mem_append_left _ (List.mem_append_left _ (List.mem_append_left _ (List.mem_append_right _ h))))))) hown hK hP 25 rfl rfl 0 (by decide) (hts (.fieldLink RX6 10 "FillCells" "filling" "LFillCells$Filling;") (List.mem_of_getElem? (i := 2) rfl)) (fun _ h9 => h9) rfl dX6_steps_22 ?_
    refine va_get (ci := 1) (v := .ref (aD G 19)) (C := RX1) (T := TX1) (N := 9) hx hb hts (fun _ h => List.mem_cons_of_mem _ (List.mem_append_left _ (List.mem_append_left _ (List.mem_append_left _ (List.mem_append_left _ (List.mem_append_right _ h)))))) hown hK hP 22 rfl rfl 0 (by decide) (hts (.fieldLink RX6 65 "FillCells$Filling" "field" "LFillCells$Field;") (List.mem_of_getElem? (i := 3) rfl)) (fun _ h9 => h9) rfl dX6_steps_25 ?_
    obtain ⟨r2, hC, hE⟩ := bnd_some hE
    refine cv (va_runV (As := [.ref (aD G 19)]) (rest := []) ⟨hx, hb, hml, hown, hts⟩ (c_X2_note l G σ r2 hC _) (cwV 1 hts gX6_steps_X2_note rfl rfl rfl (by decide +kernel) ⟨Nat.le_of_ble_eq_true rfl, Nat.le_of_ble_eq_true rfl⟩) (preV hK hP hD hS hA hX (va_recv hK hP (ci := 2) (q0 := 23) rfl rfl)) rfl rfl hl.1 rfl (lv_room (Nat.le_of_ble_eq_true rfl)) dX6_steps_28 ⟨Nat.le_of_ble_eq_true rfl, Nat.le_of_ble_eq_true rfl⟩) hD hS hA (fun H locs hP hD hS => ?_)
    refine lv_aload_n hx hb dX6_steps_31 rfl (lv_at hl 0 rfl) ?_
    refine va_get (ci := 6) (v := .ref (aD G 22)) (C := RX6) (T := TX6) (N := 7) hx hb hts (fun _ h => List.mem_cons_of_mem _ (List.mem_append_left _ (List.mem_append_left _ (List.mem_append_left _ (List.mem_append_left _ (List.mem_append_left _ (List.mem_append_right _ h))))))) hown hK hP 25 rfl rfl 0 (by decide) (hts (.fieldLink RX6 10 "FillCells" "filling" "LFillCells$Filling;") (List.mem_of_getElem? (i := 2) rfl)) (fun _ h9 => h9) rfl dX6_steps_32 ?_
    refine lv_aload_n hx hb dX6_steps_35 rfl (lv_at hl 0 rfl) ?_
    refine va_get (ci := 6) (v := .ref (aD G 17)) (C := RX6) (T := TX6) (N := 7) hx hb hts (fun _ h => List.mem_cons_of_mem _ (List.mem_append_left _ (List.mem_append_left _ (List.mem_append_left _ (List.mem_append_left _ (List.mem_append_left _ (List.mem_append_right _ h))))))) hown hK hP 25 rfl rfl 3 (by decide) (hts (.fieldLink RX6 30 "FillCells" "settings" "[I") (List.mem_of_getElem? (i := 4) rfl)) (fun _ h9 => h9) rfl dX6_steps_36 ?_
    refine lv_bipush (v := (7 : Int32)) hx hb dX6_steps_39 (by decide) ?_
    obtain ⟨h_i, hE⟩ := gd_some hE
    refine ldC hx hb hK hP 17 (by decide) h_i dX6_steps_41 ?_
    refine lv_iload_n hx hb dX6_steps_42 rfl (lv_at hl 1 rfl) ?_
    obtain ⟨r3, hC, hE⟩ := bnd_some hE
    refine ci (va_runV (As := [.int (rd r2 17 (7 : Int32)), .int x1]) (rest := []) ⟨hx, hb, hml, hown, hts⟩ (c_X1_stepOn l G (rd r2 17 (7 : Int32)) x1 r2 r3 hC _) (cwV 2 hts gX6_steps_X1_stepOn rfl rfl rfl (by decide +kernel) ⟨Nat.le_of_ble_eq_true rfl, Nat.le_of_ble_eq_true rfl⟩) (preV hK hP hD hS hA hX (va_recv hK hP (ci := 1) (q0 := 22) rfl rfl)) rfl rfl hl.1 rfl (lv_room (Nat.le_of_ble_eq_true rfl)) dX6_steps_43 ⟨Nat.le_of_ble_eq_true rfl, Nat.le_of_ble_eq_true rfl⟩) hD hS hA (fun H locs hP hD hS => ?_)
    refine lv_istore_n (lv' := [(2, .int r3.1), (0, .ref (aD G 25)), (1, .int x1)]) hx hb dX6_steps_46 rfl hl (by decide) rfl (fun ls hl => ?_)
    refine lv_iload_n hx hb dX6_steps_47 rfl (lv_at hl 0 rfl) ?_
    refine lv_if_le (tgt := 58) hx hb dX6_steps_48 (by decide) (fun c_ => ?_) (fun c_ => ?_)
    · have hE := ip c_ hE
      refine lv_iload_n hx hb dX6_steps_58 rfl (lv_at hl 0 rfl) ?_
      rw [← hQ, ← Option.some.inj hE]
      exact ri hx hb hr hlocks hK hP hD hS dX6_steps_59
    · have hE := im c_ hE
      refine lv_aload_n hx hb dX6_steps_51 rfl (lv_at hl 1 rfl) ?_
      refine va_get (ci := 6) (v := .ref (aD G 23)) (C := RX6) (T := TX6) (N := 7) hx hb hts (fun _ h => List.mem_cons_of_mem _ (List.mem_append_left _ (List.mem_append_left _ (List.mem_append_left _ (List.mem_append_left _ (List.mem_append_left _ (List.mem_append_right _ h))))))) hown hK hP 25 rfl rfl 1 (by decide) (hts (.fieldLink RX6 19 "FillCells" "history" "LFillCells$History;") (List.mem_of_getElem? (i := 1) rfl)) (fun _ h9 => h9) rfl dX6_steps_52 ?_
      obtain ⟨r4, hC, hE⟩ := bnd_some hE
      refine cv (va_runV (As := []) (rest := []) ⟨hx, hb, hml, hown, hts⟩ (c_X2_keep l G r3.2 r4 hC _) (cwV 0 hts gX6_steps_X2_keep rfl rfl rfl (by decide +kernel) ⟨Nat.le_of_ble_eq_true rfl, Nat.le_of_ble_eq_true rfl⟩) (preV hK hP hD hS hA hX (va_recv hK hP (ci := 2) (q0 := 23) rfl rfl)) rfl rfl hl.1 rfl (lv_room (Nat.le_of_ble_eq_true rfl)) dX6_steps_55 ⟨Nat.le_of_ble_eq_true rfl, Nat.le_of_ble_eq_true rfl⟩) hD hS hA (fun H locs hP hD hS => ?_)
      refine lv_iload_n hx hb dX6_steps_58 rfl (lv_at hl 0 rfl) ?_
      rw [← hQ, ← Option.some.inj hE]
      exact ri hx hb hr hlocks hK hP hD hS dX6_steps_59
  · have hE := ip c_ hE
    refine lv_aload_n hx hb dX6_steps_10 rfl (lv_at hl 0 rfl) ?_
    refine lv_bipush (v := (-2 : Int32)) hx hb dX6_steps_11 (by decide) ?_
    obtain ⟨r5, hC, hE⟩ := bnd_some hE
    refine ci (va_runV (As := [.int (-2 : Int32)]) (rest := []) ⟨hx, hb, hml, hown, hts⟩ (c_X6_refuse l G (-2 : Int32) σ r5 hC _) (cwV 1 hts gX6_steps_X6_refuse rfl rfl rfl (by decide +kernel) ⟨Nat.le_of_ble_eq_true rfl, Nat.le_of_ble_eq_true rfl⟩) (preV hK hP hD hS hA hX (va_recv hK hP (ci := 6) (q0 := 25) rfl rfl)) rfl rfl hl.1 rfl (lv_room (Nat.le_of_ble_eq_true rfl)) dX6_steps_13 ⟨Nat.le_of_ble_eq_true rfl, Nat.le_of_ble_eq_true rfl⟩) hD hS hA (fun H locs hP hD hS => ?_)
    rw [← hQ, ← Option.some.inj hE]
    exact ri hx hb hr hlocks hK hP hD hS dX6_steps_16
abbrev rmX6_thins : Room := { frames := 5, cells := 0, slots := 0, locals := 124 }

def f_X6_thins (σ : St) : Option (Int32 × St) := bnd (f_X2_note σ) (fun r1 => bnd (f_X1_thinOut r1) (fun r2 => if r2.1 ≤ 0 then (some (r2.1, r2.2)) else (bnd (f_X2_keep r2.2) (fun r3 => some (r2.1, r3)))))
set_option maxHeartbeats 4000000 in
set_option maxRecDepth 100000 in
theorem c_X6_thins (l : Launch) (G : EV)   (σ : St) (r : (Int32 × St)) (hE : f_X6_thins σ = some r) : MetI l G yX6_thins wsX6_thins rmX6_thins [.ref (aD G 25)] (wC G σ) r.1 (wC G r.2) := by
  refine Met.of0 (Qf := PI G r.1 (wC G r.2)) (cc := cX6_thins) (maxL := 2) (ret := (some .int)) (by decide) rfl (Nat.le_of_ble_eq_true rfl) ?_
  intro p e s m below meth c args A hx hb hr hts hown hlocks hml hin0 hA hS hP hK hD hX ls hl
  have hl : lv_has ls 2 [(0, .ref (aD G 25))] := hl
  generalize hQ : MQ below (PI G r.1 (wC G r.2) A) args s 0 0 A = Q
  unfold f_X6_thins at hE
  refine lv_aload_n hx hb dX6_thins_0 rfl (lv_at hl 0 rfl) ?_
  refine va_get (ci := 6) (v := .ref (aD G 23)) (C := RX6) (T := TX6) (N := 7) hx hb hts (fun _ h => List.mem_cons_of_mem _ (List.mem_append_left _ (List.mem_append_left _ (List.mem_append_left _ (List.mem_append_left _ (List.mem_append_left _ (List.mem_append_right _ h))))))) hown hK hP 25 rfl rfl 1 (by decide) (hts (.fieldLink RX6 19 "FillCells" "history" "LFillCells$History;") (List.mem_of_getElem? (i := 1) rfl)) (fun _ h9 => h9) rfl dX6_thins_1 ?_
  refine lv_aload_n hx hb dX6_thins_4 rfl (lv_at hl 0 rfl) ?_
  refine va_get (ci := 6) (v := .ref (aD G 22)) (C := RX6) (T := TX6) (N := 7) hx hb hts (fun _ h => List.mem_cons_of_mem _ (List.mem_append_left _ (List.mem_append_left _ (List.mem_append_left _ (List.mem_append_left _ (List.mem_append_left _ (List.mem_append_right _ h))))))) hown hK hP 25 rfl rfl 0 (by decide) (hts (.fieldLink RX6 10 "FillCells" "filling" "LFillCells$Filling;") (List.mem_of_getElem? (i := 2) rfl)) (fun _ h9 => h9) rfl dX6_thins_5 ?_
  refine va_get (ci := 1) (v := .ref (aD G 19)) (C := RX1) (T := TX1) (N := 9) hx hb hts (fun _ h => List.mem_cons_of_mem _ (List.mem_append_left _ (List.mem_append_left _ (List.mem_append_left _ (List.mem_append_left _ (List.mem_append_right _ h)))))) hown hK hP 22 rfl rfl 0 (by decide) (hts (.fieldLink RX6 65 "FillCells$Filling" "field" "LFillCells$Field;") (List.mem_of_getElem? (i := 3) rfl)) (fun _ h9 => h9) rfl dX6_thins_8 ?_
  obtain ⟨r1, hC, hE⟩ := bnd_some hE
  refine cv (va_runV (As := [.ref (aD G 19)]) (rest := []) ⟨hx, hb, hml, hown, hts⟩ (c_X2_note l G σ r1 hC _) (cwV 1 hts gX6_thins_X2_note rfl rfl rfl (by decide +kernel) ⟨Nat.le_of_ble_eq_true rfl, Nat.le_of_ble_eq_true rfl⟩) (preV hK hP hD hS hA hX (va_recv hK hP (ci := 2) (q0 := 23) rfl rfl)) rfl rfl hl.1 rfl (lv_room (Nat.le_of_ble_eq_true rfl)) dX6_thins_11 ⟨Nat.le_of_ble_eq_true rfl, Nat.le_of_ble_eq_true rfl⟩) hD hS hA (fun H locs hP hD hS => ?_)
  refine lv_aload_n hx hb dX6_thins_14 rfl (lv_at hl 0 rfl) ?_
  refine va_get (ci := 6) (v := .ref (aD G 22)) (C := RX6) (T := TX6) (N := 7) hx hb hts (fun _ h => List.mem_cons_of_mem _ (List.mem_append_left _ (List.mem_append_left _ (List.mem_append_left _ (List.mem_append_left _ (List.mem_append_left _ (List.mem_append_right _ h))))))) hown hK hP 25 rfl rfl 0 (by decide) (hts (.fieldLink RX6 10 "FillCells" "filling" "LFillCells$Filling;") (List.mem_of_getElem? (i := 2) rfl)) (fun _ h9 => h9) rfl dX6_thins_15 ?_
  obtain ⟨r2, hC, hE⟩ := bnd_some hE
  refine ci (va_runV (As := []) (rest := []) ⟨hx, hb, hml, hown, hts⟩ (c_X1_thinOut l G r1 r2 hC _) (cwV 0 hts gX6_thins_X1_thinOut rfl rfl rfl (by decide +kernel) ⟨Nat.le_of_ble_eq_true rfl, Nat.le_of_ble_eq_true rfl⟩) (preV hK hP hD hS hA hX (va_recv hK hP (ci := 1) (q0 := 22) rfl rfl)) rfl rfl hl.1 rfl (lv_room (Nat.le_of_ble_eq_true rfl)) dX6_thins_18 ⟨Nat.le_of_ble_eq_true rfl, Nat.le_of_ble_eq_true rfl⟩) hD hS hA (fun H locs hP hD hS => ?_)
  refine lv_istore_n (lv' := [(1, .int r2.1), (0, .ref (aD G 25))]) hx hb dX6_thins_21 rfl hl (by decide) rfl (fun ls hl => ?_)
  refine lv_iload_n hx hb dX6_thins_22 rfl (lv_at hl 0 rfl) ?_
  refine lv_if_le (tgt := 33) hx hb dX6_thins_23 (by decide) (fun c_ => ?_) (fun c_ => ?_)
  · have hE := ip c_ hE
    refine lv_iload_n hx hb dX6_thins_33 rfl (lv_at hl 0 rfl) ?_
    rw [← hQ, ← Option.some.inj hE]
    exact ri hx hb hr hlocks hK hP hD hS dX6_thins_34
  · have hE := im c_ hE
    refine lv_aload_n hx hb dX6_thins_26 rfl (lv_at hl 1 rfl) ?_
    refine va_get (ci := 6) (v := .ref (aD G 23)) (C := RX6) (T := TX6) (N := 7) hx hb hts (fun _ h => List.mem_cons_of_mem _ (List.mem_append_left _ (List.mem_append_left _ (List.mem_append_left _ (List.mem_append_left _ (List.mem_append_left _ (List.mem_append_right _ h))))))) hown hK hP 25 rfl rfl 1 (by decide) (hts (.fieldLink RX6 19 "FillCells" "history" "LFillCells$History;") (List.mem_of_getElem? (i := 1) rfl)) (fun _ h9 => h9) rfl dX6_thins_27 ?_
    obtain ⟨r3, hC, hE⟩ := bnd_some hE
    refine cv (va_runV (As := []) (rest := []) ⟨hx, hb, hml, hown, hts⟩ (c_X2_keep l G r2.2 r3 hC _) (cwV 0 hts gX6_thins_X2_keep rfl rfl rfl (by decide +kernel) ⟨Nat.le_of_ble_eq_true rfl, Nat.le_of_ble_eq_true rfl⟩) (preV hK hP hD hS hA hX (va_recv hK hP (ci := 2) (q0 := 23) rfl rfl)) rfl rfl hl.1 rfl (lv_room (Nat.le_of_ble_eq_true rfl)) dX6_thins_30 ⟨Nat.le_of_ble_eq_true rfl, Nat.le_of_ble_eq_true rfl⟩) hD hS hA (fun H locs hP hD hS => ?_)
    refine lv_iload_n hx hb dX6_thins_33 rfl (lv_at hl 0 rfl) ?_
    rw [← hQ, ← Option.some.inj hE]
    exact ri hx hb hr hlocks hK hP hD hS dX6_thins_34
abbrev rmX6_best : Room := { frames := 6, cells := 0, slots := 0, locals := 143 }
def f_X6_best_J70 (x1 : Int32) (σ : St) : Option (Int32 × St) := if x1 = (0 : Int32) then (some ((gI σ 0), σ)) else (if x1 = (1 : Int32) then (some ((gI σ 1), σ)) else (some ((gI σ 2), σ)))
def f_X6_best_L25 (x1 : Int32) (v25 : Int32 × St) : Option (((St)) ⊕ (Int32 × St)) := if (5 : Int32) ≤ v25.1 then (some (.inl (v25.2))) else (bnd (f_X1_stepOn v25.1 (40 : Int32) v25.2) (fun r3 => bnd (f_X1_thinOut r3.2) (fun r4 => bnd (f_X1_rate v25.1 r4.2) (fun r5 => bnd (f_X1_layBack r5) (fun r6 => some (.inr ((v25.1 + (1 : Int32)), r6)))))))
def f_X6_best_J25 (x1 : Int32) (x2 : Int32) (σ : St) : Option (Int32 × St) := bnd (loopN (f_X6_best_L25 x1) 4096 (x2, σ)) (fun y25 => f_X6_best_J70 x1 y25)
def f_X6_best (x1 : Int32) (σ : St) : Option (Int32 × St) := bnd (f_X6_isIn x1 (0 : Int32) (2 : Int32)) (fun r1 => if r1 = 0 then (bnd (f_X6_refuse (-2 : Int32) σ) (fun r7 => some (r7.1, r7.2))) else (bnd (f_X1_markFill σ) (fun r2 => f_X6_best_J25 x1 (0 : Int32) r2)))
set_option maxHeartbeats 4000000 in
set_option maxRecDepth 100000 in
theorem c_X6_best (l : Launch) (G : EV)  (x1 : Int32) (σ : St) (r : (Int32 × St)) (hE : f_X6_best x1 σ = some r) : MetI l G yX6_best wsX6_best rmX6_best [.ref (aD G 25), .int x1] (wC G σ) r.1 (wC G r.2) := by
  refine Met.of0 (Qf := PI G r.1 (wC G r.2)) (cc := cX6_best) (maxL := 3) (ret := (some .int)) (by decide) rfl (Nat.le_of_ble_eq_true rfl) ?_
  intro p e s m below meth c args A hx hb hr hts hown hlocks hml hin0 hA hS hP hK hD hX ls hl
  have hl : lv_has ls 3 [(0, .ref (aD G 25)), (1, .int x1)] := hl
  generalize hQ : MQ below (PI G r.1 (wC G r.2) A) args s 0 0 A = Q
  unfold f_X6_best at hE
  have J_70 : ∀ (σ : St) (H : Heap) (locs : List Loc) (ls : Array Slot), va_P G.1 vwCl (wC G σ) H → va_D A (wC G σ) → va_S A s.heap H locs → lv_has ls 3 [(0, .ref (aD G 25)), (1, .int x1)] → f_X6_best_J70 x1 σ = some r → W p l e rmX6_best s m args below meth c H locs 0 0 Q (F0 m 70 ls []) := by
    intro σ H locs ls hP hD hS hl hE
    unfold f_X6_best_J70 at hE
    refine lv_iload_n hx hb dX6_best_70 rfl (lv_at hl 1 rfl) ?_
    by_cases c_0 : x1 = (0 : Int32)
    · have hE := ip c_0 hE
      refine lv_lookup (off := 25) (tgt := 96) hx hb dX6_best_71 (by decide) (by rw [c_0]; rfl) (by decide) ?_
      refine lv_aload_n hx hb dX6_best_96 rfl (lv_at hl 0 rfl) ?_
      refine va_get (ci := 6) (v := .ref (aD G 22)) (C := RX6) (T := TX6) (N := 7) hx hb hts (fun _ h => List.mem_cons_of_mem _ (List.mem_append_left _ (List.mem_append_left _ (List.mem_append_left _ (List.mem_append_left _ (List.mem_append_right _ h)))))) hown hK hP 25 rfl rfl 0 (by decide) (hts (.fieldLink RX6 10 "FillCells" "filling" "LFillCells$Filling;") (List.mem_of_getElem? (i := 1) rfl)) (fun _ h9 => h9) rfl dX6_best_97 ?_
      refine va_get (ci := 1) (v := .int (gI σ 0)) (C := RX1) (T := TX1) (N := 9) hx hb hts (fun _ h => List.mem_cons_of_mem _ (List.mem_append_left _ (List.mem_append_left _ (List.mem_append_left _ (List.mem_append_right _ h))))) hown hK hP 22 rfl rfl 3 (by decide) (hts (.fieldLink RX6 195 "FillCells$Filling" "bestRule" "I") (List.mem_of_getElem? (i := 2) rfl)) (fun _ h9 => h9) rfl dX6_best_100 ?_
      rw [← hQ, ← Option.some.inj hE]
      exact ri hx hb hr hlocks hK hP hD hS dX6_best_103
    · have hE := im c_0 hE
      by_cases c_1 : x1 = (1 : Int32)
      · have hE := ip c_1 hE
        refine lv_lookup (off := 33) (tgt := 104) hx hb dX6_best_71 (by decide) (by rw [c_1]; rfl) (by decide) ?_
        refine lv_aload_n hx hb dX6_best_104 rfl (lv_at hl 0 rfl) ?_
        refine va_get (ci := 6) (v := .ref (aD G 22)) (C := RX6) (T := TX6) (N := 7) hx hb hts (fun _ h => List.mem_cons_of_mem _ (List.mem_append_left _ (List.mem_append_left _ (List.mem_append_left _ (List.mem_append_left _ (List.mem_append_right _ h)))))) hown hK hP 25 rfl rfl 0 (by decide) (hts (.fieldLink RX6 10 "FillCells" "filling" "LFillCells$Filling;") (List.mem_of_getElem? (i := 1) rfl)) (fun _ h9 => h9) rfl dX6_best_105 ?_
        refine va_get (ci := 1) (v := .int (gI σ 1)) (C := RX1) (T := TX1) (N := 9) hx hb hts (fun _ h => List.mem_cons_of_mem _ (List.mem_append_left _ (List.mem_append_left _ (List.mem_append_left _ (List.mem_append_right _ h))))) hown hK hP 22 rfl rfl 4 (by decide) (hts (.fieldLink RX6 198 "FillCells$Filling" "bestThin" "I") (List.mem_of_getElem? (i := 3) rfl)) (fun _ h9 => h9) rfl dX6_best_108 ?_
        rw [← hQ, ← Option.some.inj hE]
        exact ri hx hb hr hlocks hK hP hD hS dX6_best_111
      · have hE := im c_1 hE
        refine lv_lookup (off := 41) (tgt := 112) hx hb dX6_best_71 (by decide) ((lv_osw c_0 (by decide)).trans ((lv_osw c_1 (by decide)).trans rfl)) (by decide) ?_
        refine lv_aload_n hx hb dX6_best_112 rfl (lv_at hl 0 rfl) ?_
        refine va_get (ci := 6) (v := .ref (aD G 22)) (C := RX6) (T := TX6) (N := 7) hx hb hts (fun _ h => List.mem_cons_of_mem _ (List.mem_append_left _ (List.mem_append_left _ (List.mem_append_left _ (List.mem_append_left _ (List.mem_append_right _ h)))))) hown hK hP 25 rfl rfl 0 (by decide) (hts (.fieldLink RX6 10 "FillCells" "filling" "LFillCells$Filling;") (List.mem_of_getElem? (i := 1) rfl)) (fun _ h9 => h9) rfl dX6_best_113 ?_
        refine va_get (ci := 1) (v := .int (gI σ 2)) (C := RX1) (T := TX1) (N := 9) hx hb hts (fun _ h => List.mem_cons_of_mem _ (List.mem_append_left _ (List.mem_append_left _ (List.mem_append_left _ (List.mem_append_right _ h))))) hown hK hP 22 rfl rfl 5 (by decide) (hts (.fieldLink RX6 201 "FillCells$Filling" "bestFill" "I") (List.mem_of_getElem? (i := 4) rfl)) (fun _ h9 => h9) rfl dX6_best_116 ?_
        rw [← hQ, ← Option.some.inj hE]
        exact ri hx hb hr hlocks hK hP hD hS dX6_best_119
  have J_25 : ∀ (x2 : Int32) (σ : St) (H : Heap) (locs : List Loc) (ls : Array Slot), va_P G.1 vwCl (wC G σ) H → va_D A (wC G σ) → va_S A s.heap H locs → lv_has ls 3 [(0, .ref (aD G 25)), (1, .int x1), (2, .int x2)] → f_X6_best_J25 x1 x2 σ = some r → W p l e rmX6_best s m args below meth c H locs 0 0 Q (F0 m 25 ls []) := by
    intro x2 σ H locs ls hP hD hS hl hE
    unfold f_X6_best_J25 at hE
    obtain ⟨y25, hL, hE25⟩ := bnd_some hE
    refine loop_W (body := f_X6_best_L25 x1) (y := y25) (P := fun v25 => ∀ (H : Heap) (locs : List Loc) (ls : Array Slot), va_P G.1 vwCl (wC G v25.2) H → va_D A (wC G v25.2) → va_S A s.heap H locs → lv_has ls 3 [(0, .ref (aD G 25)), (1, .int x1), (2, .int v25.1)] → W p l e rmX6_best s m args below meth c H locs 0 0 Q (F0 m 25 ls [])) ?_ _ _ hL H locs ls hP hD hS hl
    clear hP hD hS hl hE hL
    intro v25 t25 hE hN25 hY25
    intro H locs ls hP hD hS hl
    unfold f_X6_best_L25 at hE
    refine lv_iload_n hx hb dX6_best_25 rfl (lv_at hl 2 rfl) ?_
    refine lv_iconst (v := (5 : Int32)) hx hb dX6_best_26 (by decide) ?_
    refine lv_icmp_ge (tgt := 70) hx hb dX6_best_27 (by decide) (fun c_ => ?_) (fun c_ => ?_)
    · have hE := ip c_ hE
      have e9 := hY25 _ (Option.some.inj hE).symm
      have hE := hE25
      rw [← e9] at hE
      exact J_70 v25.2 _ _ _ hP hD hS (lv_sub hl [0, 1] rfl) hE
    · have hE := im c_ hE
      refine lv_aload_n hx hb dX6_best_30 rfl (lv_at hl 0 rfl) ?_
      refine va_get (ci := 6) (v := .ref (aD G 22)) (C := RX6) (T := TX6) (N := 7) hx hb hts (fun _ h => List.mem_cons_of_mem _ (List.mem_append_left _ (List.mem_append_left _ (List.mem_append_left _ (List.mem_append_left _ (List.mem_append_right _ h)))))) hown hK hP 25 rfl rfl 0 (by decide) (hts (.fieldLink RX6 10 "FillCells" "filling" "LFillCells$Filling;") (List.mem_of_getElem? (i := 1) rfl)) (fun _ h9 => h9) rfl dX6_best_31 ?_
      refine lv_iload_n hx hb dX6_best_34 rfl (lv_at hl 2 rfl) ?_
      refine lv_bipush (v := (40 : Int32)) hx hb dX6_best_35 (by decide) ?_
      obtain ⟨r3, hC, hE⟩ := bnd_some hE
      refine ci (va_runV (As := [.int v25.1, .int (40 : Int32)]) (rest := []) ⟨hx, hb, hml, hown, hts⟩ (c_X1_stepOn l G v25.1 (40 : Int32) v25.2 r3 hC _) (cwV 2 hts gX6_best_X1_stepOn rfl rfl rfl (by decide +kernel) ⟨Nat.le_of_ble_eq_true rfl, Nat.le_of_ble_eq_true rfl⟩) (preV hK hP hD hS hA hX (va_recv hK hP (ci := 1) (q0 := 22) rfl rfl)) rfl rfl hl.1 rfl (lv_room (Nat.le_of_ble_eq_true rfl)) dX6_best_37 ⟨Nat.le_of_ble_eq_true rfl, Nat.le_of_ble_eq_true rfl⟩) hD hS hA (fun H locs hP hD hS => ?_)
      refine lv_pop hx hb dX6_best_40 rfl ?_
      refine lv_aload_n hx hb dX6_best_41 rfl (lv_at hl 0 rfl) ?_
      refine va_get (ci := 6) (v := .ref (aD G 22)) (C := RX6) (T := TX6) (N := 7) hx hb hts (fun _ h => List.mem_cons_of_mem _ (List.mem_append_left _ (List.mem_append_left _ (List.mem_append_left _ (List.mem_append_left _ (List.mem_append_right _ h)))))) hown hK hP 25 rfl rfl 0 (by decide) (hts (.fieldLink RX6 10 "FillCells" "filling" "LFillCells$Filling;") (List.mem_of_getElem? (i := 1) rfl)) (fun _ h9 => h9) rfl dX6_best_42 ?_
      obtain ⟨r4, hC, hE⟩ := bnd_some hE
      refine ci (va_runV (As := []) (rest := []) ⟨hx, hb, hml, hown, hts⟩ (c_X1_thinOut l G r3.2 r4 hC _) (cwV 0 hts gX6_best_X1_thinOut rfl rfl rfl (by decide +kernel) ⟨Nat.le_of_ble_eq_true rfl, Nat.le_of_ble_eq_true rfl⟩) (preV hK hP hD hS hA hX (va_recv hK hP (ci := 1) (q0 := 22) rfl rfl)) rfl rfl hl.1 rfl (lv_room (Nat.le_of_ble_eq_true rfl)) dX6_best_45 ⟨Nat.le_of_ble_eq_true rfl, Nat.le_of_ble_eq_true rfl⟩) hD hS hA (fun H locs hP hD hS => ?_)
      refine lv_pop hx hb dX6_best_48 rfl ?_
      refine lv_aload_n hx hb dX6_best_49 rfl (lv_at hl 0 rfl) ?_
      refine va_get (ci := 6) (v := .ref (aD G 22)) (C := RX6) (T := TX6) (N := 7) hx hb hts (fun _ h => List.mem_cons_of_mem _ (List.mem_append_left _ (List.mem_append_left _ (List.mem_append_left _ (List.mem_append_left _ (List.mem_append_right _ h)))))) hown hK hP 25 rfl rfl 0 (by decide) (hts (.fieldLink RX6 10 "FillCells" "filling" "LFillCells$Filling;") (List.mem_of_getElem? (i := 1) rfl)) (fun _ h9 => h9) rfl dX6_best_50 ?_
      refine lv_iload_n hx hb dX6_best_53 rfl (lv_at hl 2 rfl) ?_
      obtain ⟨r5, hC, hE⟩ := bnd_some hE
      refine cv (va_runV (As := [.int v25.1]) (rest := []) ⟨hx, hb, hml, hown, hts⟩ (c_X1_rate l G v25.1 r4.2 r5 hC _) (cwV 1 hts gX6_best_X1_rate rfl rfl rfl (by decide +kernel) ⟨Nat.le_of_ble_eq_true rfl, Nat.le_of_ble_eq_true rfl⟩) (preV hK hP hD hS hA hX (va_recv hK hP (ci := 1) (q0 := 22) rfl rfl)) rfl rfl hl.1 rfl (lv_room (Nat.le_of_ble_eq_true rfl)) dX6_best_54 ⟨Nat.le_of_ble_eq_true rfl, Nat.le_of_ble_eq_true rfl⟩) hD hS hA (fun H locs hP hD hS => ?_)
      refine lv_aload_n hx hb dX6_best_57 rfl (lv_at hl 0 rfl) ?_
      refine va_get (ci := 6) (v := .ref (aD G 22)) (C := RX6) (T := TX6) (N := 7) hx hb hts (fun _ h => List.mem_cons_of_mem _ (List.mem_append_left _ (List.mem_append_left _ (List.mem_append_left _ (List.mem_append_left _ (List.mem_append_right _ h)))))) hown hK hP 25 rfl rfl 0 (by decide) (hts (.fieldLink RX6 10 "FillCells" "filling" "LFillCells$Filling;") (List.mem_of_getElem? (i := 1) rfl)) (fun _ h9 => h9) rfl dX6_best_58 ?_
      obtain ⟨r6, hC, hE⟩ := bnd_some hE
      refine cv (va_runV (As := []) (rest := []) ⟨hx, hb, hml, hown, hts⟩ (c_X1_layBack l G r5 r6 hC _) (cwV 0 hts gX6_best_X1_layBack rfl rfl rfl (by decide +kernel) ⟨Nat.le_of_ble_eq_true rfl, Nat.le_of_ble_eq_true rfl⟩) (preV hK hP hD hS hA hX (va_recv hK hP (ci := 1) (q0 := 22) rfl rfl)) rfl rfl hl.1 rfl (lv_room (Nat.le_of_ble_eq_true rfl)) dX6_best_61 ⟨Nat.le_of_ble_eq_true rfl, Nat.le_of_ble_eq_true rfl⟩) hD hS hA (fun H locs hP hD hS => ?_)
      refine lv_iinc (v := (v25.1 + (1 : Int32))) (lv' := [(2, .int (v25.1 + (1 : Int32))), (0, .ref (aD G 25)), (1, .int x1)]) hx hb dX6_best_64 hl (k := 2) rfl rfl (by decide) rfl (fun ls hl => ?_)
      refine lv_goto (tgt := 25) hx hb dX6_best_67 (by decide) ?_
      exact hN25 _ (Option.some.inj hE).symm _ _ _ hP hD hS (lv_sub hl [1, 2, 0] rfl)
  refine lv_iload_n hx hb dX6_best_0 rfl (lv_at hl 1 rfl) ?_
  refine lv_iconst (v := (0 : Int32)) hx hb dX6_best_1 (by decide) ?_
  refine lv_iconst (v := (2 : Int32)) hx hb dX6_best_2 (by decide) ?_
  obtain ⟨r1, hC, hE⟩ := bnd_some hE
  refine ci (va_runS (As := [.int x1, .int (0 : Int32), .int (2 : Int32)]) (rest := []) ⟨hx, hb, hml, hown, hts⟩ (c_X6_isIn l G x1 (0 : Int32) (2 : Int32) σ r1 hC _) (va_cwS 3 hts gX6_best_X6_isIn rfl rfl rfl (by decide +kernel) ⟨Nat.le_of_ble_eq_true rfl, Nat.le_of_ble_eq_true rfl⟩) (preS hK hP hD hS hA hX) rfl rfl hl.1 rfl (lv_room (Nat.le_of_ble_eq_true rfl)) dX6_best_3 ⟨Nat.le_of_ble_eq_true rfl, Nat.le_of_ble_eq_true rfl⟩) hD hS hA (fun H locs hP hD hS => ?_)
  refine lv_if_ne (tgt := 16) hx hb dX6_best_6 (by decide) (fun c_ => ?_) (fun c_ => ?_)
  · have hE := im c_ hE
    refine lv_aload_n hx hb dX6_best_16 rfl (lv_at hl 0 rfl) ?_
    refine va_get (ci := 6) (v := .ref (aD G 22)) (C := RX6) (T := TX6) (N := 7) hx hb hts (fun _ h => List.mem_cons_of_mem _ (List.mem_append_left _ (List.mem_append_left _ (List.mem_append_left _ (List.mem_append_left _ (List.mem_append_right _ h)))))) hown hK hP 25 rfl rfl 0 (by decide) (hts (.fieldLink RX6 10 "FillCells" "filling" "LFillCells$Filling;") (List.mem_of_getElem? (i := 1) rfl)) (fun _ h9 => h9) rfl dX6_best_17 ?_
    obtain ⟨r2, hC, hE⟩ := bnd_some hE
    refine cv (va_runV (As := []) (rest := []) ⟨hx, hb, hml, hown, hts⟩ (c_X1_markFill l G σ r2 hC _) (cwV 0 hts gX6_best_X1_markFill rfl rfl rfl (by decide +kernel) ⟨Nat.le_of_ble_eq_true rfl, Nat.le_of_ble_eq_true rfl⟩) (preV hK hP hD hS hA hX (va_recv hK hP (ci := 1) (q0 := 22) rfl rfl)) rfl rfl hl.1 rfl (lv_room (Nat.le_of_ble_eq_true rfl)) dX6_best_20 ⟨Nat.le_of_ble_eq_true rfl, Nat.le_of_ble_eq_true rfl⟩) hD hS hA (fun H locs hP hD hS => ?_)
    refine lv_iconst (v := (0 : Int32)) hx hb dX6_best_23 (by decide) ?_
    refine lv_istore_n (lv' := [(2, .int (0 : Int32)), (0, .ref (aD G 25)), (1, .int x1)]) hx hb dX6_best_24 rfl hl (by decide) rfl (fun ls hl => ?_)
    exact J_25 (0 : Int32) r2 _ _ _ hP hD hS (lv_sub hl [1, 2, 0] rfl) hE
  · have hE := ip c_ hE
    refine lv_aload_n hx hb dX6_best_9 rfl (lv_at hl 0 rfl) ?_
    refine lv_bipush (v := (-2 : Int32)) hx hb dX6_best_10 (by decide) ?_
    obtain ⟨r7, hC, hE⟩ := bnd_some hE
    refine ci (va_runV (As := [.int (-2 : Int32)]) (rest := []) ⟨hx, hb, hml, hown, hts⟩ (c_X6_refuse l G (-2 : Int32) σ r7 hC _) (cwV 1 hts gX6_best_X6_refuse rfl rfl rfl (by decide +kernel) ⟨Nat.le_of_ble_eq_true rfl, Nat.le_of_ble_eq_true rfl⟩) (preV hK hP hD hS hA hX (va_recv hK hP (ci := 6) (q0 := 25) rfl rfl)) rfl rfl hl.1 rfl (lv_room (Nat.le_of_ble_eq_true rfl)) dX6_best_12 ⟨Nat.le_of_ble_eq_true rfl, Nat.le_of_ble_eq_true rfl⟩) hD hS hA (fun H locs hP hD hS => ?_)
    rw [← hQ, ← Option.some.inj hE]
    exact ri hx hb hr hlocks hK hP hD hS dX6_best_15
abbrev rmX6_row : Room := { frames := 2, cells := 0, slots := 0, locals := 68 }
def f_X6_row_J20 (σ : St) : Option (Int32 × St) := bnd (f_X6_refuse (-2 : Int32) σ) (fun r2 => some (r2.1, r2.2))
def f_X6_row (x1 x2 : Int32) (σ : St) : Option (Int32 × St) := bnd (f_X6_isIn x1 (0 : Int32) (7 : Int32)) (fun r1 => if r1 = 0 then (f_X6_row_J20 σ) else (bnd (f_X6_isIn x2 (0 : Int32) (90 : Int32)) (fun r3 => if r3 = 0 then (f_X6_row_J20 σ) else (bnd (f_X1_leastInRow x1 x2 σ) (fun r4 => some (r4.1, r4.2))))))
set_option maxHeartbeats 4000000 in
set_option maxRecDepth 100000 in
theorem c_X6_row (l : Launch) (G : EV)  (x1 x2 : Int32) (σ : St) (r : (Int32 × St)) (hE : f_X6_row x1 x2 σ = some r) : MetI l G yX6_row wsX6_row rmX6_row [.ref (aD G 25), .int x1, .int x2] (wC G σ) r.1 (wC G r.2) := by
  refine Met.of0 (Qf := PI G r.1 (wC G r.2)) (cc := cX6_row) (maxL := 3) (ret := (some .int)) (by decide) rfl (Nat.le_of_ble_eq_true rfl) ?_
  intro p e s m below meth c args A hx hb hr hts hown hlocks hml hin0 hA hS hP hK hD hX ls hl
  have hl : lv_has ls 3 [(0, .ref (aD G 25)), (1, .int x1), (2, .int x2)] := hl
  generalize hQ : MQ below (PI G r.1 (wC G r.2) A) args s 0 0 A = Q
  unfold f_X6_row at hE
  have J_20 : ∀ (σ : St) (H : Heap) (locs : List Loc) (ls : Array Slot), va_P G.1 vwCl (wC G σ) H → va_D A (wC G σ) → va_S A s.heap H locs → lv_has ls 3 [(0, .ref (aD G 25))] → f_X6_row_J20 σ = some r → W p l e rmX6_row s m args below meth c H locs 0 0 Q (F0 m 20 ls []) := by
    intro σ H locs ls hP hD hS hl hE
    unfold f_X6_row_J20 at hE
    refine lv_aload_n hx hb dX6_row_20 rfl (lv_at hl 0 rfl) ?_
    refine lv_bipush (v := (-2 : Int32)) hx hb dX6_row_21 (by decide) ?_
    obtain ⟨r2, hC, hE⟩ := bnd_some hE
    refine ci (va_runV (As := [.int (-2 : Int32)]) (rest := []) ⟨hx, hb, hml, hown, hts⟩ (c_X6_refuse l G (-2 : Int32) σ r2 hC _) (cwV 1 hts gX6_row_X6_refuse rfl rfl rfl (by decide +kernel) ⟨Nat.le_of_ble_eq_true rfl, Nat.le_of_ble_eq_true rfl⟩) (preV hK hP hD hS hA hX (va_recv hK hP (ci := 6) (q0 := 25) rfl rfl)) rfl rfl hl.1 rfl (lv_room (Nat.le_of_ble_eq_true rfl)) dX6_row_23 ⟨Nat.le_of_ble_eq_true rfl, Nat.le_of_ble_eq_true rfl⟩) hD hS hA (fun H locs hP hD hS => ?_)
    rw [← hQ, ← Option.some.inj hE]
    exact ri hx hb hr hlocks hK hP hD hS dX6_row_26
  refine lv_iload_n hx hb dX6_row_0 rfl (lv_at hl 1 rfl) ?_
  refine lv_iconst (v := (0 : Int32)) hx hb dX6_row_1 (by decide) ?_
  refine lv_bipush (v := (7 : Int32)) hx hb dX6_row_2 (by decide) ?_
  obtain ⟨r1, hC, hE⟩ := bnd_some hE
  refine ci (va_runS (As := [.int x1, .int (0 : Int32), .int (7 : Int32)]) (rest := []) ⟨hx, hb, hml, hown, hts⟩ (c_X6_isIn l G x1 (0 : Int32) (7 : Int32) σ r1 hC _) (va_cwS 3 hts gX6_row_X6_isIn rfl rfl rfl (by decide +kernel) ⟨Nat.le_of_ble_eq_true rfl, Nat.le_of_ble_eq_true rfl⟩) (preS hK hP hD hS hA hX) rfl rfl hl.1 rfl (lv_room (Nat.le_of_ble_eq_true rfl)) dX6_row_4 ⟨Nat.le_of_ble_eq_true rfl, Nat.le_of_ble_eq_true rfl⟩) hD hS hA (fun H locs hP hD hS => ?_)
  refine lv_if_eq (tgt := 20) hx hb dX6_row_7 (by decide) (fun c_ => ?_) (fun c_ => ?_)
  · have hE := ip c_ hE
    exact J_20 σ _ _ _ hP hD hS (lv_sub hl [0] rfl) hE
  · have hE := im c_ hE
    refine lv_iload_n hx hb dX6_row_10 rfl (lv_at hl 2 rfl) ?_
    refine lv_iconst (v := (0 : Int32)) hx hb dX6_row_11 (by decide) ?_
    refine lv_bipush (v := (90 : Int32)) hx hb dX6_row_12 (by decide) ?_
    obtain ⟨r3, hC, hE⟩ := bnd_some hE
    refine ci (va_runS (As := [.int x2, .int (0 : Int32), .int (90 : Int32)]) (rest := []) ⟨hx, hb, hml, hown, hts⟩ (c_X6_isIn l G x2 (0 : Int32) (90 : Int32) σ r3 hC _) (va_cwS 3 hts gX6_row_X6_isIn rfl rfl rfl (by decide +kernel) ⟨Nat.le_of_ble_eq_true rfl, Nat.le_of_ble_eq_true rfl⟩) (preS hK hP hD hS hA hX) rfl rfl hl.1 rfl (lv_room (Nat.le_of_ble_eq_true rfl)) dX6_row_14 ⟨Nat.le_of_ble_eq_true rfl, Nat.le_of_ble_eq_true rfl⟩) hD hS hA (fun H locs hP hD hS => ?_)
    refine lv_if_ne (tgt := 27) hx hb dX6_row_17 (by decide) (fun c_ => ?_) (fun c_ => ?_)
    · have hE := im c_ hE
      refine lv_aload_n hx hb dX6_row_27 rfl (lv_at hl 0 rfl) ?_
      refine va_get (ci := 6) (v := .ref (aD G 22)) (C := RX6) (T := TX6) (N := 7) hx hb hts (fun _ h => List.mem_cons_of_mem _ (List.mem_append_left _ (List.mem_append_left _ (List.mem_append_left _ (List.mem_append_right _ h))))) hown hK hP 25 rfl rfl 0 (by decide) (hts (.fieldLink RX6 10 "FillCells" "filling" "LFillCells$Filling;") (List.mem_of_getElem? (i := 1) rfl)) (fun _ h9 => h9) rfl dX6_row_28 ?_
      refine lv_iload_n hx hb dX6_row_31 rfl (lv_at hl 1 rfl) ?_
      refine lv_iload_n hx hb dX6_row_32 rfl (lv_at hl 2 rfl) ?_
      obtain ⟨r4, hC, hE⟩ := bnd_some hE
      refine ci (va_runV (As := [.int x1, .int x2]) (rest := []) ⟨hx, hb, hml, hown, hts⟩ (c_X1_leastInRow l G x1 x2 σ r4 hC _) (cwV 2 hts gX6_row_X1_leastInRow rfl rfl rfl (by decide +kernel) ⟨Nat.le_of_ble_eq_true rfl, Nat.le_of_ble_eq_true rfl⟩) (preV hK hP hD hS hA hX (va_recv hK hP (ci := 1) (q0 := 22) rfl rfl)) rfl rfl hl.1 rfl (lv_room (Nat.le_of_ble_eq_true rfl)) dX6_row_33 ⟨Nat.le_of_ble_eq_true rfl, Nat.le_of_ble_eq_true rfl⟩) hD hS hA (fun H locs hP hD hS => ?_)
      rw [← hQ, ← Option.some.inj hE]
      exact ri hx hb hr hlocks hK hP hD hS dX6_row_36
    · have hE := ip c_ hE
      exact J_20 σ _ _ _ hP hD hS (lv_sub hl [0] rfl) hE
abbrev rmX6_undo : Room := { frames := 4, cells := 0, slots := 0, locals := 89 }

def f_X6_undo (σ : St) : Option (Int32 × St) := if (gI σ 3) = 0 then (bnd (f_X6_refuse (-3 : Int32) σ) (fun r3 => some (r3.1, r3.2))) else (bnd (f_X2_takeBack σ) (fun r1 => bnd (f_X1_measure r1) (fun r2 => some ((gI r2 3), r2))))
set_option maxHeartbeats 4000000 in
set_option maxRecDepth 100000 in
theorem c_X6_undo (l : Launch) (G : EV)   (σ : St) (r : (Int32 × St)) (hE : f_X6_undo σ = some r) : MetI l G yX6_undo wsX6_undo rmX6_undo [.ref (aD G 25)] (wC G σ) r.1 (wC G r.2) := by
  refine Met.of0 (Qf := PI G r.1 (wC G r.2)) (cc := cX6_undo) (maxL := 1) (ret := (some .int)) (by decide) rfl (Nat.le_of_ble_eq_true rfl) ?_
  intro p e s m below meth c args A hx hb hr hts hown hlocks hml hin0 hA hS hP hK hD hX ls hl
  have hl : lv_has ls 1 [(0, .ref (aD G 25))] := hl
  generalize hQ : MQ below (PI G r.1 (wC G r.2) A) args s 0 0 A = Q
  unfold f_X6_undo at hE
  refine lv_aload_n hx hb dX6_undo_0 rfl (lv_at hl 0 rfl) ?_
  refine va_get (ci := 6) (v := .ref (aD G 23)) (C := RX6) (T := TX6) (N := 7) hx hb hts (fun _ h => List.mem_cons_of_mem _ (List.mem_append_left _ (List.mem_append_left _ (List.mem_append_left _ (List.mem_append_left _ (List.mem_append_left _ (List.mem_append_right _ h))))))) hown hK hP 25 rfl rfl 1 (by decide) (hts (.fieldLink RX6 19 "FillCells" "history" "LFillCells$History;") (List.mem_of_getElem? (i := 1) rfl)) (fun _ h9 => h9) rfl dX6_undo_1 ?_
  refine va_get (ci := 2) (v := .int (gI σ 3)) (C := RX2) (T := TX2) (N := 3) hx hb hts (fun _ h => List.mem_cons_of_mem _ (List.mem_append_left _ (List.mem_append_left _ (List.mem_append_left _ (List.mem_append_left _ (List.mem_append_right _ h)))))) hown hK hP 23 rfl rfl 0 (by decide) (hts (.fieldLink RX6 207 "FillCells$History" "kept" "I") (List.mem_of_getElem? (i := 2) rfl)) (fun _ h9 => h9) rfl dX6_undo_4 ?_
  refine lv_if_ne (tgt := 17) hx hb dX6_undo_7 (by decide) (fun c_ => ?_) (fun c_ => ?_)
  · have hE := im c_ hE
    refine lv_aload_n hx hb dX6_undo_17 rfl (lv_at hl 0 rfl) ?_
    refine va_get (ci := 6) (v := .ref (aD G 23)) (C := RX6) (T := TX6) (N := 7) hx hb hts (fun _ h => List.mem_cons_of_mem _ (List.mem_append_left _ (List.mem_append_left _ (List.mem_append_left _ (List.mem_append_left _ (List.mem_append_left _ (List.mem_append_right _ h))))))) hown hK hP 25 rfl rfl 1 (by decide) (hts (.fieldLink RX6 19 "FillCells" "history" "LFillCells$History;") (List.mem_of_getElem? (i := 1) rfl)) (fun _ h9 => h9) rfl dX6_undo_18 ?_
    refine lv_aload_n hx hb dX6_undo_21 rfl (lv_at hl 0 rfl) ?_
    refine va_get (ci := 6) (v := .ref (aD G 22)) (C := RX6) (T := TX6) (N := 7) hx hb hts (fun _ h => List.mem_cons_of_mem _ (List.mem_append_left _ (List.mem_append_left _ (List.mem_append_left _ (List.mem_append_left _ (List.mem_append_left _ (List.mem_append_right _ h))))))) hown hK hP 25 rfl rfl 0 (by decide) (hts (.fieldLink RX6 10 "FillCells" "filling" "LFillCells$Filling;") (List.mem_of_getElem? (i := 3) rfl)) (fun _ h9 => h9) rfl dX6_undo_22 ?_
    refine va_get (ci := 1) (v := .ref (aD G 19)) (C := RX1) (T := TX1) (N := 9) hx hb hts (fun _ h => List.mem_cons_of_mem _ (List.mem_append_left _ (List.mem_append_left _ (List.mem_append_left _ (List.mem_append_right _ h))))) hown hK hP 22 rfl rfl 0 (by decide) (hts (.fieldLink RX6 65 "FillCells$Filling" "field" "LFillCells$Field;") (List.mem_of_getElem? (i := 4) rfl)) (fun _ h9 => h9) rfl dX6_undo_25 ?_
    obtain ⟨r1, hC, hE⟩ := bnd_some hE
    refine cv (va_runV (As := [.ref (aD G 19)]) (rest := []) ⟨hx, hb, hml, hown, hts⟩ (c_X2_takeBack l G σ r1 hC _) (cwV 1 hts gX6_undo_X2_takeBack rfl rfl rfl (by decide +kernel) ⟨Nat.le_of_ble_eq_true rfl, Nat.le_of_ble_eq_true rfl⟩) (preV hK hP hD hS hA hX (va_recv hK hP (ci := 2) (q0 := 23) rfl rfl)) rfl rfl hl.1 rfl (lv_room (Nat.le_of_ble_eq_true rfl)) dX6_undo_28 ⟨Nat.le_of_ble_eq_true rfl, Nat.le_of_ble_eq_true rfl⟩) hD hS hA (fun H locs hP hD hS => ?_)
    refine lv_aload_n hx hb dX6_undo_31 rfl (lv_at hl 0 rfl) ?_
    refine va_get (ci := 6) (v := .ref (aD G 22)) (C := RX6) (T := TX6) (N := 7) hx hb hts (fun _ h => List.mem_cons_of_mem _ (List.mem_append_left _ (List.mem_append_left _ (List.mem_append_left _ (List.mem_append_left _ (List.mem_append_left _ (List.mem_append_right _ h))))))) hown hK hP 25 rfl rfl 0 (by decide) (hts (.fieldLink RX6 10 "FillCells" "filling" "LFillCells$Filling;") (List.mem_of_getElem? (i := 3) rfl)) (fun _ h9 => h9) rfl dX6_undo_32 ?_
    obtain ⟨r2, hC, hE⟩ := bnd_some hE
    refine cv (va_runV (As := []) (rest := []) ⟨hx, hb, hml, hown, hts⟩ (c_X1_measure l G r1 r2 hC _) (cwV 0 hts gX6_undo_X1_measure rfl rfl rfl (by decide +kernel) ⟨Nat.le_of_ble_eq_true rfl, Nat.le_of_ble_eq_true rfl⟩) (preV hK hP hD hS hA hX (va_recv hK hP (ci := 1) (q0 := 22) rfl rfl)) rfl rfl hl.1 rfl (lv_room (Nat.le_of_ble_eq_true rfl)) dX6_undo_35 ⟨Nat.le_of_ble_eq_true rfl, Nat.le_of_ble_eq_true rfl⟩) hD hS hA (fun H locs hP hD hS => ?_)
    refine lv_aload_n hx hb dX6_undo_38 rfl (lv_at hl 0 rfl) ?_
    refine va_get (ci := 6) (v := .ref (aD G 23)) (C := RX6) (T := TX6) (N := 7) hx hb hts (fun _ h => List.mem_cons_of_mem _ (List.mem_append_left _ (List.mem_append_left _ (List.mem_append_left _ (List.mem_append_left _ (List.mem_append_left _ (List.mem_append_right _ h))))))) hown hK hP 25 rfl rfl 1 (by decide) (hts (.fieldLink RX6 19 "FillCells" "history" "LFillCells$History;") (List.mem_of_getElem? (i := 1) rfl)) (fun _ h9 => h9) rfl dX6_undo_39 ?_
    refine va_get (ci := 2) (v := .int (gI r2 3)) (C := RX2) (T := TX2) (N := 3) hx hb hts (fun _ h => List.mem_cons_of_mem _ (List.mem_append_left _ (List.mem_append_left _ (List.mem_append_left _ (List.mem_append_left _ (List.mem_append_right _ h)))))) hown hK hP 23 rfl rfl 0 (by decide) (hts (.fieldLink RX6 207 "FillCells$History" "kept" "I") (List.mem_of_getElem? (i := 2) rfl)) (fun _ h9 => h9) rfl dX6_undo_42 ?_
    rw [← hQ, ← Option.some.inj hE]
    exact ri hx hb hr hlocks hK hP hD hS dX6_undo_45
  · have hE := ip c_ hE
    refine lv_aload_n hx hb dX6_undo_10 rfl (lv_at hl 0 rfl) ?_
    refine lv_bipush (v := (-3 : Int32)) hx hb dX6_undo_11 (by decide) ?_
    obtain ⟨r3, hC, hE⟩ := bnd_some hE
    refine ci (va_runV (As := [.int (-3 : Int32)]) (rest := []) ⟨hx, hb, hml, hown, hts⟩ (c_X6_refuse l G (-3 : Int32) σ r3 hC _) (cwV 1 hts gX6_undo_X6_refuse rfl rfl rfl (by decide +kernel) ⟨Nat.le_of_ble_eq_true rfl, Nat.le_of_ble_eq_true rfl⟩) (preV hK hP hD hS hA hX (va_recv hK hP (ci := 6) (q0 := 25) rfl rfl)) rfl rfl hl.1 rfl (lv_room (Nat.le_of_ble_eq_true rfl)) dX6_undo_13 ⟨Nat.le_of_ble_eq_true rfl, Nat.le_of_ble_eq_true rfl⟩) hD hS hA (fun H locs hP hD hS => ?_)
    rw [← hQ, ← Option.some.inj hE]
    exact ri hx hb hr hlocks hK hP hD hS dX6_undo_16
abbrev rmX6_type : Room := { frames := 1, cells := 0, slots := 0, locals := 22 }

def f_X6_type (x1 : Int32) (σ : St) : Option (Int32 × St) := bnd (f_X6_isIn x1 (0 : Int32) (127 : Int32)) (fun r1 => if r1 = 0 then (bnd (f_X6_refuse (-2 : Int32) σ) (fun r4 => some (r4.1, r4.2))) else (if (gI σ 5) < (120 : Int32) then (bnd (f_X4_append x1 σ) (fun r2 => some ((gI r2 5), r2))) else (bnd (f_X6_refuse (-4 : Int32) σ) (fun r3 => some (r3.1, r3.2)))))
set_option maxHeartbeats 4000000 in
set_option maxRecDepth 100000 in
theorem c_X6_type (l : Launch) (G : EV)  (x1 : Int32) (σ : St) (r : (Int32 × St)) (hE : f_X6_type x1 σ = some r) : MetI l G yX6_type wsX6_type rmX6_type [.ref (aD G 25), .int x1] (wC G σ) r.1 (wC G r.2) := by
  refine Met.of0 (Qf := PI G r.1 (wC G r.2)) (cc := cX6_type) (maxL := 2) (ret := (some .int)) (by decide) rfl (Nat.le_of_ble_eq_true rfl) ?_
  intro p e s m below meth c args A hx hb hr hts hown hlocks hml hin0 hA hS hP hK hD hX ls hl
  have hl : lv_has ls 2 [(0, .ref (aD G 25)), (1, .int x1)] := hl
  generalize hQ : MQ below (PI G r.1 (wC G r.2) A) args s 0 0 A = Q
  unfold f_X6_type at hE
  refine lv_iload_n hx hb dX6_type_0 rfl (lv_at hl 1 rfl) ?_
  refine lv_iconst (v := (0 : Int32)) hx hb dX6_type_1 (by decide) ?_
  refine lv_bipush (v := (127 : Int32)) hx hb dX6_type_2 (by decide) ?_
  obtain ⟨r1, hC, hE⟩ := bnd_some hE
  refine ci (va_runS (As := [.int x1, .int (0 : Int32), .int (127 : Int32)]) (rest := []) ⟨hx, hb, hml, hown, hts⟩ (c_X6_isIn l G x1 (0 : Int32) (127 : Int32) σ r1 hC _) (va_cwS 3 hts gX6_type_X6_isIn rfl rfl rfl (by decide +kernel) ⟨Nat.le_of_ble_eq_true rfl, Nat.le_of_ble_eq_true rfl⟩) (preS hK hP hD hS hA hX) rfl rfl hl.1 rfl (lv_room (Nat.le_of_ble_eq_true rfl)) dX6_type_4 ⟨Nat.le_of_ble_eq_true rfl, Nat.le_of_ble_eq_true rfl⟩) hD hS hA (fun H locs hP hD hS => ?_)
  refine lv_if_ne (tgt := 17) hx hb dX6_type_7 (by decide) (fun c_ => ?_) (fun c_ => ?_)
  · have hE := im c_ hE
    refine lv_aload_n hx hb dX6_type_17 rfl (lv_at hl 0 rfl) ?_
    refine va_get (ci := 6) (v := .ref (aD G 24)) (C := RX6) (T := TX6) (N := 7) hx hb hts (fun _ h => List.mem_cons_of_mem _ (List.mem_append_left _ (List.mem_append_right _ h))) hown hK hP 25 rfl rfl 2 (by decide) (hts (.fieldLink RX6 26 "FillCells" "text" "LFillCells$Text;") (List.mem_of_getElem? (i := 1) rfl)) (fun _ h9 => h9) rfl dX6_type_18 ?_
    refine va_get (ci := 4) (v := .int (gI σ 5)) (C := RX4) (T := TX4) (N := 2) hx hb hts (fun _ h => List.mem_cons_of_mem _ (List.mem_append_right _ h)) hown hK hP 24 rfl rfl 0 (by decide) (hts (.fieldLink RX6 213 "FillCells$Text" "length" "I") (List.mem_of_getElem? (i := 2) rfl)) (fun _ h9 => h9) rfl dX6_type_21 ?_
    refine lv_bipush (v := (120 : Int32)) hx hb dX6_type_24 (by decide) ?_
    refine lv_icmp_lt (tgt := 36) hx hb dX6_type_26 (by decide) (fun c_ => ?_) (fun c_ => ?_)
    · have hE := ip c_ hE
      refine lv_aload_n hx hb dX6_type_36 rfl (lv_at hl 0 rfl) ?_
      refine va_get (ci := 6) (v := .ref (aD G 24)) (C := RX6) (T := TX6) (N := 7) hx hb hts (fun _ h => List.mem_cons_of_mem _ (List.mem_append_left _ (List.mem_append_right _ h))) hown hK hP 25 rfl rfl 2 (by decide) (hts (.fieldLink RX6 26 "FillCells" "text" "LFillCells$Text;") (List.mem_of_getElem? (i := 1) rfl)) (fun _ h9 => h9) rfl dX6_type_37 ?_
      refine lv_iload_n hx hb dX6_type_40 rfl (lv_at hl 1 rfl) ?_
      obtain ⟨r2, hC, hE⟩ := bnd_some hE
      refine cv (va_runV (As := [.int x1]) (rest := []) ⟨hx, hb, hml, hown, hts⟩ (c_X4_append l G x1 σ r2 hC _) (cwV 1 hts gX6_type_X4_append rfl rfl rfl (by decide +kernel) ⟨Nat.le_of_ble_eq_true rfl, Nat.le_of_ble_eq_true rfl⟩) (preV hK hP hD hS hA hX (va_recv hK hP (ci := 4) (q0 := 24) rfl rfl)) rfl rfl hl.1 rfl (lv_room (Nat.le_of_ble_eq_true rfl)) dX6_type_41 ⟨Nat.le_of_ble_eq_true rfl, Nat.le_of_ble_eq_true rfl⟩) hD hS hA (fun H locs hP hD hS => ?_)
      refine lv_aload_n hx hb dX6_type_44 rfl (lv_at hl 0 rfl) ?_
      refine va_get (ci := 6) (v := .ref (aD G 24)) (C := RX6) (T := TX6) (N := 7) hx hb hts (fun _ h => List.mem_cons_of_mem _ (List.mem_append_left _ (List.mem_append_right _ h))) hown hK hP 25 rfl rfl 2 (by decide) (hts (.fieldLink RX6 26 "FillCells" "text" "LFillCells$Text;") (List.mem_of_getElem? (i := 1) rfl)) (fun _ h9 => h9) rfl dX6_type_45 ?_
      refine va_get (ci := 4) (v := .int (gI r2 5)) (C := RX4) (T := TX4) (N := 2) hx hb hts (fun _ h => List.mem_cons_of_mem _ (List.mem_append_right _ h)) hown hK hP 24 rfl rfl 0 (by decide) (hts (.fieldLink RX6 213 "FillCells$Text" "length" "I") (List.mem_of_getElem? (i := 2) rfl)) (fun _ h9 => h9) rfl dX6_type_48 ?_
      rw [← hQ, ← Option.some.inj hE]
      exact ri hx hb hr hlocks hK hP hD hS dX6_type_51
    · have hE := im c_ hE
      refine lv_aload_n hx hb dX6_type_29 rfl (lv_at hl 0 rfl) ?_
      refine lv_bipush (v := (-4 : Int32)) hx hb dX6_type_30 (by decide) ?_
      obtain ⟨r3, hC, hE⟩ := bnd_some hE
      refine ci (va_runV (As := [.int (-4 : Int32)]) (rest := []) ⟨hx, hb, hml, hown, hts⟩ (c_X6_refuse l G (-4 : Int32) σ r3 hC _) (cwV 1 hts gX6_type_X6_refuse rfl rfl rfl (by decide +kernel) ⟨Nat.le_of_ble_eq_true rfl, Nat.le_of_ble_eq_true rfl⟩) (preV hK hP hD hS hA hX (va_recv hK hP (ci := 6) (q0 := 25) rfl rfl)) rfl rfl hl.1 rfl (lv_room (Nat.le_of_ble_eq_true rfl)) dX6_type_32 ⟨Nat.le_of_ble_eq_true rfl, Nat.le_of_ble_eq_true rfl⟩) hD hS hA (fun H locs hP hD hS => ?_)
      rw [← hQ, ← Option.some.inj hE]
      exact ri hx hb hr hlocks hK hP hD hS dX6_type_35
  · have hE := ip c_ hE
    refine lv_aload_n hx hb dX6_type_10 rfl (lv_at hl 0 rfl) ?_
    refine lv_bipush (v := (-2 : Int32)) hx hb dX6_type_11 (by decide) ?_
    obtain ⟨r4, hC, hE⟩ := bnd_some hE
    refine ci (va_runV (As := [.int (-2 : Int32)]) (rest := []) ⟨hx, hb, hml, hown, hts⟩ (c_X6_refuse l G (-2 : Int32) σ r4 hC _) (cwV 1 hts gX6_type_X6_refuse rfl rfl rfl (by decide +kernel) ⟨Nat.le_of_ble_eq_true rfl, Nat.le_of_ble_eq_true rfl⟩) (preV hK hP hD hS hA hX (va_recv hK hP (ci := 6) (q0 := 25) rfl rfl)) rfl rfl hl.1 rfl (lv_room (Nat.le_of_ble_eq_true rfl)) dX6_type_13 ⟨Nat.le_of_ble_eq_true rfl, Nat.le_of_ble_eq_true rfl⟩) hD hS hA (fun H locs hP hD hS => ?_)
    rw [← hQ, ← Option.some.inj hE]
    exact ri hx hb hr hlocks hK hP hD hS dX6_type_16
abbrev rmX6_clear : Room := { frames := 0, cells := 0, slots := 0, locals := 0 }

def f_X6_clear (σ : St) : Option (Int32 × St) := some ((gI σ 5), (sI σ 5 (0 : Int32)))
set_option maxHeartbeats 4000000 in
set_option maxRecDepth 100000 in
theorem c_X6_clear (l : Launch) (G : EV)   (σ : St) (r : (Int32 × St)) (hE : f_X6_clear σ = some r) : MetI l G yX6_clear wsX6_clear rmX6_clear [.ref (aD G 25)] (wC G σ) r.1 (wC G r.2) := by
  refine Met.of0 (Qf := PI G r.1 (wC G r.2)) (cc := cX6_clear) (maxL := 2) (ret := (some .int)) (by decide) rfl (Nat.le_of_ble_eq_true rfl) ?_
  intro p e s m below meth c args A hx hb hr hts hown hlocks hml hin0 hA hS hP hK hD hX ls hl
  have hl : lv_has ls 2 [(0, .ref (aD G 25))] := hl
  generalize hQ : MQ below (PI G r.1 (wC G r.2) A) args s 0 0 A = Q
  unfold f_X6_clear at hE
  refine lv_aload_n hx hb dX6_clear_0 rfl (lv_at hl 0 rfl) ?_
  refine va_get (ci := 6) (v := .ref (aD G 24)) (C := RX6) (T := TX6) (N := 7) hx hb hts (fun _ h => List.mem_cons_of_mem _ (List.mem_append_left _ (List.mem_append_right _ h))) hown hK hP 25 rfl rfl 2 (by decide) (hts (.fieldLink RX6 26 "FillCells" "text" "LFillCells$Text;") (List.mem_of_getElem? (i := 1) rfl)) (fun _ h9 => h9) rfl dX6_clear_1 ?_
  refine va_get (ci := 4) (v := .int (gI σ 5)) (C := RX4) (T := TX4) (N := 2) hx hb hts (fun _ h => List.mem_cons_of_mem _ (List.mem_append_right _ h)) hown hK hP 24 rfl rfl 0 (by decide) (hts (.fieldLink RX6 213 "FillCells$Text" "length" "I") (List.mem_of_getElem? (i := 2) rfl)) (fun _ h9 => h9) rfl dX6_clear_4 ?_
  refine lv_istore_n (lv' := [(1, .int (gI σ 5)), (0, .ref (aD G 25))]) hx hb dX6_clear_7 rfl hl (by decide) rfl (fun ls hl => ?_)
  refine lv_aload_n hx hb dX6_clear_8 rfl (lv_at hl 1 rfl) ?_
  refine va_get (ci := 6) (v := .ref (aD G 24)) (C := RX6) (T := TX6) (N := 7) hx hb hts (fun _ h => List.mem_cons_of_mem _ (List.mem_append_left _ (List.mem_append_right _ h))) hown hK hP 25 rfl rfl 2 (by decide) (hts (.fieldLink RX6 26 "FillCells" "text" "LFillCells$Text;") (List.mem_of_getElem? (i := 1) rfl)) (fun _ h9 => h9) rfl dX6_clear_9 ?_
  refine lv_iconst (v := (0 : Int32)) hx hb dX6_clear_12 (by decide) ?_
  refine va_put (ci := 4) (v := .int (0 : Int32)) (ty := .int) (C := RX4) (T := TX4) (N := 2) hx hb hts (fun _ h => List.mem_cons_of_mem _ (List.mem_append_right _ h)) tyX4 tyX4_ok nmX4 hown hK hP hD hS 24 rfl rfl 0 (by decide) (hts (.fieldLink RX6 213 "FillCells$Text" "length" "I") (List.mem_of_getElem? (i := 2) rfl)) (fun _ h9 => h9) rfl (by decide +kernel) rfl rfl (Nat.le_of_ble_eq_true rfl) dX6_clear_13 (fun H locs hP hD hS => ?_)
  have hP : va_P G.1 vwCl (wC G (sI σ 5 (0 : Int32))) H := hP
  have hD : va_D A (wC G (sI σ 5 (0 : Int32))) := hD
  refine lv_iload_n hx hb dX6_clear_16 rfl (lv_at hl 0 rfl) ?_
  rw [← hQ, ← Option.some.inj hE]
  exact ri hx hb hr hlocks hK hP hD hS dX6_clear_17
abbrev rmX6_reads : Room := { frames := 4, cells := 0, slots := 0, locals := 89 }

def f_X6_reads (σ : St) : Option (Int32 × St) := bnd (f_X4_fault σ) (fun r1 => if r1 = (-1 : Int32) then (bnd (f_X2_note σ) (fun r2 => bnd (f_X4_tell r2) (fun r3 => bnd (f_X0_settle r3.2) (fun r4 => bnd (f_X1_measure r4) (fun r5 => bnd (f_X2_keep r5) (fun r6 => some (r3.1, r6))))))) else (some (((-10 : Int32) - r1), σ)))
set_option maxHeartbeats 4000000 in
set_option maxRecDepth 100000 in
theorem c_X6_reads (l : Launch) (G : EV)   (σ : St) (r : (Int32 × St)) (hE : f_X6_reads σ = some r) : MetI l G yX6_reads wsX6_reads rmX6_reads [.ref (aD G 25)] (wC G σ) r.1 (wC G r.2) := by
  refine Met.of0 (Qf := PI G r.1 (wC G r.2)) (cc := cX6_reads) (maxL := 3) (ret := (some .int)) (by decide) rfl (Nat.le_of_ble_eq_true rfl) ?_
  intro p e s m below meth c args A hx hb hr hts hown hlocks hml hin0 hA hS hP hK hD hX ls hl
  have hl : lv_has ls 3 [(0, .ref (aD G 25))] := hl
  generalize hQ : MQ below (PI G r.1 (wC G r.2) A) args s 0 0 A = Q
  unfold f_X6_reads at hE
  refine lv_aload_n hx hb dX6_reads_0 rfl (lv_at hl 0 rfl) ?_
  refine va_get (ci := 6) (v := .ref (aD G 24)) (C := RX6) (T := TX6) (N := 7) hx hb hts (fun _ h => List.mem_cons_of_mem _ (List.mem_append_left _ (List.mem_append_left _ (List.mem_append_left _ (List.mem_append_left _ (List.mem_append_left _ (List.mem_append_left _ (List.mem_append_right _ h)))))))) hown hK hP 25 rfl rfl 2 (by decide) (hts (.fieldLink RX6 26 "FillCells" "text" "LFillCells$Text;") (List.mem_of_getElem? (i := 1) rfl)) (fun _ h9 => h9) rfl dX6_reads_1 ?_
  obtain ⟨r1, hC, hE⟩ := bnd_some hE
  refine ci (va_runV (As := []) (rest := []) ⟨hx, hb, hml, hown, hts⟩ (c_X4_fault l G σ r1 hC _) (cwV 0 hts gX6_reads_X4_fault rfl rfl rfl (by decide +kernel) ⟨Nat.le_of_ble_eq_true rfl, Nat.le_of_ble_eq_true rfl⟩) (preV hK hP hD hS hA hX (va_recv hK hP (ci := 4) (q0 := 24) rfl rfl)) rfl rfl hl.1 rfl (lv_room (Nat.le_of_ble_eq_true rfl)) dX6_reads_4 ⟨Nat.le_of_ble_eq_true rfl, Nat.le_of_ble_eq_true rfl⟩) hD hS hA (fun H locs hP hD hS => ?_)
  refine lv_istore_n (lv' := [(1, .int r1), (0, .ref (aD G 25))]) hx hb dX6_reads_7 rfl hl (by decide) rfl (fun ls hl => ?_)
  refine lv_iload_n hx hb dX6_reads_8 rfl (lv_at hl 0 rfl) ?_
  refine lv_iconst (v := (-1 : Int32)) hx hb dX6_reads_9 (by decide) ?_
  refine lv_icmp_eq (tgt := 18) hx hb dX6_reads_10 (by decide) (fun c_ => ?_) (fun c_ => ?_)
  · have hE := ip c_ hE
    refine lv_aload_n hx hb dX6_reads_18 rfl (lv_at hl 1 rfl) ?_
    refine va_get (ci := 6) (v := .ref (aD G 23)) (C := RX6) (T := TX6) (N := 7) hx hb hts (fun _ h => List.mem_cons_of_mem _ (List.mem_append_left _ (List.mem_append_left _ (List.mem_append_left _ (List.mem_append_left _ (List.mem_append_left _ (List.mem_append_left _ (List.mem_append_right _ h)))))))) hown hK hP 25 rfl rfl 1 (by decide) (hts (.fieldLink RX6 19 "FillCells" "history" "LFillCells$History;") (List.mem_of_getElem? (i := 2) rfl)) (fun _ h9 => h9) rfl dX6_reads_19 ?_
    refine lv_aload_n hx hb dX6_reads_22 rfl (lv_at hl 1 rfl) ?_
    refine va_get (ci := 6) (v := .ref (aD G 22)) (C := RX6) (T := TX6) (N := 7) hx hb hts (fun _ h => List.mem_cons_of_mem _ (List.mem_append_left _ (List.mem_append_left _ (List.mem_append_left _ (List.mem_append_left _ (List.mem_append_left _ (List.mem_append_left _ (List.mem_append_right _ h)))))))) hown hK hP 25 rfl rfl 0 (by decide) (hts (.fieldLink RX6 10 "FillCells" "filling" "LFillCells$Filling;") (List.mem_of_getElem? (i := 3) rfl)) (fun _ h9 => h9) rfl dX6_reads_23 ?_
    refine va_get (ci := 1) (v := .ref (aD G 19)) (C := RX1) (T := TX1) (N := 9) hx hb hts (fun _ h => List.mem_cons_of_mem _ (List.mem_append_left _ (List.mem_append_left _ (List.mem_append_left _ (List.mem_append_left _ (List.mem_append_left _ (List.mem_append_right _ h))))))) hown hK hP 22 rfl rfl 0 (by decide) (hts (.fieldLink RX6 65 "FillCells$Filling" "field" "LFillCells$Field;") (List.mem_of_getElem? (i := 4) rfl)) (fun _ h9 => h9) rfl dX6_reads_26 ?_
    obtain ⟨r2, hC, hE⟩ := bnd_some hE
    refine cv (va_runV (As := [.ref (aD G 19)]) (rest := []) ⟨hx, hb, hml, hown, hts⟩ (c_X2_note l G σ r2 hC _) (cwV 1 hts gX6_reads_X2_note rfl rfl rfl (by decide +kernel) ⟨Nat.le_of_ble_eq_true rfl, Nat.le_of_ble_eq_true rfl⟩) (preV hK hP hD hS hA hX (va_recv hK hP (ci := 2) (q0 := 23) rfl rfl)) rfl rfl hl.1 rfl (lv_room (Nat.le_of_ble_eq_true rfl)) dX6_reads_29 ⟨Nat.le_of_ble_eq_true rfl, Nat.le_of_ble_eq_true rfl⟩) hD hS hA (fun H locs hP hD hS => ?_)
    refine lv_aload_n hx hb dX6_reads_32 rfl (lv_at hl 1 rfl) ?_
    refine va_get (ci := 6) (v := .ref (aD G 24)) (C := RX6) (T := TX6) (N := 7) hx hb hts (fun _ h => List.mem_cons_of_mem _ (List.mem_append_left _ (List.mem_append_left _ (List.mem_append_left _ (List.mem_append_left _ (List.mem_append_left _ (List.mem_append_left _ (List.mem_append_right _ h)))))))) hown hK hP 25 rfl rfl 2 (by decide) (hts (.fieldLink RX6 26 "FillCells" "text" "LFillCells$Text;") (List.mem_of_getElem? (i := 1) rfl)) (fun _ h9 => h9) rfl dX6_reads_33 ?_
    refine lv_aload_n hx hb dX6_reads_36 rfl (lv_at hl 1 rfl) ?_
    refine va_get (ci := 6) (v := .ref (aD G 22)) (C := RX6) (T := TX6) (N := 7) hx hb hts (fun _ h => List.mem_cons_of_mem _ (List.mem_append_left _ (List.mem_append_left _ (List.mem_append_left _ (List.mem_append_left _ (List.mem_append_left _ (List.mem_append_left _ (List.mem_append_right _ h)))))))) hown hK hP 25 rfl rfl 0 (by decide) (hts (.fieldLink RX6 10 "FillCells" "filling" "LFillCells$Filling;") (List.mem_of_getElem? (i := 3) rfl)) (fun _ h9 => h9) rfl dX6_reads_37 ?_
    refine va_get (ci := 1) (v := .ref (aD G 19)) (C := RX1) (T := TX1) (N := 9) hx hb hts (fun _ h => List.mem_cons_of_mem _ (List.mem_append_left _ (List.mem_append_left _ (List.mem_append_left _ (List.mem_append_left _ (List.mem_append_left _ (List.mem_append_right _ h))))))) hown hK hP 22 rfl rfl 0 (by decide) (hts (.fieldLink RX6 65 "FillCells$Filling" "field" "LFillCells$Field;") (List.mem_of_getElem? (i := 4) rfl)) (fun _ h9 => h9) rfl dX6_reads_40 ?_
    obtain ⟨r3, hC, hE⟩ := bnd_some hE
    refine ci (va_runV (As := [.ref (aD G 19)]) (rest := []) ⟨hx, hb, hml, hown, hts⟩ (c_X4_tell l G r2 r3 hC _) (cwV 1 hts gX6_reads_X4_tell rfl rfl rfl (by decide +kernel) ⟨Nat.le_of_ble_eq_true rfl, Nat.le_of_ble_eq_true rfl⟩) (preV hK hP hD hS hA hX (va_recv hK hP (ci := 4) (q0 := 24) rfl rfl)) rfl rfl hl.1 rfl (lv_room (Nat.le_of_ble_eq_true rfl)) dX6_reads_43 ⟨Nat.le_of_ble_eq_true rfl, Nat.le_of_ble_eq_true rfl⟩) hD hS hA (fun H locs hP hD hS => ?_)
    refine lv_istore_n (lv' := [(2, .int r3.1), (1, .int r1), (0, .ref (aD G 25))]) hx hb dX6_reads_46 rfl hl (by decide) rfl (fun ls hl => ?_)
    refine lv_aload_n hx hb dX6_reads_47 rfl (lv_at hl 2 rfl) ?_
    refine va_get (ci := 6) (v := .ref (aD G 22)) (C := RX6) (T := TX6) (N := 7) hx hb hts (fun _ h => List.mem_cons_of_mem _ (List.mem_append_left _ (List.mem_append_left _ (List.mem_append_left _ (List.mem_append_left _ (List.mem_append_left _ (List.mem_append_left _ (List.mem_append_right _ h)))))))) hown hK hP 25 rfl rfl 0 (by decide) (hts (.fieldLink RX6 10 "FillCells" "filling" "LFillCells$Filling;") (List.mem_of_getElem? (i := 3) rfl)) (fun _ h9 => h9) rfl dX6_reads_48 ?_
    refine va_get (ci := 1) (v := .ref (aD G 19)) (C := RX1) (T := TX1) (N := 9) hx hb hts (fun _ h => List.mem_cons_of_mem _ (List.mem_append_left _ (List.mem_append_left _ (List.mem_append_left _ (List.mem_append_left _ (List.mem_append_left _ (List.mem_append_right _ h))))))) hown hK hP 22 rfl rfl 0 (by decide) (hts (.fieldLink RX6 65 "FillCells$Filling" "field" "LFillCells$Field;") (List.mem_of_getElem? (i := 4) rfl)) (fun _ h9 => h9) rfl dX6_reads_51 ?_
    obtain ⟨r4, hC, hE⟩ := bnd_some hE
    refine cv (va_runV (As := []) (rest := []) ⟨hx, hb, hml, hown, hts⟩ (c_X0_settle l G r3.2 r4 hC _) (cwV 0 hts gX6_reads_X0_settle rfl rfl rfl (by decide +kernel) ⟨Nat.le_of_ble_eq_true rfl, Nat.le_of_ble_eq_true rfl⟩) (preV hK hP hD hS hA hX (va_recv hK hP (ci := 0) (q0 := 19) rfl rfl)) rfl rfl hl.1 rfl (lv_room (Nat.le_of_ble_eq_true rfl)) dX6_reads_54 ⟨Nat.le_of_ble_eq_true rfl, Nat.le_of_ble_eq_true rfl⟩) hD hS hA (fun H locs hP hD hS => ?_)
    refine lv_aload_n hx hb dX6_reads_57 rfl (lv_at hl 2 rfl) ?_
    refine va_get (ci := 6) (v := .ref (aD G 22)) (C := RX6) (T := TX6) (N := 7) hx hb hts (fun _ h => List.mem_cons_of_mem _ (List.mem_append_left _ (List.mem_append_left _ (List.mem_append_left _ (List.mem_append_left _ (List.mem_append_left _ (List.mem_append_left _ (List.mem_append_right _ h)))))))) hown hK hP 25 rfl rfl 0 (by decide) (hts (.fieldLink RX6 10 "FillCells" "filling" "LFillCells$Filling;") (List.mem_of_getElem? (i := 3) rfl)) (fun _ h9 => h9) rfl dX6_reads_58 ?_
    obtain ⟨r5, hC, hE⟩ := bnd_some hE
    refine cv (va_runV (As := []) (rest := []) ⟨hx, hb, hml, hown, hts⟩ (c_X1_measure l G r4 r5 hC _) (cwV 0 hts gX6_reads_X1_measure rfl rfl rfl (by decide +kernel) ⟨Nat.le_of_ble_eq_true rfl, Nat.le_of_ble_eq_true rfl⟩) (preV hK hP hD hS hA hX (va_recv hK hP (ci := 1) (q0 := 22) rfl rfl)) rfl rfl hl.1 rfl (lv_room (Nat.le_of_ble_eq_true rfl)) dX6_reads_61 ⟨Nat.le_of_ble_eq_true rfl, Nat.le_of_ble_eq_true rfl⟩) hD hS hA (fun H locs hP hD hS => ?_)
    refine lv_aload_n hx hb dX6_reads_64 rfl (lv_at hl 2 rfl) ?_
    refine va_get (ci := 6) (v := .ref (aD G 23)) (C := RX6) (T := TX6) (N := 7) hx hb hts (fun _ h => List.mem_cons_of_mem _ (List.mem_append_left _ (List.mem_append_left _ (List.mem_append_left _ (List.mem_append_left _ (List.mem_append_left _ (List.mem_append_left _ (List.mem_append_right _ h)))))))) hown hK hP 25 rfl rfl 1 (by decide) (hts (.fieldLink RX6 19 "FillCells" "history" "LFillCells$History;") (List.mem_of_getElem? (i := 2) rfl)) (fun _ h9 => h9) rfl dX6_reads_65 ?_
    obtain ⟨r6, hC, hE⟩ := bnd_some hE
    refine cv (va_runV (As := []) (rest := []) ⟨hx, hb, hml, hown, hts⟩ (c_X2_keep l G r5 r6 hC _) (cwV 0 hts gX6_reads_X2_keep rfl rfl rfl (by decide +kernel) ⟨Nat.le_of_ble_eq_true rfl, Nat.le_of_ble_eq_true rfl⟩) (preV hK hP hD hS hA hX (va_recv hK hP (ci := 2) (q0 := 23) rfl rfl)) rfl rfl hl.1 rfl (lv_room (Nat.le_of_ble_eq_true rfl)) dX6_reads_68 ⟨Nat.le_of_ble_eq_true rfl, Nat.le_of_ble_eq_true rfl⟩) hD hS hA (fun H locs hP hD hS => ?_)
    refine lv_iload_n hx hb dX6_reads_71 rfl (lv_at hl 0 rfl) ?_
    rw [← hQ, ← Option.some.inj hE]
    exact ri hx hb hr hlocks hK hP hD hS dX6_reads_72
  · have hE := im c_ hE
    refine lv_bipush (v := (-10 : Int32)) hx hb dX6_reads_13 (by decide) ?_
    refine lv_iload_n hx hb dX6_reads_15 rfl (lv_at hl 0 rfl) ?_
    refine lv_isub hx hb dX6_reads_16 ?_
    rw [← hQ, ← Option.some.inj hE]
    exact ri hx hb hr hlocks hK hP hD hS dX6_reads_17
abbrev rmX6_told : Room := { frames := 1, cells := 0, slots := 0, locals := 21 }

def f_X6_told (x1 : Int32) (σ : St) : Option (Int32 × St) := if x1 = (0 : Int32) then (some ((gI σ 10), σ)) else (if x1 = (1 : Int32) then (some ((gI σ 11), σ)) else (if x1 = (2 : Int32) then (some ((gI σ 12), σ)) else (if x1 = (3 : Int32) then (some ((gI σ 5), σ)) else (if x1 = (4 : Int32) then (gd (0 : Int32) 8 (some ((rd σ 17 (0 : Int32)), σ))) else (if x1 = (5 : Int32) then (gd (1 : Int32) 8 (some ((rd σ 17 (1 : Int32)), σ))) else (if x1 = (6 : Int32) then (gd (2 : Int32) 8 (some ((rd σ 17 (2 : Int32)), σ))) else (if x1 = (7 : Int32) then (gd (3 : Int32) 8 (some ((rd σ 17 (3 : Int32)), σ))) else (if x1 = (8 : Int32) then (gd (7 : Int32) 8 (some ((rd σ 17 (7 : Int32)), σ))) else (if x1 = (9 : Int32) then (some ((gI σ 3), σ)) else (bnd (f_X6_refuse (-2 : Int32) σ) (fun r1 => some (r1.1, r1.2))))))))))))
set_option maxHeartbeats 4000000 in
set_option maxRecDepth 100000 in
theorem c_X6_told (l : Launch) (G : EV)  (x1 : Int32) (σ : St) (r : (Int32 × St)) (hE : f_X6_told x1 σ = some r) : MetI l G yX6_told wsX6_told rmX6_told [.ref (aD G 25), .int x1] (wC G σ) r.1 (wC G r.2) := by
  refine Met.of0 (Qf := PI G r.1 (wC G r.2)) (cc := cX6_told) (maxL := 2) (ret := (some .int)) (by decide) rfl (Nat.le_of_ble_eq_true rfl) ?_
  intro p e s m below meth c args A hx hb hr hts hown hlocks hml hin0 hA hS hP hK hD hX ls hl
  have hl : lv_has ls 2 [(0, .ref (aD G 25)), (1, .int x1)] := hl
  generalize hQ : MQ below (PI G r.1 (wC G r.2) A) args s 0 0 A = Q
  unfold f_X6_told at hE
  refine lv_iload_n hx hb dX6_told_0 rfl (lv_at hl 1 rfl) ?_
  by_cases c_0 : x1 = (0 : Int32)
  · have hE := ip c_0 hE
    refine lv_tableIn (off := 55) (tgt := 56) hx hb dX6_told_1 (by rw [c_0]; decide) (by rw [c_0]; decide) (by rw [c_0]; rfl) (by decide) ?_
    refine lv_aload_n hx hb dX6_told_56 rfl (lv_at hl 0 rfl) ?_
    refine va_get (ci := 6) (v := .int (gI σ 10)) (C := RX6) (T := TX6) (N := 7) hx hb hts (fun _ h => List.mem_cons_of_mem _ (List.mem_append_left _ (List.mem_append_left _ (List.mem_append_right _ h)))) hown hK hP 25 rfl rfl 4 (by decide) (hts (.fieldLink RX6 34 "FillCells" "bads" "I") (List.mem_of_getElem? (i := 1) rfl)) (fun _ h9 => h9) rfl dX6_told_57 ?_
    rw [← hQ, ← Option.some.inj hE]
    exact ri hx hb hr hlocks hK hP hD hS dX6_told_60
  · have hE := im c_0 hE
    by_cases c_1 : x1 = (1 : Int32)
    · have hE := ip c_1 hE
      refine lv_tableIn (off := 60) (tgt := 61) hx hb dX6_told_1 (by rw [c_1]; decide) (by rw [c_1]; decide) (by rw [c_1]; rfl) (by decide) ?_
      refine lv_aload_n hx hb dX6_told_61 rfl (lv_at hl 0 rfl) ?_
      refine va_get (ci := 6) (v := .int (gI σ 11)) (C := RX6) (T := TX6) (N := 7) hx hb hts (fun _ h => List.mem_cons_of_mem _ (List.mem_append_left _ (List.mem_append_left _ (List.mem_append_right _ h)))) hown hK hP 25 rfl rfl 5 (by decide) (hts (.fieldLink RX6 38 "FillCells" "noes" "I") (List.mem_of_getElem? (i := 2) rfl)) (fun _ h9 => h9) rfl dX6_told_62 ?_
      rw [← hQ, ← Option.some.inj hE]
      exact ri hx hb hr hlocks hK hP hD hS dX6_told_65
    · have hE := im c_1 hE
      by_cases c_2 : x1 = (2 : Int32)
      · have hE := ip c_2 hE
        refine lv_tableIn (off := 65) (tgt := 66) hx hb dX6_told_1 (by rw [c_2]; decide) (by rw [c_2]; decide) (by rw [c_2]; rfl) (by decide) ?_
        refine lv_aload_n hx hb dX6_told_66 rfl (lv_at hl 0 rfl) ?_
        refine va_get (ci := 6) (v := .int (gI σ 12)) (C := RX6) (T := TX6) (N := 7) hx hb hts (fun _ h => List.mem_cons_of_mem _ (List.mem_append_left _ (List.mem_append_left _ (List.mem_append_right _ h)))) hown hK hP 25 rfl rfl 6 (by decide) (hts (.fieldLink RX6 41 "FillCells" "fulls" "I") (List.mem_of_getElem? (i := 3) rfl)) (fun _ h9 => h9) rfl dX6_told_67 ?_
        rw [← hQ, ← Option.some.inj hE]
        exact ri hx hb hr hlocks hK hP hD hS dX6_told_70
      · have hE := im c_2 hE
        by_cases c_3 : x1 = (3 : Int32)
        · have hE := ip c_3 hE
          refine lv_tableIn (off := 70) (tgt := 71) hx hb dX6_told_1 (by rw [c_3]; decide) (by rw [c_3]; decide) (by rw [c_3]; rfl) (by decide) ?_
          refine lv_aload_n hx hb dX6_told_71 rfl (lv_at hl 0 rfl) ?_
          refine va_get (ci := 6) (v := .ref (aD G 24)) (C := RX6) (T := TX6) (N := 7) hx hb hts (fun _ h => List.mem_cons_of_mem _ (List.mem_append_left _ (List.mem_append_left _ (List.mem_append_right _ h)))) hown hK hP 25 rfl rfl 2 (by decide) (hts (.fieldLink RX6 26 "FillCells" "text" "LFillCells$Text;") (List.mem_of_getElem? (i := 4) rfl)) (fun _ h9 => h9) rfl dX6_told_72 ?_
          refine va_get (ci := 4) (v := .int (gI σ 5)) (C := RX4) (T := TX4) (N := 2) hx hb hts (fun _ h => List.mem_cons_of_mem _ (List.mem_append_left _ (List.mem_append_right _ h))) hown hK hP 24 rfl rfl 0 (by decide) (hts (.fieldLink RX6 213 "FillCells$Text" "length" "I") (List.mem_of_getElem? (i := 5) rfl)) (fun _ h9 => h9) rfl dX6_told_75 ?_
          rw [← hQ, ← Option.some.inj hE]
          exact ri hx hb hr hlocks hK hP hD hS dX6_told_78
        · have hE := im c_3 hE
          by_cases c_4 : x1 = (4 : Int32)
          · have hE := ip c_4 hE
            refine lv_tableIn (off := 78) (tgt := 79) hx hb dX6_told_1 (by rw [c_4]; decide) (by rw [c_4]; decide) (by rw [c_4]; rfl) (by decide) ?_
            refine lv_aload_n hx hb dX6_told_79 rfl (lv_at hl 0 rfl) ?_
            refine va_get (ci := 6) (v := .ref (aD G 17)) (C := RX6) (T := TX6) (N := 7) hx hb hts (fun _ h => List.mem_cons_of_mem _ (List.mem_append_left _ (List.mem_append_left _ (List.mem_append_right _ h)))) hown hK hP 25 rfl rfl 3 (by decide) (hts (.fieldLink RX6 30 "FillCells" "settings" "[I") (List.mem_of_getElem? (i := 6) rfl)) (fun _ h9 => h9) rfl dX6_told_80 ?_
            refine lv_iconst (v := (0 : Int32)) hx hb dX6_told_83 (by decide) ?_
            obtain ⟨h_i, hE⟩ := gd_some hE
            refine ldC hx hb hK hP 17 (by decide) h_i dX6_told_84 ?_
            rw [← hQ, ← Option.some.inj hE]
            exact ri hx hb hr hlocks hK hP hD hS dX6_told_85
          · have hE := im c_4 hE
            by_cases c_5 : x1 = (5 : Int32)
            · have hE := ip c_5 hE
              refine lv_tableIn (off := 85) (tgt := 86) hx hb dX6_told_1 (by rw [c_5]; decide) (by rw [c_5]; decide) (by rw [c_5]; rfl) (by decide) ?_
              refine lv_aload_n hx hb dX6_told_86 rfl (lv_at hl 0 rfl) ?_
              refine va_get (ci := 6) (v := .ref (aD G 17)) (C := RX6) (T := TX6) (N := 7) hx hb hts (fun _ h => List.mem_cons_of_mem _ (List.mem_append_left _ (List.mem_append_left _ (List.mem_append_right _ h)))) hown hK hP 25 rfl rfl 3 (by decide) (hts (.fieldLink RX6 30 "FillCells" "settings" "[I") (List.mem_of_getElem? (i := 6) rfl)) (fun _ h9 => h9) rfl dX6_told_87 ?_
              refine lv_iconst (v := (1 : Int32)) hx hb dX6_told_90 (by decide) ?_
              obtain ⟨h_i, hE⟩ := gd_some hE
              refine ldC hx hb hK hP 17 (by decide) h_i dX6_told_91 ?_
              rw [← hQ, ← Option.some.inj hE]
              exact ri hx hb hr hlocks hK hP hD hS dX6_told_92
            · have hE := im c_5 hE
              by_cases c_6 : x1 = (6 : Int32)
              · have hE := ip c_6 hE
                refine lv_tableIn (off := 92) (tgt := 93) hx hb dX6_told_1 (by rw [c_6]; decide) (by rw [c_6]; decide) (by rw [c_6]; rfl) (by decide) ?_
                refine lv_aload_n hx hb dX6_told_93 rfl (lv_at hl 0 rfl) ?_
                refine va_get (ci := 6) (v := .ref (aD G 17)) (C := RX6) (T := TX6) (N := 7) hx hb hts (fun _ h => List.mem_cons_of_mem _ (List.mem_append_left _ (List.mem_append_left _ (List.mem_append_right _ h)))) hown hK hP 25 rfl rfl 3 (by decide) (hts (.fieldLink RX6 30 "FillCells" "settings" "[I") (List.mem_of_getElem? (i := 6) rfl)) (fun _ h9 => h9) rfl dX6_told_94 ?_
                refine lv_iconst (v := (2 : Int32)) hx hb dX6_told_97 (by decide) ?_
                obtain ⟨h_i, hE⟩ := gd_some hE
                refine ldC hx hb hK hP 17 (by decide) h_i dX6_told_98 ?_
                rw [← hQ, ← Option.some.inj hE]
                exact ri hx hb hr hlocks hK hP hD hS dX6_told_99
              · have hE := im c_6 hE
                by_cases c_7 : x1 = (7 : Int32)
                · have hE := ip c_7 hE
                  refine lv_tableIn (off := 99) (tgt := 100) hx hb dX6_told_1 (by rw [c_7]; decide) (by rw [c_7]; decide) (by rw [c_7]; rfl) (by decide) ?_
                  refine lv_aload_n hx hb dX6_told_100 rfl (lv_at hl 0 rfl) ?_
                  refine va_get (ci := 6) (v := .ref (aD G 17)) (C := RX6) (T := TX6) (N := 7) hx hb hts (fun _ h => List.mem_cons_of_mem _ (List.mem_append_left _ (List.mem_append_left _ (List.mem_append_right _ h)))) hown hK hP 25 rfl rfl 3 (by decide) (hts (.fieldLink RX6 30 "FillCells" "settings" "[I") (List.mem_of_getElem? (i := 6) rfl)) (fun _ h9 => h9) rfl dX6_told_101 ?_
                  refine lv_iconst (v := (3 : Int32)) hx hb dX6_told_104 (by decide) ?_
                  obtain ⟨h_i, hE⟩ := gd_some hE
                  refine ldC hx hb hK hP 17 (by decide) h_i dX6_told_105 ?_
                  rw [← hQ, ← Option.some.inj hE]
                  exact ri hx hb hr hlocks hK hP hD hS dX6_told_106
                · have hE := im c_7 hE
                  by_cases c_8 : x1 = (8 : Int32)
                  · have hE := ip c_8 hE
                    refine lv_tableIn (off := 106) (tgt := 107) hx hb dX6_told_1 (by rw [c_8]; decide) (by rw [c_8]; decide) (by rw [c_8]; rfl) (by decide) ?_
                    refine lv_aload_n hx hb dX6_told_107 rfl (lv_at hl 0 rfl) ?_
                    refine va_get (ci := 6) (v := .ref (aD G 17)) (C := RX6) (T := TX6) (N := 7) hx hb hts (fun _ h => List.mem_cons_of_mem _ (List.mem_append_left _ (List.mem_append_left _ (List.mem_append_right _ h)))) hown hK hP 25 rfl rfl 3 (by decide) (hts (.fieldLink RX6 30 "FillCells" "settings" "[I") (List.mem_of_getElem? (i := 6) rfl)) (fun _ h9 => h9) rfl dX6_told_108 ?_
                    refine lv_bipush (v := (7 : Int32)) hx hb dX6_told_111 (by decide) ?_
                    obtain ⟨h_i, hE⟩ := gd_some hE
                    refine ldC hx hb hK hP 17 (by decide) h_i dX6_told_113 ?_
                    rw [← hQ, ← Option.some.inj hE]
                    exact ri hx hb hr hlocks hK hP hD hS dX6_told_114
                  · have hE := im c_8 hE
                    by_cases c_9 : x1 = (9 : Int32)
                    · have hE := ip c_9 hE
                      refine lv_tableIn (off := 114) (tgt := 115) hx hb dX6_told_1 (by rw [c_9]; decide) (by rw [c_9]; decide) (by rw [c_9]; rfl) (by decide) ?_
                      refine lv_aload_n hx hb dX6_told_115 rfl (lv_at hl 0 rfl) ?_
                      refine va_get (ci := 6) (v := .ref (aD G 23)) (C := RX6) (T := TX6) (N := 7) hx hb hts (fun _ h => List.mem_cons_of_mem _ (List.mem_append_left _ (List.mem_append_left _ (List.mem_append_right _ h)))) hown hK hP 25 rfl rfl 1 (by decide) (hts (.fieldLink RX6 19 "FillCells" "history" "LFillCells$History;") (List.mem_of_getElem? (i := 7) rfl)) (fun _ h9 => h9) rfl dX6_told_116 ?_
                      refine va_get (ci := 2) (v := .int (gI σ 3)) (C := RX2) (T := TX2) (N := 3) hx hb hts (fun _ h => List.mem_cons_of_mem _ (List.mem_append_right _ h)) hown hK hP 23 rfl rfl 0 (by decide) (hts (.fieldLink RX6 207 "FillCells$History" "kept" "I") (List.mem_of_getElem? (i := 8) rfl)) (fun _ h9 => h9) rfl dX6_told_119 ?_
                      rw [← hQ, ← Option.some.inj hE]
                      exact ri hx hb hr hlocks hK hP hD hS dX6_told_122
                    · have hE := im c_9 hE
                      refine lv_tableOut (tgt := 123) hx hb dX6_told_1 (by have q0 := lv_neT (a := 0) c_0 (by decide); have q1 := lv_neT (a := 1) c_1 (by decide); have q2 := lv_neT (a := 2) c_2 (by decide); have q3 := lv_neT (a := 3) c_3 (by decide); have q4 := lv_neT (a := 4) c_4 (by decide); have q5 := lv_neT (a := 5) c_5 (by decide); have q6 := lv_neT (a := 6) c_6 (by decide); have q7 := lv_neT (a := 7) c_7 (by decide); have q8 := lv_neT (a := 8) c_8 (by decide); have q9 := lv_neT (a := 9) c_9 (by decide); omega) (by decide) ?_
                      refine lv_aload_n hx hb dX6_told_123 rfl (lv_at hl 0 rfl) ?_
                      refine lv_bipush (v := (-2 : Int32)) hx hb dX6_told_124 (by decide) ?_
                      obtain ⟨r1, hC, hE⟩ := bnd_some hE
                      refine ci (va_runV (As := [.int (-2 : Int32)]) (rest := []) ⟨hx, hb, hml, hown, hts⟩ (c_X6_refuse l G (-2 : Int32) σ r1 hC _) (cwV 1 hts gX6_told_X6_refuse rfl rfl rfl (by decide +kernel) ⟨Nat.le_of_ble_eq_true rfl, Nat.le_of_ble_eq_true rfl⟩) (preV hK hP hD hS hA hX (va_recv hK hP (ci := 6) (q0 := 25) rfl rfl)) rfl rfl hl.1 rfl (lv_room (Nat.le_of_ble_eq_true rfl)) dX6_told_126 ⟨Nat.le_of_ble_eq_true rfl, Nat.le_of_ble_eq_true rfl⟩) hD hS hA (fun H locs hP hD hS => ?_)
                      rw [← hQ, ← Option.some.inj hE]
                      exact ri hx hb hr hlocks hK hP hD hS dX6_told_129
abbrev rmX6_digest : Room := { frames := 2, cells := 0, slots := 0, locals := 43 }
def f_X6_digest_L153 (σ : St) (v153 : Int64 × Int32) : Option (((Int64)) ⊕ (Int64 × Int32)) := if (4 : Int32) ≤ v153.2 then (some (.inl (v153.1))) else (gd v153.2 4 (some (.inr ((((31 : Int64) * v153.1) + ((rd σ 10 v153.2).toInt64)), (v153.2 + (1 : Int32))))))
def f_X6_digest_J153 (x1 : Int64) (x3 : Int32) (σ : St) : Option (Int64 × St) := bnd (loopN (f_X6_digest_L153 σ) 4096 (x1, x3)) (fun y153 => some (y153, σ))
def f_X6_digest_J115 (x1 : Int64) (σ : St) : Option (Int64 × St) := bnd (f_X5_countThin σ) (fun r1 => bnd (f_X5_countThick σ) (fun r2 => f_X6_digest_J153 (((31 : Int64) * (((31 : Int64) * x1) + ((r1).toInt64))) + ((r2).toInt64)) (1 : Int32) σ))
def f_X6_digest_J109 (x1 : Int64) (x3 : Int32) (σ : St) : Option (((Int64)) ⊕ (Int64 × Int32)) := some (.inr (x1, (x3 + (1 : Int32))))
def f_X6_digest_L75 (x3 : Int32) (σ : St) (v75 : Int64 × Int32) : Option (((Int64)) ⊕ (Int64 × Int32)) := if (4 : Int32) < v75.2 then (some (.inl (v75.1))) else (bnd (f_X0_part v75.2 σ) (fun r3 => gq (r3 < 18) (gd x3 (lnC r3) (some (.inr ((((31 : Int64) * v75.1) + ((rd σ r3 x3).toInt64)), (v75.2 + (1 : Int32))))))))
def f_X6_digest_J75 (x1 : Int64) (x3 : Int32) (x4 : Int32) (σ : St) : Option (((Int64)) ⊕ (Int64 × Int32)) := bnd (loopN (f_X6_digest_L75 x3 σ) 4096 (x1, x4)) (fun y75 => f_X6_digest_J109 y75 x3 σ)
def f_X6_digest_L66 (σ : St) (v66 : Int64 × Int32) : Option (((Int64)) ⊕ (Int64 × Int32)) := if (80 : Int32) ≤ v66.2 then (some (.inl (v66.1))) else (f_X6_digest_J75 v66.1 v66.2 (0 : Int32) σ)
def f_X6_digest_J66 (x1 : Int64) (x3 : Int32) (σ : St) : Option (Int64 × St) := bnd (loopN (f_X6_digest_L66 σ) 4096 (x1, x3)) (fun y66 => f_X6_digest_J115 y66 σ)
def f_X6_digest_J64 (x1 : Int64) (σ : St) : Option (Int64 × St) := f_X6_digest_J66 x1 (0 : Int32) σ
def f_X6_digest_L33 (σ : St) (v33 : Int64 × Int32) : Option (((Int64)) ⊕ (Int64 × Int32)) := if (4 : Int32) ≤ v33.2 then (some (.inl (v33.1))) else (gd v33.2 4 (some (.inr ((((31 : Int64) * v33.1) + ((rd σ 9 v33.2).toInt64)), (v33.2 + (1 : Int32))))))
def f_X6_digest_J33 (x1 : Int64) (x3 : Int32) (σ : St) : Option (Int64 × St) := bnd (loopN (f_X6_digest_L33 σ) 4096 (x1, x3)) (fun y33 => f_X6_digest_J64 y33 σ)
def f_X6_digest_J31 (x1 : Int64) (σ : St) : Option (Int64 × St) := f_X6_digest_J33 x1 (1 : Int32) σ
def f_X6_digest_L6  (v6 : Int64 × Int32 × St) : Option (((Int64 × St)) ⊕ (Int64 × Int32 × St)) := if (9 : Int32) < v6.2.1 then (some (.inl (v6.1, v6.2.2))) else (bnd (f_X6_told v6.2.1 v6.2.2) (fun r4 => some (.inr ((((31 : Int64) * v6.1) + ((r4.1).toInt64)), (v6.2.1 + (1 : Int32)), r4.2))))
def f_X6_digest_J6 (x1 : Int64) (x3 : Int32) (σ : St) : Option (Int64 × St) := bnd (loopN (f_X6_digest_L6 ) 4096 (x1, x3, σ)) (fun y6 => f_X6_digest_J31 y6.1 y6.2)
def f_X6_digest (σ : St) : Option (Int64 × St) := f_X6_digest_J6 (2081 : Int64) (0 : Int32) σ
set_option maxHeartbeats 4000000 in
set_option maxRecDepth 100000 in
theorem c_X6_digest (l : Launch) (G : EV)   (σ : St) (r : (Int64 × St)) (hE : f_X6_digest σ = some r) : MetL l G yX6_digest wsX6_digest rmX6_digest [.ref (aD G 25)] (wC G σ) r.1 (wC G r.2) := by
  refine Met.of0 (Qf := PL G r.1 (wC G r.2)) (cc := cX6_digest) (maxL := 5) (ret := (some .long)) (by decide) rfl (Nat.le_of_ble_eq_true rfl) ?_
  intro p e s m below meth c args A hx hb hr hts hown hlocks hml hin0 hA hS hP hK hD hX ls hl
  have hl : lv_has ls 5 [(0, .ref (aD G 25))] := hl
  generalize hQ : MQ below (PL G r.1 (wC G r.2) A) args s 0 0 A = Q
  unfold f_X6_digest at hE
  have J_153 : ∀ (x1 : Int64) (x3 : Int32) (σ : St) (H : Heap) (locs : List Loc) (ls : Array Slot), va_P G.1 vwCl (wC G σ) H → va_D A (wC G σ) → va_S A s.heap H locs → lv_has ls 5 [(0, .ref (aD G 25)), (1, .long x1), (3, .int x3)] → f_X6_digest_J153 x1 x3 σ = some r → W p l e rmX6_digest s m args below meth c H locs 0 0 Q (F0 m 153 ls []) := by
    intro x1 x3 σ H locs ls hP hD hS hl hE
    unfold f_X6_digest_J153 at hE
    obtain ⟨y153, hL, hE153⟩ := bnd_some hE
    refine loop_W (body := f_X6_digest_L153 σ) (y := y153) (P := fun v153 => ∀ (H : Heap) (locs : List Loc) (ls : Array Slot), va_P G.1 vwCl (wC G σ) H → va_D A (wC G σ) → va_S A s.heap H locs → lv_has ls 5 [(0, .ref (aD G 25)), (1, .long v153.1), (3, .int v153.2)] → W p l e rmX6_digest s m args below meth c H locs 0 0 Q (F0 m 153 ls [])) ?_ _ _ hL H locs ls hP hD hS hl
    clear hP hD hS hl hE hL
    intro v153 t153 hE hN153 hY153
    intro H locs ls hP hD hS hl
    unfold f_X6_digest_L153 at hE
    refine lv_iload_n hx hb dX6_digest_153 rfl (lv_at hl 2 rfl) ?_
    refine lv_iconst (v := (4 : Int32)) hx hb dX6_digest_154 (by decide) ?_
    refine lv_icmp_ge (tgt := 184) hx hb dX6_digest_155 (by decide) (fun c_ => ?_) (fun c_ => ?_)
    · have hE := ip c_ hE
      have e9 := hY153 _ (Option.some.inj hE).symm
      have hE := hE153
      rw [← e9] at hE
      refine lv_lload_n hx hb dX6_digest_184 rfl (lv_at hl 1 rfl) ?_
      rw [← hQ, ← Option.some.inj hE]
      exact rl hx hb hr hlocks hK hP hD hS dX6_digest_185
    · have hE := im c_ hE
      refine lv_ldc2 (v := (31 : Int64)) hx hb hown (hts (.constantLong RX6 228 (31)) (List.mem_of_getElem? (i := 2) rfl)) dX6_digest_158 ?_
      refine lv_lload_n hx hb dX6_digest_161 rfl (lv_at hl 1 rfl) ?_
      refine lv_lmul hx hb dX6_digest_162 ?_
      refine lv_aload_n hx hb dX6_digest_163 rfl (lv_at hl 0 rfl) ?_
      refine va_get (ci := 6) (v := .ref (aD G 22)) (C := RX6) (T := TX6) (N := 7) hx hb hts (fun _ h => List.mem_cons_of_mem _ (List.mem_append_left _ (List.mem_append_left _ (List.mem_append_left _ (List.mem_append_left _ (List.mem_append_left _ (List.mem_append_left _ (List.mem_append_right _ h)))))))) hown hK hP 25 rfl rfl 0 (by decide) (hts (.fieldLink RX6 10 "FillCells" "filling" "LFillCells$Filling;") (List.mem_of_getElem? (i := 3) rfl)) (fun _ h9 => h9) rfl dX6_digest_164 ?_
      refine va_get (ci := 1) (v := .ref (aD G 21)) (C := RX1) (T := TX1) (N := 9) hx hb hts (fun _ h => List.mem_cons_of_mem _ (List.mem_append_left _ (List.mem_append_left _ (List.mem_append_left _ (List.mem_append_left _ (List.mem_append_left _ (List.mem_append_right _ h))))))) hown hK hP 22 rfl rfl 2 (by decide) (hts (.fieldLink RX6 157 "FillCells$Filling" "nets" "LFillCells$Nets;") (List.mem_of_getElem? (i := 4) rfl)) (fun _ h9 => h9) rfl dX6_digest_167 ?_
      refine va_get (ci := 3) (v := .ref (aD G 10)) (C := RX3) (T := TX3) (N := 4) hx hb hts (fun _ h => List.mem_cons_of_mem _ (List.mem_append_left _ (List.mem_append_left _ (List.mem_append_left _ (List.mem_append_left _ (List.mem_append_right _ h)))))) hown hK hP 21 rfl rfl 1 (by decide) (hts (.fieldLink RX6 161 "FillCells$Nets" "burdens" "[I") (List.mem_of_getElem? (i := 8) rfl)) (fun _ h9 => h9) rfl dX6_digest_170 ?_
      refine lv_iload_n hx hb dX6_digest_173 rfl (lv_at hl 2 rfl) ?_
      obtain ⟨h_i, hE⟩ := gd_some hE
      refine ldC hx hb hK hP 10 (by decide) h_i dX6_digest_174 ?_
      refine lv_i2l hx hb dX6_digest_175 rfl ?_
      refine lv_ladd hx hb dX6_digest_176 ?_
      refine lv_lstore_n (lv' := [(1, .long (((31 : Int64) * v153.1) + ((rd σ 10 v153.2).toInt64))), (0, .ref (aD G 25)), (3, .int v153.2)]) hx hb dX6_digest_177 rfl hl (by decide) rfl (fun ls hl => ?_)
      refine lv_iinc (v := (v153.2 + (1 : Int32))) (lv' := [(3, .int (v153.2 + (1 : Int32))), (1, .long (((31 : Int64) * v153.1) + ((rd σ 10 v153.2).toInt64))), (0, .ref (aD G 25))]) hx hb dX6_digest_178 hl (k := 2) rfl rfl (by decide) rfl (fun ls hl => ?_)
      refine lv_goto (tgt := 153) hx hb dX6_digest_181 (by decide) ?_
      exact hN153 _ (Option.some.inj hE).symm _ _ _ hP hD hS (lv_sub hl [2, 1, 0] rfl)
  have J_115 : ∀ (x1 : Int64) (σ : St) (H : Heap) (locs : List Loc) (ls : Array Slot), va_P G.1 vwCl (wC G σ) H → va_D A (wC G σ) → va_S A s.heap H locs → lv_has ls 5 [(0, .ref (aD G 25)), (1, .long x1)] → f_X6_digest_J115 x1 σ = some r → W p l e rmX6_digest s m args below meth c H locs 0 0 Q (F0 m 115 ls []) := by
    intro x1 σ H locs ls hP hD hS hl hE
    unfold f_X6_digest_J115 at hE
    refine lv_ldc2 (v := (31 : Int64)) hx hb hown (hts (.constantLong RX6 228 (31)) (List.mem_of_getElem? (i := 2) rfl)) dX6_digest_115 ?_
    refine lv_lload_n hx hb dX6_digest_118 rfl (lv_at hl 1 rfl) ?_
    refine lv_lmul hx hb dX6_digest_119 ?_
    refine lv_aload_n hx hb dX6_digest_120 rfl (lv_at hl 0 rfl) ?_
    refine va_get (ci := 6) (v := .ref (aD G 22)) (C := RX6) (T := TX6) (N := 7) hx hb hts (fun _ h => List.mem_cons_of_mem _ (List.mem_append_left _ (List.mem_append_left _ (List.mem_append_left _ (List.mem_append_left _ (List.mem_append_left _ (List.mem_append_left _ (List.mem_append_right _ h)))))))) hown hK hP 25 rfl rfl 0 (by decide) (hts (.fieldLink RX6 10 "FillCells" "filling" "LFillCells$Filling;") (List.mem_of_getElem? (i := 3) rfl)) (fun _ h9 => h9) rfl dX6_digest_121 ?_
    refine va_get (ci := 1) (v := .ref (aD G 20)) (C := RX1) (T := TX1) (N := 9) hx hb hts (fun _ h => List.mem_cons_of_mem _ (List.mem_append_left _ (List.mem_append_left _ (List.mem_append_left _ (List.mem_append_left _ (List.mem_append_left _ (List.mem_append_right _ h))))))) hown hK hP 22 rfl rfl 1 (by decide) (hts (.fieldLink RX6 117 "FillCells$Filling" "windows" "LFillCells$Windows;") (List.mem_of_getElem? (i := 7) rfl)) (fun _ h9 => h9) rfl dX6_digest_124 ?_
    obtain ⟨r1, hC, hE⟩ := bnd_some hE
    refine ci (va_runV (As := []) (rest := [.long ((31 : Int64) * x1)]) ⟨hx, hb, hml, hown, hts⟩ (c_X5_countThin l G σ r1 hC _) (cwV 0 hts gX6_digest_X5_countThin rfl rfl rfl (by decide +kernel) ⟨Nat.le_of_ble_eq_true rfl, Nat.le_of_ble_eq_true rfl⟩) (preV hK hP hD hS hA hX (va_recv hK hP (ci := 5) (q0 := 20) rfl rfl)) rfl rfl hl.1 rfl (lv_room (Nat.le_of_ble_eq_true rfl)) dX6_digest_127 ⟨Nat.le_of_ble_eq_true rfl, Nat.le_of_ble_eq_true rfl⟩) hD hS hA (fun H locs hP hD hS => ?_)
    refine lv_i2l hx hb dX6_digest_130 rfl ?_
    refine lv_ladd hx hb dX6_digest_131 ?_
    refine lv_lstore_n (lv' := [(1, .long (((31 : Int64) * x1) + ((r1).toInt64))), (0, .ref (aD G 25))]) hx hb dX6_digest_132 rfl hl (by decide) rfl (fun ls hl => ?_)
    refine lv_ldc2 (v := (31 : Int64)) hx hb hown (hts (.constantLong RX6 228 (31)) (List.mem_of_getElem? (i := 2) rfl)) dX6_digest_133 ?_
    refine lv_lload_n hx hb dX6_digest_136 rfl (lv_at hl 0 rfl) ?_
    refine lv_lmul hx hb dX6_digest_137 ?_
    refine lv_aload_n hx hb dX6_digest_138 rfl (lv_at hl 1 rfl) ?_
    refine va_get (ci := 6) (v := .ref (aD G 22)) (C := RX6) (T := TX6) (N := 7) hx hb hts (fun _ h => List.mem_cons_of_mem _ (List.mem_append_left _ (List.mem_append_left _ (List.mem_append_left _ (List.mem_append_left _ (List.mem_append_left _ (List.mem_append_left _ (List.mem_append_right _ h)))))))) hown hK hP 25 rfl rfl 0 (by decide) (hts (.fieldLink RX6 10 "FillCells" "filling" "LFillCells$Filling;") (List.mem_of_getElem? (i := 3) rfl)) (fun _ h9 => h9) rfl dX6_digest_139 ?_
    refine va_get (ci := 1) (v := .ref (aD G 20)) (C := RX1) (T := TX1) (N := 9) hx hb hts (fun _ h => List.mem_cons_of_mem _ (List.mem_append_left _ (List.mem_append_left _ (List.mem_append_left _ (List.mem_append_left _ (List.mem_append_left _ (List.mem_append_right _ h))))))) hown hK hP 22 rfl rfl 1 (by decide) (hts (.fieldLink RX6 117 "FillCells$Filling" "windows" "LFillCells$Windows;") (List.mem_of_getElem? (i := 7) rfl)) (fun _ h9 => h9) rfl dX6_digest_142 ?_
    obtain ⟨r2, hC, hE⟩ := bnd_some hE
    refine ci (va_runV (As := []) (rest := [.long ((31 : Int64) * (((31 : Int64) * x1) + ((r1).toInt64)))]) ⟨hx, hb, hml, hown, hts⟩ (c_X5_countThick l G σ r2 hC _) (cwV 0 hts gX6_digest_X5_countThick rfl rfl rfl (by decide +kernel) ⟨Nat.le_of_ble_eq_true rfl, Nat.le_of_ble_eq_true rfl⟩) (preV hK hP hD hS hA hX (va_recv hK hP (ci := 5) (q0 := 20) rfl rfl)) rfl rfl hl.1 rfl (lv_room (Nat.le_of_ble_eq_true rfl)) dX6_digest_145 ⟨Nat.le_of_ble_eq_true rfl, Nat.le_of_ble_eq_true rfl⟩) hD hS hA (fun H locs hP hD hS => ?_)
    refine lv_i2l hx hb dX6_digest_148 rfl ?_
    refine lv_ladd hx hb dX6_digest_149 ?_
    refine lv_lstore_n (lv' := [(1, .long (((31 : Int64) * (((31 : Int64) * x1) + ((r1).toInt64))) + ((r2).toInt64))), (0, .ref (aD G 25))]) hx hb dX6_digest_150 rfl hl (by decide) rfl (fun ls hl => ?_)
    refine lv_iconst (v := (1 : Int32)) hx hb dX6_digest_151 (by decide) ?_
    refine lv_istore_n (lv' := [(3, .int (1 : Int32)), (1, .long (((31 : Int64) * (((31 : Int64) * x1) + ((r1).toInt64))) + ((r2).toInt64))), (0, .ref (aD G 25))]) hx hb dX6_digest_152 rfl hl (by decide) rfl (fun ls hl => ?_)
    exact J_153 (((31 : Int64) * (((31 : Int64) * x1) + ((r1).toInt64))) + ((r2).toInt64)) (1 : Int32) σ _ _ _ hP hD hS (lv_sub hl [2, 1, 0] rfl) hE
  have J_66 : ∀ (x1 : Int64) (x3 : Int32) (σ : St) (H : Heap) (locs : List Loc) (ls : Array Slot), va_P G.1 vwCl (wC G σ) H → va_D A (wC G σ) → va_S A s.heap H locs → lv_has ls 5 [(0, .ref (aD G 25)), (1, .long x1), (3, .int x3)] → f_X6_digest_J66 x1 x3 σ = some r → W p l e rmX6_digest s m args below meth c H locs 0 0 Q (F0 m 66 ls []) := by
    intro x1 x3 σ H locs ls hP hD hS hl hE
    unfold f_X6_digest_J66 at hE
    obtain ⟨y66, hL, hE66⟩ := bnd_some hE
    refine loop_W (body := f_X6_digest_L66 σ) (y := y66) (P := fun v66 => ∀ (H : Heap) (locs : List Loc) (ls : Array Slot), va_P G.1 vwCl (wC G σ) H → va_D A (wC G σ) → va_S A s.heap H locs → lv_has ls 5 [(0, .ref (aD G 25)), (1, .long v66.1), (3, .int v66.2)] → W p l e rmX6_digest s m args below meth c H locs 0 0 Q (F0 m 66 ls [])) ?_ _ _ hL H locs ls hP hD hS hl
    clear hP hD hS hl hE hL
    intro v66 t66 hE hN66 hY66
    intro H locs ls hP hD hS hl
    unfold f_X6_digest_L66 at hE
    have J_109 : ∀ (x1 : Int64) (x3 : Int32) (H : Heap) (locs : List Loc) (ls : Array Slot), va_P G.1 vwCl (wC G σ) H → va_D A (wC G σ) → va_S A s.heap H locs → lv_has ls 5 [(0, .ref (aD G 25)), (1, .long x1), (3, .int x3)] → f_X6_digest_J109 x1 x3 σ = some t66 → W p l e rmX6_digest s m args below meth c H locs 0 0 Q (F0 m 109 ls []) := by
      intro x1 x3 H locs ls hP hD hS hl hE
      unfold f_X6_digest_J109 at hE
      refine lv_iinc (v := (x3 + (1 : Int32))) (lv' := [(3, .int (x3 + (1 : Int32))), (0, .ref (aD G 25)), (1, .long x1)]) hx hb dX6_digest_109 hl (k := 2) rfl rfl (by decide) rfl (fun ls hl => ?_)
      refine lv_goto (tgt := 66) hx hb dX6_digest_112 (by decide) ?_
      exact hN66 _ (Option.some.inj hE).symm _ _ _ hP hD hS (lv_sub hl [1, 2, 0] rfl)
    have J_75 : ∀ (x1 : Int64) (x3 : Int32) (x4 : Int32) (H : Heap) (locs : List Loc) (ls : Array Slot), va_P G.1 vwCl (wC G σ) H → va_D A (wC G σ) → va_S A s.heap H locs → lv_has ls 5 [(0, .ref (aD G 25)), (1, .long x1), (3, .int x3), (4, .int x4)] → f_X6_digest_J75 x1 x3 x4 σ = some t66 → W p l e rmX6_digest s m args below meth c H locs 0 0 Q (F0 m 75 ls []) := by
      intro x1 x3 x4 H locs ls hP hD hS hl hE
      unfold f_X6_digest_J75 at hE
      obtain ⟨y75, hL, hE75⟩ := bnd_some hE
      refine loop_W (body := f_X6_digest_L75 x3 σ) (y := y75) (P := fun v75 => ∀ (H : Heap) (locs : List Loc) (ls : Array Slot), va_P G.1 vwCl (wC G σ) H → va_D A (wC G σ) → va_S A s.heap H locs → lv_has ls 5 [(0, .ref (aD G 25)), (1, .long v75.1), (3, .int x3), (4, .int v75.2)] → W p l e rmX6_digest s m args below meth c H locs 0 0 Q (F0 m 75 ls [])) ?_ _ _ hL H locs ls hP hD hS hl
      clear hP hD hS hl hE hL
      intro v75 t75 hE hN75 hY75
      intro H locs ls hP hD hS hl
      unfold f_X6_digest_L75 at hE
      refine lv_iload hx hb dX6_digest_75 (lv_at hl 3 rfl) ?_
      refine lv_iconst (v := (4 : Int32)) hx hb dX6_digest_77 (by decide) ?_
      refine lv_icmp_gt (tgt := 109) hx hb dX6_digest_78 (by decide) (fun c_ => ?_) (fun c_ => ?_)
      · have hE := ip c_ hE
        have e9 := hY75 _ (Option.some.inj hE).symm
        have hE := hE75
        rw [← e9] at hE
        exact J_109 v75.1 x3 _ _ _ hP hD hS (lv_sub hl [0, 1, 2] rfl) hE
      · have hE := im c_ hE
        refine lv_ldc2 (v := (31 : Int64)) hx hb hown (hts (.constantLong RX6 228 (31)) (List.mem_of_getElem? (i := 2) rfl)) dX6_digest_81 ?_
        refine lv_lload_n hx hb dX6_digest_84 rfl (lv_at hl 1 rfl) ?_
        refine lv_lmul hx hb dX6_digest_85 ?_
        refine lv_aload_n hx hb dX6_digest_86 rfl (lv_at hl 0 rfl) ?_
        refine va_get (ci := 6) (v := .ref (aD G 22)) (C := RX6) (T := TX6) (N := 7) hx hb hts (fun _ h => List.mem_cons_of_mem _ (List.mem_append_left _ (List.mem_append_left _ (List.mem_append_left _ (List.mem_append_left _ (List.mem_append_left _ (List.mem_append_left _ (List.mem_append_right _ h)))))))) hown hK hP 25 rfl rfl 0 (by decide) (hts (.fieldLink RX6 10 "FillCells" "filling" "LFillCells$Filling;") (List.mem_of_getElem? (i := 3) rfl)) (fun _ h9 => h9) rfl dX6_digest_87 ?_
        refine va_get (ci := 1) (v := .ref (aD G 19)) (C := RX1) (T := TX1) (N := 9) hx hb hts (fun _ h => List.mem_cons_of_mem _ (List.mem_append_left _ (List.mem_append_left _ (List.mem_append_left _ (List.mem_append_left _ (List.mem_append_left _ (List.mem_append_right _ h))))))) hown hK hP 22 rfl rfl 0 (by decide) (hts (.fieldLink RX6 65 "FillCells$Filling" "field" "LFillCells$Field;") (List.mem_of_getElem? (i := 6) rfl)) (fun _ h9 => h9) rfl dX6_digest_90 ?_
        refine lv_iload hx hb dX6_digest_93 (lv_at hl 3 rfl) ?_
        obtain ⟨r3, hC, hE⟩ := bnd_some hE
        refine cr (va_runV (As := [.int v75.2]) (rest := [.long ((31 : Int64) * v75.1)]) ⟨hx, hb, hml, hown, hts⟩ (c_X0_part l G v75.2 σ r3 hC _) (cwV 1 hts gX6_digest_X0_part rfl rfl rfl (by decide +kernel) ⟨Nat.le_of_ble_eq_true rfl, Nat.le_of_ble_eq_true rfl⟩) (preV hK hP hD hS hA hX (va_recv hK hP (ci := 0) (q0 := 19) rfl rfl)) rfl rfl hl.1 rfl (lv_room (Nat.le_of_ble_eq_true rfl)) dX6_digest_95 ⟨Nat.le_of_ble_eq_true rfl, Nat.le_of_ble_eq_true rfl⟩) hD hS hA (fun H locs hP hD hS => ?_)
        obtain ⟨hr3, hE⟩ := gq_some hE
        refine lv_iload_n hx hb dX6_digest_98 rfl (lv_at hl 2 rfl) ?_
        obtain ⟨h_i, hE⟩ := gd_some hE
        refine ldC hx hb hK hP r3 hr3 h_i dX6_digest_99 ?_
        refine lv_i2l hx hb dX6_digest_100 rfl ?_
        refine lv_ladd hx hb dX6_digest_101 ?_
        refine lv_lstore_n (lv' := [(1, .long (((31 : Int64) * v75.1) + ((rd σ r3 x3).toInt64))), (0, .ref (aD G 25)), (3, .int x3), (4, .int v75.2)]) hx hb dX6_digest_102 rfl hl (by decide) rfl (fun ls hl => ?_)
        refine lv_iinc (v := (v75.2 + (1 : Int32))) (lv' := [(4, .int (v75.2 + (1 : Int32))), (1, .long (((31 : Int64) * v75.1) + ((rd σ r3 x3).toInt64))), (0, .ref (aD G 25)), (3, .int x3)]) hx hb dX6_digest_103 hl (k := 3) rfl rfl (by decide) rfl (fun ls hl => ?_)
        refine lv_goto (tgt := 75) hx hb dX6_digest_106 (by decide) ?_
        exact hN75 _ (Option.some.inj hE).symm _ _ _ hP hD hS (lv_sub hl [2, 1, 3, 0] rfl)
    refine lv_iload_n hx hb dX6_digest_66 rfl (lv_at hl 2 rfl) ?_
    refine lv_bipush (v := (80 : Int32)) hx hb dX6_digest_67 (by decide) ?_
    refine lv_icmp_ge (tgt := 115) hx hb dX6_digest_69 (by decide) (fun c_ => ?_) (fun c_ => ?_)
    · have hE := ip c_ hE
      have e9 := hY66 _ (Option.some.inj hE).symm
      have hE := hE66
      rw [← e9] at hE
      exact J_115 v66.1 σ _ _ _ hP hD hS (lv_sub hl [0, 1] rfl) hE
    · have hE := im c_ hE
      refine lv_iconst (v := (0 : Int32)) hx hb dX6_digest_72 (by decide) ?_
      refine lv_istore (lv' := [(4, .int (0 : Int32)), (0, .ref (aD G 25)), (1, .long v66.1), (3, .int v66.2)]) hx hb dX6_digest_73 hl (by decide) rfl (fun ls hl => ?_)
      exact J_75 v66.1 v66.2 (0 : Int32) _ _ _ hP hD hS (lv_sub hl [1, 2, 3, 0] rfl) hE
  have J_64 : ∀ (x1 : Int64) (σ : St) (H : Heap) (locs : List Loc) (ls : Array Slot), va_P G.1 vwCl (wC G σ) H → va_D A (wC G σ) → va_S A s.heap H locs → lv_has ls 5 [(0, .ref (aD G 25)), (1, .long x1)] → f_X6_digest_J64 x1 σ = some r → W p l e rmX6_digest s m args below meth c H locs 0 0 Q (F0 m 64 ls []) := by
    intro x1 σ H locs ls hP hD hS hl hE
    unfold f_X6_digest_J64 at hE
    refine lv_iconst (v := (0 : Int32)) hx hb dX6_digest_64 (by decide) ?_
    refine lv_istore_n (lv' := [(3, .int (0 : Int32)), (0, .ref (aD G 25)), (1, .long x1)]) hx hb dX6_digest_65 rfl hl (by decide) rfl (fun ls hl => ?_)
    exact J_66 x1 (0 : Int32) σ _ _ _ hP hD hS (lv_sub hl [1, 2, 0] rfl) hE
  have J_33 : ∀ (x1 : Int64) (x3 : Int32) (σ : St) (H : Heap) (locs : List Loc) (ls : Array Slot), va_P G.1 vwCl (wC G σ) H → va_D A (wC G σ) → va_S A s.heap H locs → lv_has ls 5 [(0, .ref (aD G 25)), (1, .long x1), (3, .int x3)] → f_X6_digest_J33 x1 x3 σ = some r → W p l e rmX6_digest s m args below meth c H locs 0 0 Q (F0 m 33 ls []) := by
    intro x1 x3 σ H locs ls hP hD hS hl hE
    unfold f_X6_digest_J33 at hE
    obtain ⟨y33, hL, hE33⟩ := bnd_some hE
    refine loop_W (body := f_X6_digest_L33 σ) (y := y33) (P := fun v33 => ∀ (H : Heap) (locs : List Loc) (ls : Array Slot), va_P G.1 vwCl (wC G σ) H → va_D A (wC G σ) → va_S A s.heap H locs → lv_has ls 5 [(0, .ref (aD G 25)), (1, .long v33.1), (3, .int v33.2)] → W p l e rmX6_digest s m args below meth c H locs 0 0 Q (F0 m 33 ls [])) ?_ _ _ hL H locs ls hP hD hS hl
    clear hP hD hS hl hE hL
    intro v33 t33 hE hN33 hY33
    intro H locs ls hP hD hS hl
    unfold f_X6_digest_L33 at hE
    refine lv_iload_n hx hb dX6_digest_33 rfl (lv_at hl 2 rfl) ?_
    refine lv_iconst (v := (4 : Int32)) hx hb dX6_digest_34 (by decide) ?_
    refine lv_icmp_ge (tgt := 64) hx hb dX6_digest_35 (by decide) (fun c_ => ?_) (fun c_ => ?_)
    · have hE := ip c_ hE
      have e9 := hY33 _ (Option.some.inj hE).symm
      have hE := hE33
      rw [← e9] at hE
      exact J_64 v33.1 σ _ _ _ hP hD hS (lv_sub hl [0, 1] rfl) hE
    · have hE := im c_ hE
      refine lv_ldc2 (v := (31 : Int64)) hx hb hown (hts (.constantLong RX6 228 (31)) (List.mem_of_getElem? (i := 2) rfl)) dX6_digest_38 ?_
      refine lv_lload_n hx hb dX6_digest_41 rfl (lv_at hl 1 rfl) ?_
      refine lv_lmul hx hb dX6_digest_42 ?_
      refine lv_aload_n hx hb dX6_digest_43 rfl (lv_at hl 0 rfl) ?_
      refine va_get (ci := 6) (v := .ref (aD G 22)) (C := RX6) (T := TX6) (N := 7) hx hb hts (fun _ h => List.mem_cons_of_mem _ (List.mem_append_left _ (List.mem_append_left _ (List.mem_append_left _ (List.mem_append_left _ (List.mem_append_left _ (List.mem_append_left _ (List.mem_append_right _ h)))))))) hown hK hP 25 rfl rfl 0 (by decide) (hts (.fieldLink RX6 10 "FillCells" "filling" "LFillCells$Filling;") (List.mem_of_getElem? (i := 3) rfl)) (fun _ h9 => h9) rfl dX6_digest_44 ?_
      refine va_get (ci := 1) (v := .ref (aD G 21)) (C := RX1) (T := TX1) (N := 9) hx hb hts (fun _ h => List.mem_cons_of_mem _ (List.mem_append_left _ (List.mem_append_left _ (List.mem_append_left _ (List.mem_append_left _ (List.mem_append_left _ (List.mem_append_right _ h))))))) hown hK hP 22 rfl rfl 2 (by decide) (hts (.fieldLink RX6 157 "FillCells$Filling" "nets" "LFillCells$Nets;") (List.mem_of_getElem? (i := 4) rfl)) (fun _ h9 => h9) rfl dX6_digest_47 ?_
      refine va_get (ci := 3) (v := .ref (aD G 9)) (C := RX3) (T := TX3) (N := 4) hx hb hts (fun _ h => List.mem_cons_of_mem _ (List.mem_append_left _ (List.mem_append_left _ (List.mem_append_left _ (List.mem_append_left _ (List.mem_append_right _ h)))))) hown hK hP 21 rfl rfl 0 (by decide) (hts (.fieldLink RX6 233 "FillCells$Nets" "limits" "[I") (List.mem_of_getElem? (i := 5) rfl)) (fun _ h9 => h9) rfl dX6_digest_50 ?_
      refine lv_iload_n hx hb dX6_digest_53 rfl (lv_at hl 2 rfl) ?_
      obtain ⟨h_i, hE⟩ := gd_some hE
      refine ldC hx hb hK hP 9 (by decide) h_i dX6_digest_54 ?_
      refine lv_i2l hx hb dX6_digest_55 rfl ?_
      refine lv_ladd hx hb dX6_digest_56 ?_
      refine lv_lstore_n (lv' := [(1, .long (((31 : Int64) * v33.1) + ((rd σ 9 v33.2).toInt64))), (0, .ref (aD G 25)), (3, .int v33.2)]) hx hb dX6_digest_57 rfl hl (by decide) rfl (fun ls hl => ?_)
      refine lv_iinc (v := (v33.2 + (1 : Int32))) (lv' := [(3, .int (v33.2 + (1 : Int32))), (1, .long (((31 : Int64) * v33.1) + ((rd σ 9 v33.2).toInt64))), (0, .ref (aD G 25))]) hx hb dX6_digest_58 hl (k := 2) rfl rfl (by decide) rfl (fun ls hl => ?_)
      refine lv_goto (tgt := 33) hx hb dX6_digest_61 (by decide) ?_
      exact hN33 _ (Option.some.inj hE).symm _ _ _ hP hD hS (lv_sub hl [2, 1, 0] rfl)
  have J_31 : ∀ (x1 : Int64) (σ : St) (H : Heap) (locs : List Loc) (ls : Array Slot), va_P G.1 vwCl (wC G σ) H → va_D A (wC G σ) → va_S A s.heap H locs → lv_has ls 5 [(0, .ref (aD G 25)), (1, .long x1)] → f_X6_digest_J31 x1 σ = some r → W p l e rmX6_digest s m args below meth c H locs 0 0 Q (F0 m 31 ls []) := by
    intro x1 σ H locs ls hP hD hS hl hE
    unfold f_X6_digest_J31 at hE
    refine lv_iconst (v := (1 : Int32)) hx hb dX6_digest_31 (by decide) ?_
    refine lv_istore_n (lv' := [(3, .int (1 : Int32)), (0, .ref (aD G 25)), (1, .long x1)]) hx hb dX6_digest_32 rfl hl (by decide) rfl (fun ls hl => ?_)
    exact J_33 x1 (1 : Int32) σ _ _ _ hP hD hS (lv_sub hl [1, 2, 0] rfl) hE
  have J_6 : ∀ (x1 : Int64) (x3 : Int32) (σ : St) (H : Heap) (locs : List Loc) (ls : Array Slot), va_P G.1 vwCl (wC G σ) H → va_D A (wC G σ) → va_S A s.heap H locs → lv_has ls 5 [(0, .ref (aD G 25)), (1, .long x1), (3, .int x3)] → f_X6_digest_J6 x1 x3 σ = some r → W p l e rmX6_digest s m args below meth c H locs 0 0 Q (F0 m 6 ls []) := by
    intro x1 x3 σ H locs ls hP hD hS hl hE
    unfold f_X6_digest_J6 at hE
    obtain ⟨y6, hL, hE6⟩ := bnd_some hE
    refine loop_W (body := f_X6_digest_L6 ) (y := y6) (P := fun v6 => ∀ (H : Heap) (locs : List Loc) (ls : Array Slot), va_P G.1 vwCl (wC G v6.2.2) H → va_D A (wC G v6.2.2) → va_S A s.heap H locs → lv_has ls 5 [(0, .ref (aD G 25)), (1, .long v6.1), (3, .int v6.2.1)] → W p l e rmX6_digest s m args below meth c H locs 0 0 Q (F0 m 6 ls [])) ?_ _ _ hL H locs ls hP hD hS hl
    clear hP hD hS hl hE hL
    intro v6 t6 hE hN6 hY6
    intro H locs ls hP hD hS hl
    unfold f_X6_digest_L6 at hE
    refine lv_iload_n hx hb dX6_digest_6 rfl (lv_at hl 2 rfl) ?_
    refine lv_bipush (v := (9 : Int32)) hx hb dX6_digest_7 (by decide) ?_
    refine lv_icmp_gt (tgt := 31) hx hb dX6_digest_9 (by decide) (fun c_ => ?_) (fun c_ => ?_)
    · have hE := ip c_ hE
      have e9 := hY6 _ (Option.some.inj hE).symm
      have hE := hE6
      rw [← e9] at hE
      exact J_31 v6.1 v6.2.2 _ _ _ hP hD hS (lv_sub hl [0, 1] rfl) hE
    · have hE := im c_ hE
      refine lv_ldc2 (v := (31 : Int64)) hx hb hown (hts (.constantLong RX6 228 (31)) (List.mem_of_getElem? (i := 2) rfl)) dX6_digest_12 ?_
      refine lv_lload_n hx hb dX6_digest_15 rfl (lv_at hl 1 rfl) ?_
      refine lv_lmul hx hb dX6_digest_16 ?_
      refine lv_aload_n hx hb dX6_digest_17 rfl (lv_at hl 0 rfl) ?_
      refine lv_iload_n hx hb dX6_digest_18 rfl (lv_at hl 2 rfl) ?_
      obtain ⟨r4, hC, hE⟩ := bnd_some hE
      refine ci (va_runV (As := [.int v6.2.1]) (rest := [.long ((31 : Int64) * v6.1)]) ⟨hx, hb, hml, hown, hts⟩ (c_X6_told l G v6.2.1 v6.2.2 r4 hC _) (cwV 1 hts gX6_digest_X6_told rfl rfl rfl (by decide +kernel) ⟨Nat.le_of_ble_eq_true rfl, Nat.le_of_ble_eq_true rfl⟩) (preV hK hP hD hS hA hX (va_recv hK hP (ci := 6) (q0 := 25) rfl rfl)) rfl rfl hl.1 rfl (lv_room (Nat.le_of_ble_eq_true rfl)) dX6_digest_19 ⟨Nat.le_of_ble_eq_true rfl, Nat.le_of_ble_eq_true rfl⟩) hD hS hA (fun H locs hP hD hS => ?_)
      refine lv_i2l hx hb dX6_digest_22 rfl ?_
      refine lv_ladd hx hb dX6_digest_23 ?_
      refine lv_lstore_n (lv' := [(1, .long (((31 : Int64) * v6.1) + ((r4.1).toInt64))), (0, .ref (aD G 25)), (3, .int v6.2.1)]) hx hb dX6_digest_24 rfl hl (by decide) rfl (fun ls hl => ?_)
      refine lv_iinc (v := (v6.2.1 + (1 : Int32))) (lv' := [(3, .int (v6.2.1 + (1 : Int32))), (1, .long (((31 : Int64) * v6.1) + ((r4.1).toInt64))), (0, .ref (aD G 25))]) hx hb dX6_digest_25 hl (k := 2) rfl rfl (by decide) rfl (fun ls hl => ?_)
      refine lv_goto (tgt := 6) hx hb dX6_digest_28 (by decide) ?_
      exact hN6 _ (Option.some.inj hE).symm _ _ _ hP hD hS (lv_sub hl [2, 1, 0] rfl)
  refine lv_ldc2 (v := (2081 : Int64)) hx hb hown (hts (.constantLong RX6 226 (2081)) (List.mem_of_getElem? (i := 1) rfl)) dX6_digest_0 ?_
  refine lv_lstore_n (lv' := [(1, .long (2081 : Int64)), (0, .ref (aD G 25))]) hx hb dX6_digest_3 rfl hl (by decide) rfl (fun ls hl => ?_)
  refine lv_iconst (v := (0 : Int32)) hx hb dX6_digest_4 (by decide) ?_
  refine lv_istore_n (lv' := [(3, .int (0 : Int32)), (1, .long (2081 : Int64)), (0, .ref (aD G 25))]) hx hb dX6_digest_5 rfl hl (by decide) rfl (fun ls hl => ?_)
  exact J_6 (2081 : Int64) (0 : Int32) σ _ _ _ hP hD hS (lv_sub hl [2, 1, 0] rfl) hE

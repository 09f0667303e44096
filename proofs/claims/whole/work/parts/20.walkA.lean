abbrev rmX0_part : Room := { frames := 0, cells := 0, slots := 0, locals := 0 }

def f_X0_part (x1 : Int32) (σ : St) : Option Nat := if x1 = (0 : Int32) then (some 0) else (if x1 = (1 : Int32) then (some 1) else (if x1 = (2 : Int32) then (some 2) else (if x1 = (3 : Int32) then (some 3) else (some 4))))
set_option maxHeartbeats 4000000 in
set_option maxRecDepth 100000 in
theorem c_X0_part (l : Launch) (G : EV)  (x1 : Int32) (σ : St) (r : Nat) (hE : f_X0_part x1 σ = some r) : MetR l G yX0_part wsX0_part rmX0_part [.ref (aD G 19), .int x1] (wC G σ) (aD G r) (wC G σ) := by
  refine Met.of0 (Qf := PR G (aD G r) (wC G σ)) (cc := cX0_part) (maxL := 2) (ret := (some (.array .int))) (by decide) rfl (Nat.le_of_ble_eq_true rfl) ?_
  intro p e s m below meth c args A hx hb hr hts hown hlocks hml hin0 hA hS hP hK hD hX ls hl
  have hl : lv_has ls 2 [(0, .ref (aD G 19)), (1, .int x1)] := hl
  generalize hQ : MQ below (PR G (aD G r) (wC G σ) A) args s 0 0 A = Q
  unfold f_X0_part at hE
  refine lv_iload_n hx hb dX0_part_0 rfl (lv_at hl 1 rfl) ?_
  by_cases c_0 : x1 = (0 : Int32)
  · have hE := ip c_0 hE
    refine lv_tableIn (off := 31) (tgt := 32) hx hb dX0_part_1 (by rw [c_0]; decide) (by rw [c_0]; decide) (by rw [c_0]; rfl) (by decide) ?_
    refine lv_aload_n hx hb dX0_part_32 rfl (lv_at hl 0 rfl) ?_
    refine va_get (ci := 0) (v := .ref (aD G 0)) (C := RX0) (T := TX0) (N := 5) hx hb hts (fun _ h => List.mem_cons_of_mem _ (List.mem_append_right _ h)) hown hK hP 19 rfl rfl 0 (by decide) (hts (.fieldLink RX0 9 "FillCells$Field" "shapes" "[I") (List.mem_of_getElem? (i := 1) rfl)) (fun _ h9 => h9) rfl dX0_part_33 ?_
    rw [← hQ, ← Option.some.inj hE]
    exact ra hx hb hr hlocks hK hP hD hS dX0_part_36
  · have hE := im c_0 hE
    by_cases c_1 : x1 = (1 : Int32)
    · have hE := ip c_1 hE
      refine lv_tableIn (off := 36) (tgt := 37) hx hb dX0_part_1 (by rw [c_1]; decide) (by rw [c_1]; decide) (by rw [c_1]; rfl) (by decide) ?_
      refine lv_aload_n hx hb dX0_part_37 rfl (lv_at hl 0 rfl) ?_
      refine va_get (ci := 0) (v := .ref (aD G 1)) (C := RX0) (T := TX0) (N := 5) hx hb hts (fun _ h => List.mem_cons_of_mem _ (List.mem_append_right _ h)) hown hK hP 19 rfl rfl 1 (by decide) (hts (.fieldLink RX0 15 "FillCells$Field" "shut" "[I") (List.mem_of_getElem? (i := 2) rfl)) (fun _ h9 => h9) rfl dX0_part_38 ?_
      rw [← hQ, ← Option.some.inj hE]
      exact ra hx hb hr hlocks hK hP hD hS dX0_part_41
    · have hE := im c_1 hE
      by_cases c_2 : x1 = (2 : Int32)
      · have hE := ip c_2 hE
        refine lv_tableIn (off := 41) (tgt := 42) hx hb dX0_part_1 (by rw [c_2]; decide) (by rw [c_2]; decide) (by rw [c_2]; rfl) (by decide) ?_
        refine lv_aload_n hx hb dX0_part_42 rfl (lv_at hl 0 rfl) ?_
        refine va_get (ci := 0) (v := .ref (aD G 2)) (C := RX0) (T := TX0) (N := 5) hx hb hts (fun _ h => List.mem_cons_of_mem _ (List.mem_append_right _ h)) hown hK hP 19 rfl rfl 2 (by decide) (hts (.fieldLink RX0 18 "FillCells$Field" "net" "[I") (List.mem_of_getElem? (i := 3) rfl)) (fun _ h9 => h9) rfl dX0_part_43 ?_
        rw [← hQ, ← Option.some.inj hE]
        exact ra hx hb hr hlocks hK hP hD hS dX0_part_46
      · have hE := im c_2 hE
        by_cases c_3 : x1 = (3 : Int32)
        · have hE := ip c_3 hE
          refine lv_tableIn (off := 46) (tgt := 47) hx hb dX0_part_1 (by rw [c_3]; decide) (by rw [c_3]; decide) (by rw [c_3]; rfl) (by decide) ?_
          refine lv_aload_n hx hb dX0_part_47 rfl (lv_at hl 0 rfl) ?_
          refine va_get (ci := 0) (v := .ref (aD G 3)) (C := RX0) (T := TX0) (N := 5) hx hb hts (fun _ h => List.mem_cons_of_mem _ (List.mem_append_right _ h)) hown hK hP 19 rfl rfl 3 (by decide) (hts (.fieldLink RX0 21 "FillCells$Field" "twins" "[I") (List.mem_of_getElem? (i := 4) rfl)) (fun _ h9 => h9) rfl dX0_part_48 ?_
          rw [← hQ, ← Option.some.inj hE]
          exact ra hx hb hr hlocks hK hP hD hS dX0_part_51
        · have hE := im c_3 hE
          refine lv_tableOut (tgt := 52) hx hb dX0_part_1 (by have q0 := lv_neT (a := 0) c_0 (by decide); have q1 := lv_neT (a := 1) c_1 (by decide); have q2 := lv_neT (a := 2) c_2 (by decide); have q3 := lv_neT (a := 3) c_3 (by decide); omega) (by decide) ?_
          refine lv_aload_n hx hb dX0_part_52 rfl (lv_at hl 0 rfl) ?_
          refine va_get (ci := 0) (v := .ref (aD G 4)) (C := RX0) (T := TX0) (N := 5) hx hb hts (fun _ h => List.mem_cons_of_mem _ (List.mem_append_right _ h)) hown hK hP 19 rfl rfl 4 (by decide) (hts (.fieldLink RX0 24 "FillCells$Field" "fill" "[I") (List.mem_of_getElem? (i := 5) rfl)) (fun _ h9 => h9) rfl dX0_part_53 ?_
          rw [← hQ, ← Option.some.inj hE]
          exact ra hx hb hr hlocks hK hP hD hS dX0_part_56
abbrev rmX0_sumOf : Room := { frames := 0, cells := 0, slots := 0, locals := 0 }

def f_X0_sumOf (x1 : Int32) (σ : St) : Option Int32 := gd x1 80 (gd x1 80 (some ((rd σ 0 x1) + (rd σ 4 x1))))
set_option maxHeartbeats 4000000 in
set_option maxRecDepth 100000 in
theorem c_X0_sumOf (l : Launch) (G : EV)  (x1 : Int32) (σ : St) (r : Int32) (hE : f_X0_sumOf x1 σ = some r) : MetI l G yX0_sumOf wsX0_sumOf rmX0_sumOf [.ref (aD G 19), .int x1] (wC G σ) r (wC G σ) := by
  refine Met.of0 (Qf := PI G r (wC G σ)) (cc := cX0_sumOf) (maxL := 2) (ret := (some .int)) (by decide) rfl (Nat.le_of_ble_eq_true rfl) ?_
  intro p e s m below meth c args A hx hb hr hts hown hlocks hml hin0 hA hS hP hK hD hX ls hl
  have hl : lv_has ls 2 [(0, .ref (aD G 19)), (1, .int x1)] := hl
  generalize hQ : MQ below (PI G r (wC G σ) A) args s 0 0 A = Q
  unfold f_X0_sumOf at hE
  refine lv_aload_n hx hb dX0_sumOf_0 rfl (lv_at hl 0 rfl) ?_
  refine va_get (ci := 0) (v := .ref (aD G 0)) (C := RX0) (T := TX0) (N := 5) hx hb hts (fun _ h => List.mem_cons_of_mem _ (List.mem_append_right _ h)) hown hK hP 19 rfl rfl 0 (by decide) (hts (.fieldLink RX0 9 "FillCells$Field" "shapes" "[I") (List.mem_of_getElem? (i := 1) rfl)) (fun _ h9 => h9) rfl dX0_sumOf_1 ?_
  refine lv_iload_n hx hb dX0_sumOf_4 rfl (lv_at hl 1 rfl) ?_
  obtain ⟨h_i, hE⟩ := gd_some hE
  refine ldC hx hb hK hP 0 (by decide) h_i dX0_sumOf_5 ?_
  refine lv_aload_n hx hb dX0_sumOf_6 rfl (lv_at hl 0 rfl) ?_
  refine va_get (ci := 0) (v := .ref (aD G 4)) (C := RX0) (T := TX0) (N := 5) hx hb hts (fun _ h => List.mem_cons_of_mem _ (List.mem_append_right _ h)) hown hK hP 19 rfl rfl 4 (by decide) (hts (.fieldLink RX0 24 "FillCells$Field" "fill" "[I") (List.mem_of_getElem? (i := 2) rfl)) (fun _ h9 => h9) rfl dX0_sumOf_7 ?_
  refine lv_iload_n hx hb dX0_sumOf_10 rfl (lv_at hl 1 rfl) ?_
  obtain ⟨h_i, hE⟩ := gd_some hE
  refine ldC hx hb hK hP 4 (by decide) h_i dX0_sumOf_11 ?_
  refine lv_iadd hx hb dX0_sumOf_12 ?_
  rw [← hQ, ← Option.some.inj hE]
  exact ri hx hb hr hlocks hK hP hD hS dX0_sumOf_13
abbrev rmX0_room : Room := { frames := 0, cells := 0, slots := 0, locals := 0 }

def f_X0_room (x1 : Int32) (σ : St) : Option Int32 := gd x1 80 (if (rd σ 1 x1) = 0 then (gd x1 80 (some ((9 : Int32) - (rd σ 0 x1)))) else (some (0 : Int32)))
set_option maxHeartbeats 4000000 in
set_option maxRecDepth 100000 in
theorem c_X0_room (l : Launch) (G : EV)  (x1 : Int32) (σ : St) (r : Int32) (hE : f_X0_room x1 σ = some r) : MetI l G yX0_room wsX0_room rmX0_room [.ref (aD G 19), .int x1] (wC G σ) r (wC G σ) := by
  refine Met.of0 (Qf := PI G r (wC G σ)) (cc := cX0_room) (maxL := 2) (ret := (some .int)) (by decide) rfl (Nat.le_of_ble_eq_true rfl) ?_
  intro p e s m below meth c args A hx hb hr hts hown hlocks hml hin0 hA hS hP hK hD hX ls hl
  have hl : lv_has ls 2 [(0, .ref (aD G 19)), (1, .int x1)] := hl
  generalize hQ : MQ below (PI G r (wC G σ) A) args s 0 0 A = Q
  unfold f_X0_room at hE
  refine lv_aload_n hx hb dX0_room_0 rfl (lv_at hl 0 rfl) ?_
  refine va_get (ci := 0) (v := .ref (aD G 1)) (C := RX0) (T := TX0) (N := 5) hx hb hts (fun _ h => List.mem_cons_of_mem _ (List.mem_append_right _ h)) hown hK hP 19 rfl rfl 1 (by decide) (hts (.fieldLink RX0 15 "FillCells$Field" "shut" "[I") (List.mem_of_getElem? (i := 1) rfl)) (fun _ h9 => h9) rfl dX0_room_1 ?_
  refine lv_iload_n hx hb dX0_room_4 rfl (lv_at hl 1 rfl) ?_
  obtain ⟨h_i, hE⟩ := gd_some hE
  refine ldC hx hb hK hP 1 (by decide) h_i dX0_room_5 ?_
  refine lv_if_eq (tgt := 13) hx hb dX0_room_6 (by decide) (fun c_ => ?_) (fun c_ => ?_)
  · have hE := ip c_ hE
    refine lv_bipush (v := (9 : Int32)) hx hb dX0_room_13 (by decide) ?_
    refine lv_aload_n hx hb dX0_room_15 rfl (lv_at hl 0 rfl) ?_
    refine va_get (ci := 0) (v := .ref (aD G 0)) (C := RX0) (T := TX0) (N := 5) hx hb hts (fun _ h => List.mem_cons_of_mem _ (List.mem_append_right _ h)) hown hK hP 19 rfl rfl 0 (by decide) (hts (.fieldLink RX0 9 "FillCells$Field" "shapes" "[I") (List.mem_of_getElem? (i := 2) rfl)) (fun _ h9 => h9) rfl dX0_room_16 ?_
    refine lv_iload_n hx hb dX0_room_19 rfl (lv_at hl 1 rfl) ?_
    obtain ⟨h_i, hE⟩ := gd_some hE
    refine ldC hx hb hK hP 0 (by decide) h_i dX0_room_20 ?_
    refine lv_isub hx hb dX0_room_21 ?_
    rw [← hQ, ← Option.some.inj hE]
    exact ri hx hb hr hlocks hK hP hD hS dX0_room_22
  · have hE := im c_ hE
    refine lv_iconst (v := (0 : Int32)) hx hb dX0_room_9 (by decide) ?_
    refine lv_goto (tgt := 22) hx hb dX0_room_10 (by decide) ?_
    rw [← hQ, ← Option.some.inj hE]
    exact ri hx hb hr hlocks hK hP hD hS dX0_room_22
abbrev rmX0_countFilled : Room := { frames := 0, cells := 0, slots := 0, locals := 0 }
def f_X0_countFilled_L4 (σ : St) (v4 : Int32 × Int32) : Option (((Int32)) ⊕ (Int32 × Int32)) := if (80 : Int32) ≤ v4.2 then (some (.inl (v4.1))) else (gd v4.2 80 (if (rd σ 4 v4.2) ≤ 0 then (some (.inr (v4.1, (v4.2 + (1 : Int32))))) else (some (.inr ((v4.1 + (1 : Int32)), (v4.2 + (1 : Int32)))))))
def f_X0_countFilled_J4 (x1 : Int32) (x2 : Int32) (σ : St) : Option Int32 := bnd (loopN (f_X0_countFilled_L4 σ) 4096 (x1, x2)) (fun y4 => some y4)
def f_X0_countFilled (σ : St) : Option Int32 := f_X0_countFilled_J4 (0 : Int32) (0 : Int32) σ
set_option maxHeartbeats 4000000 in
set_option maxRecDepth 100000 in
theorem c_X0_countFilled (l : Launch) (G : EV)   (σ : St) (r : Int32) (hE : f_X0_countFilled σ = some r) : MetI l G yX0_countFilled wsX0_countFilled rmX0_countFilled [.ref (aD G 19)] (wC G σ) r (wC G σ) := by
  refine Met.of0 (Qf := PI G r (wC G σ)) (cc := cX0_countFilled) (maxL := 3) (ret := (some .int)) (by decide) rfl (Nat.le_of_ble_eq_true rfl) ?_
  intro p e s m below meth c args A hx hb hr hts hown hlocks hml hin0 hA hS hP hK hD hX ls hl
  have hl : lv_has ls 3 [(0, .ref (aD G 19))] := hl
  generalize hQ : MQ below (PI G r (wC G σ) A) args s 0 0 A = Q
  unfold f_X0_countFilled at hE
  have J_4 : ∀ (x1 : Int32) (x2 : Int32) (H : Heap) (locs : List Loc) (ls : Array Slot), va_P G.1 vwCl (wC G σ) H → va_D A (wC G σ) → va_S A s.heap H locs → lv_has ls 3 [(0, .ref (aD G 19)), (1, .int x1), (2, .int x2)] → f_X0_countFilled_J4 x1 x2 σ = some r → W p l e rmX0_countFilled s m args below meth c H locs 0 0 Q (F0 m 4 ls []) := by
    intro x1 x2 H locs ls hP hD hS hl hE
    unfold f_X0_countFilled_J4 at hE
    obtain ⟨y4, hL, hE4⟩ := bnd_some hE
    refine loop_W (body := f_X0_countFilled_L4 σ) (y := y4) (P := fun v4 => ∀ (H : Heap) (locs : List Loc) (ls : Array Slot), va_P G.1 vwCl (wC G σ) H → va_D A (wC G σ) → va_S A s.heap H locs → lv_has ls 3 [(0, .ref (aD G 19)), (1, .int v4.1), (2, .int v4.2)] → W p l e rmX0_countFilled s m args below meth c H locs 0 0 Q (F0 m 4 ls [])) ?_ _ _ hL H locs ls hP hD hS hl
    clear hP hD hS hl hE hL
    intro v4 t4 hE hN4 hY4
    intro H locs ls hP hD hS hl
    unfold f_X0_countFilled_L4 at hE
    refine lv_iload_n hx hb dX0_countFilled_4 rfl (lv_at hl 2 rfl) ?_
    refine lv_bipush (v := (80 : Int32)) hx hb dX0_countFilled_5 (by decide) ?_
    refine lv_icmp_ge (tgt := 28) hx hb dX0_countFilled_7 (by decide) (fun c_ => ?_) (fun c_ => ?_)
    · have hE := ip c_ hE
      have e9 := hY4 _ (Option.some.inj hE).symm
      have hE := hE4
      rw [← e9] at hE
      refine lv_iload_n hx hb dX0_countFilled_28 rfl (lv_at hl 1 rfl) ?_
      rw [← hQ, ← Option.some.inj hE]
      exact ri hx hb hr hlocks hK hP hD hS dX0_countFilled_29
    · have hE := im c_ hE
      refine lv_aload_n hx hb dX0_countFilled_10 rfl (lv_at hl 0 rfl) ?_
      refine va_get (ci := 0) (v := .ref (aD G 4)) (C := RX0) (T := TX0) (N := 5) hx hb hts (fun _ h => List.mem_cons_of_mem _ (List.mem_append_right _ h)) hown hK hP 19 rfl rfl 4 (by decide) (hts (.fieldLink RX0 24 "FillCells$Field" "fill" "[I") (List.mem_of_getElem? (i := 1) rfl)) (fun _ h9 => h9) rfl dX0_countFilled_11 ?_
      refine lv_iload_n hx hb dX0_countFilled_14 rfl (lv_at hl 2 rfl) ?_
      obtain ⟨h_i, hE⟩ := gd_some hE
      refine ldC hx hb hK hP 4 (by decide) h_i dX0_countFilled_15 ?_
      refine lv_if_le (tgt := 22) hx hb dX0_countFilled_16 (by decide) (fun c_ => ?_) (fun c_ => ?_)
      · have hE := ip c_ hE
        refine lv_iinc (v := (v4.2 + (1 : Int32))) (lv' := [(2, .int (v4.2 + (1 : Int32))), (0, .ref (aD G 19)), (1, .int v4.1)]) hx hb dX0_countFilled_22 hl (k := 2) rfl rfl (by decide) rfl (fun ls hl => ?_)
        refine lv_goto (tgt := 4) hx hb dX0_countFilled_25 (by decide) ?_
        exact hN4 _ (Option.some.inj hE).symm _ _ _ hP hD hS (lv_sub hl [1, 2, 0] rfl)
      · have hE := im c_ hE
        refine lv_iinc (v := (v4.1 + (1 : Int32))) (lv' := [(1, .int (v4.1 + (1 : Int32))), (0, .ref (aD G 19)), (2, .int v4.2)]) hx hb dX0_countFilled_19 hl (k := 1) rfl rfl (by decide) rfl (fun ls hl => ?_)
        refine lv_iinc (v := (v4.2 + (1 : Int32))) (lv' := [(2, .int (v4.2 + (1 : Int32))), (1, .int (v4.1 + (1 : Int32))), (0, .ref (aD G 19))]) hx hb dX0_countFilled_22 hl (k := 2) rfl rfl (by decide) rfl (fun ls hl => ?_)
        refine lv_goto (tgt := 4) hx hb dX0_countFilled_25 (by decide) ?_
        exact hN4 _ (Option.some.inj hE).symm _ _ _ hP hD hS (lv_sub hl [2, 1, 0] rfl)
  refine lv_iconst (v := (0 : Int32)) hx hb dX0_countFilled_0 (by decide) ?_
  refine lv_istore_n (lv' := [(1, .int (0 : Int32)), (0, .ref (aD G 19))]) hx hb dX0_countFilled_1 rfl hl (by decide) rfl (fun ls hl => ?_)
  refine lv_iconst (v := (0 : Int32)) hx hb dX0_countFilled_2 (by decide) ?_
  refine lv_istore_n (lv' := [(2, .int (0 : Int32)), (1, .int (0 : Int32)), (0, .ref (aD G 19))]) hx hb dX0_countFilled_3 rfl hl (by decide) rfl (fun ls hl => ?_)
  exact J_4 (0 : Int32) (0 : Int32) _ _ _ hP hD hS (lv_sub hl [2, 1, 0] rfl) hE
abbrev rmX0_drawShapes : Room := { frames := 1, cells := 0, slots := 0, locals := 21 }
def f_X0_drawShapes_L15 (x3 : Int32) (v15 : Int64 × Int32 × St) : Option (((St)) ⊕ (Int64 × Int32 × St)) := if (80 : Int32) ≤ v15.2.1 then (some (.inl (v15.2.2))) else (dzl ((x3).toInt64) (gd v15.2.1 80 (some (.inr ((jlrem ((v15.1 * (1103515245 : Int64)) + (12345 : Int64)) (2147483648 : Int64)), (v15.2.1 + (1 : Int32)), (sA v15.2.2 0 v15.2.1 ((jlrem ((jlrem ((v15.1 * (1103515245 : Int64)) + (12345 : Int64)) (2147483648 : Int64)) / (65536 : Int64)) ((x3).toInt64)).toInt32)))))))
def f_X0_drawShapes_J15 (x3 : Int32) (x4 : Int64) (x6 : Int32) (σ : St) : Option St := bnd (loopN (f_X0_drawShapes_L15 x3) 4096 (x4, x6, σ)) (fun y15 => some y15)
def f_X0_drawShapes (x1 x2 : Int32) (σ : St) : Option St := f_X0_drawShapes_J15 ((jmax x2 (0 : Int32)) + (1 : Int32)) ((x1).toInt64) (0 : Int32) σ
set_option maxHeartbeats 4000000 in
set_option maxRecDepth 100000 in
theorem c_X0_drawShapes (l : Launch) (G : EV)  (x1 x2 : Int32) (σ : St) (r : St) (hE : f_X0_drawShapes x1 x2 σ = some r) : MetV l G yX0_drawShapes wsX0_drawShapes rmX0_drawShapes [.ref (aD G 19), .int x1, .int x2] (wC G σ) (wC G r) := by
  refine Met.of0 (Qf := PV G (wC G r)) (cc := cX0_drawShapes) (maxL := 7) (ret := none) (by decide) rfl (Nat.le_of_ble_eq_true rfl) ?_
  intro p e s m below meth c args A hx hb hr hts hown hlocks hml hin0 hA hS hP hK hD hX ls hl
  have hl : lv_has ls 7 [(0, .ref (aD G 19)), (1, .int x1), (2, .int x2)] := hl
  generalize hQ : MQ below (PV G (wC G r) A) args s 0 0 A = Q
  unfold f_X0_drawShapes at hE
  have J_15 : ∀ (x3 : Int32) (x4 : Int64) (x6 : Int32) (σ : St) (H : Heap) (locs : List Loc) (ls : Array Slot), va_P G.1 vwCl (wC G σ) H → va_D A (wC G σ) → va_S A s.heap H locs → lv_has ls 7 [(0, .ref (aD G 19)), (3, .int x3), (4, .long x4), (6, .int x6)] → f_X0_drawShapes_J15 x3 x4 x6 σ = some r → W p l e rmX0_drawShapes s m args below meth c H locs 0 0 Q (F0 m 15 ls []) := by
    intro x3 x4 x6 σ H locs ls hP hD hS hl hE
    unfold f_X0_drawShapes_J15 at hE
    obtain ⟨y15, hL, hE15⟩ := bnd_some hE
    refine loop_W (body := f_X0_drawShapes_L15 x3) (y := y15) (P := fun v15 => ∀ (H : Heap) (locs : List Loc) (ls : Array Slot), va_P G.1 vwCl (wC G v15.2.2) H → va_D A (wC G v15.2.2) → va_S A s.heap H locs → lv_has ls 7 [(0, .ref (aD G 19)), (3, .int x3), (4, .long v15.1), (6, .int v15.2.1)] → W p l e rmX0_drawShapes s m args below meth c H locs 0 0 Q (F0 m 15 ls [])) ?_ _ _ hL H locs ls hP hD hS hl
    clear hP hD hS hl hE hL
    intro v15 t15 hE hN15 hY15
    intro H locs ls hP hD hS hl
    unfold f_X0_drawShapes_L15 at hE
    refine lv_iload hx hb dX0_drawShapes_15 (lv_at hl 3 rfl) ?_
    refine lv_bipush (v := (80 : Int32)) hx hb dX0_drawShapes_17 (by decide) ?_
    refine lv_icmp_ge (tgt := 61) hx hb dX0_drawShapes_19 (by decide) (fun c_ => ?_) (fun c_ => ?_)
    · have hE := ip c_ hE
      have e9 := hY15 _ (Option.some.inj hE).symm
      have hE := hE15
      rw [← e9] at hE
      rw [← hQ, ← Option.some.inj hE]
      exact rv hx hb hr hlocks hK hP hD hS dX0_drawShapes_61
    · have hE := im c_ hE
      refine lv_lload hx hb dX0_drawShapes_22 (lv_at hl 2 rfl) ?_
      refine lv_ldc2 (v := (1103515245 : Int64)) hx hb hown (hts (.constantLong RX0 33 (1103515245)) (List.mem_of_getElem? (i := 5) rfl)) dX0_drawShapes_24 ?_
      refine lv_lmul hx hb dX0_drawShapes_27 ?_
      refine lv_ldc2 (v := (12345 : Int64)) hx hb hown (hts (.constantLong RX0 35 (12345)) (List.mem_of_getElem? (i := 6) rfl)) dX0_drawShapes_28 ?_
      refine lv_ladd hx hb dX0_drawShapes_31 ?_
      refine lv_ldc2 (v := (2147483648 : Int64)) hx hb hown (hts (.constantLong RX0 37 (2147483648)) (List.mem_of_getElem? (i := 7) rfl)) dX0_drawShapes_32 ?_
      refine lv_lrem hx hb dX0_drawShapes_35 (by decide) ?_
      refine lv_lstore (lv' := [(4, .long (jlrem ((v15.1 * (1103515245 : Int64)) + (12345 : Int64)) (2147483648 : Int64))), (0, .ref (aD G 19)), (3, .int x3), (6, .int v15.2.1)]) hx hb dX0_drawShapes_36 hl (by decide) rfl (fun ls hl => ?_)
      refine lv_aload_n hx hb dX0_drawShapes_38 rfl (lv_at hl 1 rfl) ?_
      refine va_get (ci := 0) (v := .ref (aD G 0)) (C := RX0) (T := TX0) (N := 5) hx hb hts (fun _ h => List.mem_cons_of_mem _ (List.mem_append_right _ h)) hown hK hP 19 rfl rfl 0 (by decide) (hts (.fieldLink RX0 9 "FillCells$Field" "shapes" "[I") (List.mem_of_getElem? (i := 8) rfl)) (fun _ h9 => h9) rfl dX0_drawShapes_39 ?_
      refine lv_iload hx hb dX0_drawShapes_42 (lv_at hl 3 rfl) ?_
      refine lv_lload hx hb dX0_drawShapes_44 (lv_at hl 0 rfl) ?_
      refine lv_ldc2 (v := (65536 : Int64)) hx hb hown (hts (.constantLong RX0 39 (65536)) (List.mem_of_getElem? (i := 9) rfl)) dX0_drawShapes_46 ?_
      refine lv_ldiv hx hb dX0_drawShapes_49 (by decide) ?_
      refine lv_iload_n hx hb dX0_drawShapes_50 rfl (lv_at hl 2 rfl) ?_
      refine lv_i2l hx hb dX0_drawShapes_51 rfl ?_
      obtain ⟨h_z, hE⟩ := dzl_some hE
      refine lv_lrem hx hb dX0_drawShapes_52 h_z ?_
      refine lv_l2i hx hb dX0_drawShapes_53 rfl ?_
      obtain ⟨h_i, hE⟩ := gd_some hE
      refine stC hx hb hK hP hD hS 0 (by decide) h_i dX0_drawShapes_54 (fun H locs hP hD hS => ?_)
      refine lv_iinc (v := (v15.2.1 + (1 : Int32))) (lv' := [(6, .int (v15.2.1 + (1 : Int32))), (4, .long (jlrem ((v15.1 * (1103515245 : Int64)) + (12345 : Int64)) (2147483648 : Int64))), (0, .ref (aD G 19)), (3, .int x3)]) hx hb dX0_drawShapes_55 hl (k := 3) rfl rfl (by decide) rfl (fun ls hl => ?_)
      refine lv_goto (tgt := 15) hx hb dX0_drawShapes_58 (by decide) ?_
      exact hN15 _ (Option.some.inj hE).symm _ _ _ hP hD hS (lv_sub hl [2, 3, 1, 0] rfl)
  refine lv_iload_n hx hb dX0_drawShapes_0 rfl (lv_at hl 2 rfl) ?_
  refine lv_iconst (v := (0 : Int32)) hx hb dX0_drawShapes_1 (by decide) ?_
  refine va_mmax hx hb (hml.trans hl.1.symm) hown (hts (.methodLink RX0 27 Lib.Math.max.name) (List.mem_of_getElem? (i := 1) rfl)) (hts (.static Lib.Math.max.name) (List.mem_of_getElem? (i := 2) rfl)) (hts (.initialized "java/lang/Math") (List.mem_of_getElem? (i := 3) rfl)) (hts (.code Lib.Math.max.name Lib.Math.max.code 2 (some .int)) (List.mem_of_getElem? (i := 4) rfl)) (Nat.le_of_ble_eq_true rfl) (Nat.le_of_ble_eq_true rfl) (Nat.le_of_ble_eq_true rfl) (Nat.le_of_ble_eq_true rfl) dX0_drawShapes_2 ?_
  refine lv_iconst (v := (1 : Int32)) hx hb dX0_drawShapes_5 (by decide) ?_
  refine lv_iadd hx hb dX0_drawShapes_6 ?_
  refine lv_istore_n (lv' := [(3, .int ((jmax x2 (0 : Int32)) + (1 : Int32))), (0, .ref (aD G 19)), (1, .int x1), (2, .int x2)]) hx hb dX0_drawShapes_7 rfl hl (by decide) rfl (fun ls hl => ?_)
  refine lv_iload_n hx hb dX0_drawShapes_8 rfl (lv_at hl 2 rfl) ?_
  refine lv_i2l hx hb dX0_drawShapes_9 rfl ?_
  refine lv_lstore (lv' := [(4, .long ((x1).toInt64)), (3, .int ((jmax x2 (0 : Int32)) + (1 : Int32))), (0, .ref (aD G 19)), (1, .int x1), (2, .int x2)]) hx hb dX0_drawShapes_10 hl (by decide) rfl (fun ls hl => ?_)
  refine lv_iconst (v := (0 : Int32)) hx hb dX0_drawShapes_12 (by decide) ?_
  refine lv_istore (lv' := [(6, .int (0 : Int32)), (4, .long ((x1).toInt64)), (3, .int ((jmax x2 (0 : Int32)) + (1 : Int32))), (0, .ref (aD G 19)), (1, .int x1), (2, .int x2)]) hx hb dX0_drawShapes_13 hl (by decide) rfl (fun ls hl => ?_)
  exact J_15 ((jmax x2 (0 : Int32)) + (1 : Int32)) ((x1).toInt64) (0 : Int32) σ _ _ _ hP hD hS (lv_sub hl [3, 2, 1, 0] rfl) hE
abbrev rmX0_makeAlike : Room := { frames := 1, cells := 0, slots := 0, locals := 21 }
def f_X0_makeAlike_L40 (x1 : Int32) (x2 : Int32) (v40 : Int32 × St) : Option (((St)) ⊕ (Int32 × St)) := if (80 : Int32) ≤ v40.1 then (some (.inl (v40.2))) else (gd v40.1 80 (if (rd v40.2 3 v40.1) = x1 then (gd v40.1 80 (some (.inr ((v40.1 + (1 : Int32)), (sA v40.2 4 v40.1 x2))))) else (some (.inr ((v40.1 + (1 : Int32)), v40.2)))))
def f_X0_makeAlike_J40 (x1 : Int32) (x2 : Int32) (x3 : Int32) (σ : St) : Option St := bnd (loopN (f_X0_makeAlike_L40 x1 x2) 4096 (x3, σ)) (fun y40 => some y40)
def f_X0_makeAlike_J38 (x1 : Int32) (x2 : Int32) (σ : St) : Option St := f_X0_makeAlike_J40 x1 x2 (0 : Int32) σ
def f_X0_makeAlike_L5 (x1 : Int32) (σ : St) (v5 : Int32 × Int32) : Option (((Int32)) ⊕ (Int32 × Int32)) := if (80 : Int32) ≤ v5.2 then (some (.inl (v5.1))) else (gd v5.2 80 (if (rd σ 3 v5.2) = x1 then (gd v5.2 80 (some (.inr ((jmin v5.1 (rd σ 4 v5.2)), (v5.2 + (1 : Int32)))))) else (some (.inr (v5.1, (v5.2 + (1 : Int32)))))))
def f_X0_makeAlike_J5 (x1 : Int32) (x2 : Int32) (x3 : Int32) (σ : St) : Option St := bnd (loopN (f_X0_makeAlike_L5 x1 σ) 4096 (x2, x3)) (fun y5 => f_X0_makeAlike_J38 x1 y5 σ)
def f_X0_makeAlike (x1 : Int32) (σ : St) : Option St := f_X0_makeAlike_J5 x1 (9 : Int32) (0 : Int32) σ
set_option maxHeartbeats 4000000 in
set_option maxRecDepth 100000 in
theorem c_X0_makeAlike (l : Launch) (G : EV)  (x1 : Int32) (σ : St) (r : St) (hE : f_X0_makeAlike x1 σ = some r) : MetV l G yX0_makeAlike wsX0_makeAlike rmX0_makeAlike [.ref (aD G 19), .int x1] (wC G σ) (wC G r) := by
  refine Met.of0 (Qf := PV G (wC G r)) (cc := cX0_makeAlike) (maxL := 4) (ret := none) (by decide) rfl (Nat.le_of_ble_eq_true rfl) ?_
  intro p e s m below meth c args A hx hb hr hts hown hlocks hml hin0 hA hS hP hK hD hX ls hl
  have hl : lv_has ls 4 [(0, .ref (aD G 19)), (1, .int x1)] := hl
  generalize hQ : MQ below (PV G (wC G r) A) args s 0 0 A = Q
  unfold f_X0_makeAlike at hE
  have J_40 : ∀ (x2 : Int32) (x3 : Int32) (σ : St) (H : Heap) (locs : List Loc) (ls : Array Slot), va_P G.1 vwCl (wC G σ) H → va_D A (wC G σ) → va_S A s.heap H locs → lv_has ls 4 [(0, .ref (aD G 19)), (1, .int x1), (2, .int x2), (3, .int x3)] → f_X0_makeAlike_J40 x1 x2 x3 σ = some r → W p l e rmX0_makeAlike s m args below meth c H locs 0 0 Q (F0 m 40 ls []) := by
    intro x2 x3 σ H locs ls hP hD hS hl hE
    unfold f_X0_makeAlike_J40 at hE
    obtain ⟨y40, hL, hE40⟩ := bnd_some hE
    refine loop_W (body := f_X0_makeAlike_L40 x1 x2) (y := y40) (P := fun v40 => ∀ (H : Heap) (locs : List Loc) (ls : Array Slot), va_P G.1 vwCl (wC G v40.2) H → va_D A (wC G v40.2) → va_S A s.heap H locs → lv_has ls 4 [(0, .ref (aD G 19)), (1, .int x1), (2, .int x2), (3, .int v40.1)] → W p l e rmX0_makeAlike s m args below meth c H locs 0 0 Q (F0 m 40 ls [])) ?_ _ _ hL H locs ls hP hD hS hl
    clear hP hD hS hl hE hL
    intro v40 t40 hE hN40 hY40
    intro H locs ls hP hD hS hl
    unfold f_X0_makeAlike_L40 at hE
    refine lv_iload_n hx hb dX0_makeAlike_40 rfl (lv_at hl 3 rfl) ?_
    refine lv_bipush (v := (80 : Int32)) hx hb dX0_makeAlike_41 (by decide) ?_
    refine lv_icmp_ge (tgt := 69) hx hb dX0_makeAlike_43 (by decide) (fun c_ => ?_) (fun c_ => ?_)
    · have hE := ip c_ hE
      have e9 := hY40 _ (Option.some.inj hE).symm
      have hE := hE40
      rw [← e9] at hE
      rw [← hQ, ← Option.some.inj hE]
      exact rv hx hb hr hlocks hK hP hD hS dX0_makeAlike_69
    · have hE := im c_ hE
      refine lv_aload_n hx hb dX0_makeAlike_46 rfl (lv_at hl 0 rfl) ?_
      refine va_get (ci := 0) (v := .ref (aD G 3)) (C := RX0) (T := TX0) (N := 5) hx hb hts (fun _ h => List.mem_cons_of_mem _ (List.mem_append_right _ h)) hown hK hP 19 rfl rfl 3 (by decide) (hts (.fieldLink RX0 21 "FillCells$Field" "twins" "[I") (List.mem_of_getElem? (i := 1) rfl)) (fun _ h9 => h9) rfl dX0_makeAlike_47 ?_
      refine lv_iload_n hx hb dX0_makeAlike_50 rfl (lv_at hl 3 rfl) ?_
      obtain ⟨h_i, hE⟩ := gd_some hE
      refine ldC hx hb hK hP 3 (by decide) h_i dX0_makeAlike_51 ?_
      refine lv_iload_n hx hb dX0_makeAlike_52 rfl (lv_at hl 1 rfl) ?_
      refine lv_icmp_ne (tgt := 63) hx hb dX0_makeAlike_53 (by decide) (fun c_ => ?_) (fun c_ => ?_)
      · have hE := im c_ hE
        refine lv_iinc (v := (v40.1 + (1 : Int32))) (lv' := [(3, .int (v40.1 + (1 : Int32))), (0, .ref (aD G 19)), (1, .int x1), (2, .int x2)]) hx hb dX0_makeAlike_63 hl (k := 3) rfl rfl (by decide) rfl (fun ls hl => ?_)
        refine lv_goto (tgt := 40) hx hb dX0_makeAlike_66 (by decide) ?_
        exact hN40 _ (Option.some.inj hE).symm _ _ _ hP hD hS (lv_sub hl [1, 2, 3, 0] rfl)
      · have hE := ip c_ hE
        refine lv_aload_n hx hb dX0_makeAlike_56 rfl (lv_at hl 0 rfl) ?_
        refine va_get (ci := 0) (v := .ref (aD G 4)) (C := RX0) (T := TX0) (N := 5) hx hb hts (fun _ h => List.mem_cons_of_mem _ (List.mem_append_right _ h)) hown hK hP 19 rfl rfl 4 (by decide) (hts (.fieldLink RX0 24 "FillCells$Field" "fill" "[I") (List.mem_of_getElem? (i := 2) rfl)) (fun _ h9 => h9) rfl dX0_makeAlike_57 ?_
        refine lv_iload_n hx hb dX0_makeAlike_60 rfl (lv_at hl 3 rfl) ?_
        refine lv_iload_n hx hb dX0_makeAlike_61 rfl (lv_at hl 2 rfl) ?_
        obtain ⟨h_i, hE⟩ := gd_some hE
        refine stC hx hb hK hP hD hS 4 (by decide) h_i dX0_makeAlike_62 (fun H locs hP hD hS => ?_)
        refine lv_iinc (v := (v40.1 + (1 : Int32))) (lv' := [(3, .int (v40.1 + (1 : Int32))), (0, .ref (aD G 19)), (1, .int x1), (2, .int x2)]) hx hb dX0_makeAlike_63 hl (k := 3) rfl rfl (by decide) rfl (fun ls hl => ?_)
        refine lv_goto (tgt := 40) hx hb dX0_makeAlike_66 (by decide) ?_
        exact hN40 _ (Option.some.inj hE).symm _ _ _ hP hD hS (lv_sub hl [1, 2, 3, 0] rfl)
  have J_38 : ∀ (x2 : Int32) (σ : St) (H : Heap) (locs : List Loc) (ls : Array Slot), va_P G.1 vwCl (wC G σ) H → va_D A (wC G σ) → va_S A s.heap H locs → lv_has ls 4 [(0, .ref (aD G 19)), (1, .int x1), (2, .int x2)] → f_X0_makeAlike_J38 x1 x2 σ = some r → W p l e rmX0_makeAlike s m args below meth c H locs 0 0 Q (F0 m 38 ls []) := by
    intro x2 σ H locs ls hP hD hS hl hE
    unfold f_X0_makeAlike_J38 at hE
    refine lv_iconst (v := (0 : Int32)) hx hb dX0_makeAlike_38 (by decide) ?_
    refine lv_istore_n (lv' := [(3, .int (0 : Int32)), (0, .ref (aD G 19)), (1, .int x1), (2, .int x2)]) hx hb dX0_makeAlike_39 rfl hl (by decide) rfl (fun ls hl => ?_)
    exact J_40 x2 (0 : Int32) σ _ _ _ hP hD hS (lv_sub hl [1, 2, 3, 0] rfl) hE
  have J_5 : ∀ (x2 : Int32) (x3 : Int32) (σ : St) (H : Heap) (locs : List Loc) (ls : Array Slot), va_P G.1 vwCl (wC G σ) H → va_D A (wC G σ) → va_S A s.heap H locs → lv_has ls 4 [(0, .ref (aD G 19)), (1, .int x1), (2, .int x2), (3, .int x3)] → f_X0_makeAlike_J5 x1 x2 x3 σ = some r → W p l e rmX0_makeAlike s m args below meth c H locs 0 0 Q (F0 m 5 ls []) := by
    intro x2 x3 σ H locs ls hP hD hS hl hE
    unfold f_X0_makeAlike_J5 at hE
    obtain ⟨y5, hL, hE5⟩ := bnd_some hE
    refine loop_W (body := f_X0_makeAlike_L5 x1 σ) (y := y5) (P := fun v5 => ∀ (H : Heap) (locs : List Loc) (ls : Array Slot), va_P G.1 vwCl (wC G σ) H → va_D A (wC G σ) → va_S A s.heap H locs → lv_has ls 4 [(0, .ref (aD G 19)), (1, .int x1), (2, .int v5.1), (3, .int v5.2)] → W p l e rmX0_makeAlike s m args below meth c H locs 0 0 Q (F0 m 5 ls [])) ?_ _ _ hL H locs ls hP hD hS hl
    clear hP hD hS hl hE hL
    intro v5 t5 hE hN5 hY5
    intro H locs ls hP hD hS hl
    unfold f_X0_makeAlike_L5 at hE
    refine lv_iload_n hx hb dX0_makeAlike_5 rfl (lv_at hl 3 rfl) ?_
    refine lv_bipush (v := (80 : Int32)) hx hb dX0_makeAlike_6 (by decide) ?_
    refine lv_icmp_ge (tgt := 38) hx hb dX0_makeAlike_8 (by decide) (fun c_ => ?_) (fun c_ => ?_)
    · have hE := ip c_ hE
      have e9 := hY5 _ (Option.some.inj hE).symm
      have hE := hE5
      rw [← e9] at hE
      exact J_38 v5.1 σ _ _ _ hP hD hS (lv_sub hl [0, 1, 2] rfl) hE
    · have hE := im c_ hE
      refine lv_aload_n hx hb dX0_makeAlike_11 rfl (lv_at hl 0 rfl) ?_
      refine va_get (ci := 0) (v := .ref (aD G 3)) (C := RX0) (T := TX0) (N := 5) hx hb hts (fun _ h => List.mem_cons_of_mem _ (List.mem_append_right _ h)) hown hK hP 19 rfl rfl 3 (by decide) (hts (.fieldLink RX0 21 "FillCells$Field" "twins" "[I") (List.mem_of_getElem? (i := 1) rfl)) (fun _ h9 => h9) rfl dX0_makeAlike_12 ?_
      refine lv_iload_n hx hb dX0_makeAlike_15 rfl (lv_at hl 3 rfl) ?_
      obtain ⟨h_i, hE⟩ := gd_some hE
      refine ldC hx hb hK hP 3 (by decide) h_i dX0_makeAlike_16 ?_
      refine lv_iload_n hx hb dX0_makeAlike_17 rfl (lv_at hl 1 rfl) ?_
      refine lv_icmp_ne (tgt := 32) hx hb dX0_makeAlike_18 (by decide) (fun c_ => ?_) (fun c_ => ?_)
      · have hE := im c_ hE
        refine lv_iinc (v := (v5.2 + (1 : Int32))) (lv' := [(3, .int (v5.2 + (1 : Int32))), (0, .ref (aD G 19)), (1, .int x1), (2, .int v5.1)]) hx hb dX0_makeAlike_32 hl (k := 3) rfl rfl (by decide) rfl (fun ls hl => ?_)
        refine lv_goto (tgt := 5) hx hb dX0_makeAlike_35 (by decide) ?_
        exact hN5 _ (Option.some.inj hE).symm _ _ _ hP hD hS (lv_sub hl [1, 2, 3, 0] rfl)
      · have hE := ip c_ hE
        refine lv_iload_n hx hb dX0_makeAlike_21 rfl (lv_at hl 2 rfl) ?_
        refine lv_aload_n hx hb dX0_makeAlike_22 rfl (lv_at hl 0 rfl) ?_
        refine va_get (ci := 0) (v := .ref (aD G 4)) (C := RX0) (T := TX0) (N := 5) hx hb hts (fun _ h => List.mem_cons_of_mem _ (List.mem_append_right _ h)) hown hK hP 19 rfl rfl 4 (by decide) (hts (.fieldLink RX0 24 "FillCells$Field" "fill" "[I") (List.mem_of_getElem? (i := 2) rfl)) (fun _ h9 => h9) rfl dX0_makeAlike_23 ?_
        refine lv_iload_n hx hb dX0_makeAlike_26 rfl (lv_at hl 3 rfl) ?_
        obtain ⟨h_i, hE⟩ := gd_some hE
        refine ldC hx hb hK hP 4 (by decide) h_i dX0_makeAlike_27 ?_
        refine va_mmin hx hb (hml.trans hl.1.symm) hown (hts (.methodLink RX0 45 Lib.Math.min.name) (List.mem_of_getElem? (i := 3) rfl)) (hts (.static Lib.Math.min.name) (List.mem_of_getElem? (i := 4) rfl)) (hts (.initialized "java/lang/Math") (List.mem_of_getElem? (i := 5) rfl)) (hts (.code Lib.Math.min.name Lib.Math.min.code 2 (some .int)) (List.mem_of_getElem? (i := 6) rfl)) (Nat.le_of_ble_eq_true rfl) (Nat.le_of_ble_eq_true rfl) (Nat.le_of_ble_eq_true rfl) (Nat.le_of_ble_eq_true rfl) dX0_makeAlike_28 ?_
        refine lv_istore_n (lv' := [(2, .int (jmin v5.1 (rd σ 4 v5.2))), (0, .ref (aD G 19)), (1, .int x1), (3, .int v5.2)]) hx hb dX0_makeAlike_31 rfl hl (by decide) rfl (fun ls hl => ?_)
        refine lv_iinc (v := (v5.2 + (1 : Int32))) (lv' := [(3, .int (v5.2 + (1 : Int32))), (2, .int (jmin v5.1 (rd σ 4 v5.2))), (0, .ref (aD G 19)), (1, .int x1)]) hx hb dX0_makeAlike_32 hl (k := 3) rfl rfl (by decide) rfl (fun ls hl => ?_)
        refine lv_goto (tgt := 5) hx hb dX0_makeAlike_35 (by decide) ?_
        exact hN5 _ (Option.some.inj hE).symm _ _ _ hP hD hS (lv_sub hl [2, 3, 1, 0] rfl)
  refine lv_bipush (v := (9 : Int32)) hx hb dX0_makeAlike_0 (by decide) ?_
  refine lv_istore_n (lv' := [(2, .int (9 : Int32)), (0, .ref (aD G 19)), (1, .int x1)]) hx hb dX0_makeAlike_2 rfl hl (by decide) rfl (fun ls hl => ?_)
  refine lv_iconst (v := (0 : Int32)) hx hb dX0_makeAlike_3 (by decide) ?_
  refine lv_istore_n (lv' := [(3, .int (0 : Int32)), (2, .int (9 : Int32)), (0, .ref (aD G 19)), (1, .int x1)]) hx hb dX0_makeAlike_4 rfl hl (by decide) rfl (fun ls hl => ?_)
  exact J_5 (9 : Int32) (0 : Int32) σ _ _ _ hP hD hS (lv_sub hl [2, 3, 1, 0] rfl) hE
abbrev rmX0_settle : Room := { frames := 2, cells := 0, slots := 0, locals := 44 }
def f_X0_settle_L36  (v36 : Int32 × St) : Option (((St)) ⊕ (Int32 × St)) := if (4 : Int32) ≤ v36.1 then (some (.inl (v36.2))) else (bnd (f_X0_makeAlike v36.1 v36.2) (fun r1 => some (.inr ((v36.1 + (1 : Int32)), r1))))
def f_X0_settle_J36 (x1 : Int32) (σ : St) : Option St := bnd (loopN (f_X0_settle_L36 ) 4096 (x1, σ)) (fun y36 => some y36)
def f_X0_settle_J34 (σ : St) : Option St := f_X0_settle_J36 (1 : Int32) σ
def f_X0_settle_L2  (v2 : Int32 × St) : Option (((St)) ⊕ (Int32 × St)) := if (80 : Int32) ≤ v2.1 then (some (.inl (v2.2))) else (gd v2.1 80 (bnd (f_X0_room v2.1 v2.2) (fun r2 => gd v2.1 80 (some (.inr ((v2.1 + (1 : Int32)), (sA v2.2 4 v2.1 (jmin (rd v2.2 4 v2.1) r2))))))))
def f_X0_settle_J2 (x1 : Int32) (σ : St) : Option St := bnd (loopN (f_X0_settle_L2 ) 4096 (x1, σ)) (fun y2 => f_X0_settle_J34 y2)
def f_X0_settle (σ : St) : Option St := f_X0_settle_J2 (0 : Int32) σ
set_option maxHeartbeats 4000000 in
set_option maxRecDepth 100000 in
theorem c_X0_settle (l : Launch) (G : EV)   (σ : St) (r : St) (hE : f_X0_settle σ = some r) : MetV l G yX0_settle wsX0_settle rmX0_settle [.ref (aD G 19)] (wC G σ) (wC G r) := by
  refine Met.of0 (Qf := PV G (wC G r)) (cc := cX0_settle) (maxL := 2) (ret := none) (by decide) rfl (Nat.le_of_ble_eq_true rfl) ?_
  intro p e s m below meth c args A hx hb hr hts hown hlocks hml hin0 hA hS hP hK hD hX ls hl
  have hl : lv_has ls 2 [(0, .ref (aD G 19))] := hl
  generalize hQ : MQ below (PV G (wC G r) A) args s 0 0 A = Q
  unfold f_X0_settle at hE
  have J_36 : ∀ (x1 : Int32) (σ : St) (H : Heap) (locs : List Loc) (ls : Array Slot), va_P G.1 vwCl (wC G σ) H → va_D A (wC G σ) → va_S A s.heap H locs → lv_has ls 2 [(0, .ref (aD G 19)), (1, .int x1)] → f_X0_settle_J36 x1 σ = some r → W p l e rmX0_settle s m args below meth c H locs 0 0 Q (F0 m 36 ls []) := by
    intro x1 σ H locs ls hP hD hS hl hE
    unfold f_X0_settle_J36 at hE
    obtain ⟨y36, hL, hE36⟩ := bnd_some hE
    refine loop_W (body := f_X0_settle_L36 ) (y := y36) (P := fun v36 => ∀ (H : Heap) (locs : List Loc) (ls : Array Slot), va_P G.1 vwCl (wC G v36.2) H → va_D A (wC G v36.2) → va_S A s.heap H locs → lv_has ls 2 [(0, .ref (aD G 19)), (1, .int v36.1)] → W p l e rmX0_settle s m args below meth c H locs 0 0 Q (F0 m 36 ls [])) ?_ _ _ hL H locs ls hP hD hS hl
    clear hP hD hS hl hE hL
    intro v36 t36 hE hN36 hY36
    intro H locs ls hP hD hS hl
    unfold f_X0_settle_L36 at hE
    refine lv_iload_n hx hb dX0_settle_36 rfl (lv_at hl 1 rfl) ?_
    refine lv_iconst (v := (4 : Int32)) hx hb dX0_settle_37 (by decide) ?_
    refine lv_icmp_ge (tgt := 52) hx hb dX0_settle_38 (by decide) (fun c_ => ?_) (fun c_ => ?_)
    · have hE := ip c_ hE
      have e9 := hY36 _ (Option.some.inj hE).symm
      have hE := hE36
      rw [← e9] at hE
      rw [← hQ, ← Option.some.inj hE]
      exact rv hx hb hr hlocks hK hP hD hS dX0_settle_52
    · have hE := im c_ hE
      refine lv_aload_n hx hb dX0_settle_41 rfl (lv_at hl 0 rfl) ?_
      refine lv_iload_n hx hb dX0_settle_42 rfl (lv_at hl 1 rfl) ?_
      obtain ⟨r1, hC, hE⟩ := bnd_some hE
      refine cv (va_runV (As := [.int v36.1]) (rest := []) ⟨hx, hb, hml, hown, hts⟩ (c_X0_makeAlike l G v36.1 v36.2 r1 hC _) (cwV 1 hts gX0_settle_X0_makeAlike rfl rfl rfl (by decide +kernel) ⟨Nat.le_of_ble_eq_true rfl, Nat.le_of_ble_eq_true rfl⟩) (preV hK hP hD hS hA hX (va_recv hK hP (ci := 0) (q0 := 19) rfl rfl)) rfl rfl hl.1 rfl (lv_room (Nat.le_of_ble_eq_true rfl)) dX0_settle_43 ⟨Nat.le_of_ble_eq_true rfl, Nat.le_of_ble_eq_true rfl⟩) hD hS hA (fun H locs hP hD hS => ?_)
      refine lv_iinc (v := (v36.1 + (1 : Int32))) (lv' := [(1, .int (v36.1 + (1 : Int32))), (0, .ref (aD G 19))]) hx hb dX0_settle_46 hl (k := 1) rfl rfl (by decide) rfl (fun ls hl => ?_)
      refine lv_goto (tgt := 36) hx hb dX0_settle_49 (by decide) ?_
      exact hN36 _ (Option.some.inj hE).symm _ _ _ hP hD hS (lv_sub hl [1, 0] rfl)
  have J_34 : ∀ (σ : St) (H : Heap) (locs : List Loc) (ls : Array Slot), va_P G.1 vwCl (wC G σ) H → va_D A (wC G σ) → va_S A s.heap H locs → lv_has ls 2 [(0, .ref (aD G 19))] → f_X0_settle_J34 σ = some r → W p l e rmX0_settle s m args below meth c H locs 0 0 Q (F0 m 34 ls []) := by
    intro σ H locs ls hP hD hS hl hE
    unfold f_X0_settle_J34 at hE
    refine lv_iconst (v := (1 : Int32)) hx hb dX0_settle_34 (by decide) ?_
    refine lv_istore_n (lv' := [(1, .int (1 : Int32)), (0, .ref (aD G 19))]) hx hb dX0_settle_35 rfl hl (by decide) rfl (fun ls hl => ?_)
    exact J_36 (1 : Int32) σ _ _ _ hP hD hS (lv_sub hl [1, 0] rfl) hE
  have J_2 : ∀ (x1 : Int32) (σ : St) (H : Heap) (locs : List Loc) (ls : Array Slot), va_P G.1 vwCl (wC G σ) H → va_D A (wC G σ) → va_S A s.heap H locs → lv_has ls 2 [(0, .ref (aD G 19)), (1, .int x1)] → f_X0_settle_J2 x1 σ = some r → W p l e rmX0_settle s m args below meth c H locs 0 0 Q (F0 m 2 ls []) := by
    intro x1 σ H locs ls hP hD hS hl hE
    unfold f_X0_settle_J2 at hE
    obtain ⟨y2, hL, hE2⟩ := bnd_some hE
    refine loop_W (body := f_X0_settle_L2 ) (y := y2) (P := fun v2 => ∀ (H : Heap) (locs : List Loc) (ls : Array Slot), va_P G.1 vwCl (wC G v2.2) H → va_D A (wC G v2.2) → va_S A s.heap H locs → lv_has ls 2 [(0, .ref (aD G 19)), (1, .int v2.1)] → W p l e rmX0_settle s m args below meth c H locs 0 0 Q (F0 m 2 ls [])) ?_ _ _ hL H locs ls hP hD hS hl
    clear hP hD hS hl hE hL
    intro v2 t2 hE hN2 hY2
    intro H locs ls hP hD hS hl
    unfold f_X0_settle_L2 at hE
    refine lv_iload_n hx hb dX0_settle_2 rfl (lv_at hl 1 rfl) ?_
    refine lv_bipush (v := (80 : Int32)) hx hb dX0_settle_3 (by decide) ?_
    refine lv_icmp_ge (tgt := 34) hx hb dX0_settle_5 (by decide) (fun c_ => ?_) (fun c_ => ?_)
    · have hE := ip c_ hE
      have e9 := hY2 _ (Option.some.inj hE).symm
      have hE := hE2
      rw [← e9] at hE
      exact J_34 v2.2 _ _ _ hP hD hS (lv_sub hl [0] rfl) hE
    · have hE := im c_ hE
      refine lv_aload_n hx hb dX0_settle_8 rfl (lv_at hl 0 rfl) ?_
      refine va_get (ci := 0) (v := .ref (aD G 4)) (C := RX0) (T := TX0) (N := 5) hx hb hts (fun _ h => List.mem_cons_of_mem _ (List.mem_append_right _ h)) hown hK hP 19 rfl rfl 4 (by decide) (hts (.fieldLink RX0 24 "FillCells$Field" "fill" "[I") (List.mem_of_getElem? (i := 1) rfl)) (fun _ h9 => h9) rfl dX0_settle_9 ?_
      refine lv_iload_n hx hb dX0_settle_12 rfl (lv_at hl 1 rfl) ?_
      refine lv_aload_n hx hb dX0_settle_13 rfl (lv_at hl 0 rfl) ?_
      refine va_get (ci := 0) (v := .ref (aD G 4)) (C := RX0) (T := TX0) (N := 5) hx hb hts (fun _ h => List.mem_cons_of_mem _ (List.mem_append_right _ h)) hown hK hP 19 rfl rfl 4 (by decide) (hts (.fieldLink RX0 24 "FillCells$Field" "fill" "[I") (List.mem_of_getElem? (i := 1) rfl)) (fun _ h9 => h9) rfl dX0_settle_14 ?_
      refine lv_iload_n hx hb dX0_settle_17 rfl (lv_at hl 1 rfl) ?_
      obtain ⟨h_i, hE⟩ := gd_some hE
      refine ldC hx hb hK hP 4 (by decide) h_i dX0_settle_18 ?_
      refine lv_aload_n hx hb dX0_settle_19 rfl (lv_at hl 0 rfl) ?_
      refine lv_iload_n hx hb dX0_settle_20 rfl (lv_at hl 1 rfl) ?_
      obtain ⟨r2, hC, hE⟩ := bnd_some hE
      refine ci (va_runV (As := [.int v2.1]) (rest := [.int (rd v2.2 4 v2.1), .int v2.1, .ref (aD G 4)]) ⟨hx, hb, hml, hown, hts⟩ (c_X0_room l G v2.1 v2.2 r2 hC _) (cwV 1 hts gX0_settle_X0_room rfl rfl rfl (by decide +kernel) ⟨Nat.le_of_ble_eq_true rfl, Nat.le_of_ble_eq_true rfl⟩) (preV hK hP hD hS hA hX (va_recv hK hP (ci := 0) (q0 := 19) rfl rfl)) rfl rfl hl.1 rfl (lv_room (Nat.le_of_ble_eq_true rfl)) dX0_settle_21 ⟨Nat.le_of_ble_eq_true rfl, Nat.le_of_ble_eq_true rfl⟩) hD hS hA (fun H locs hP hD hS => ?_)
      refine va_mmin hx hb (hml.trans hl.1.symm) hown (hts (.methodLink RX0 45 Lib.Math.min.name) (List.mem_of_getElem? (i := 2) rfl)) (hts (.static Lib.Math.min.name) (List.mem_of_getElem? (i := 3) rfl)) (hts (.initialized "java/lang/Math") (List.mem_of_getElem? (i := 4) rfl)) (hts (.code Lib.Math.min.name Lib.Math.min.code 2 (some .int)) (List.mem_of_getElem? (i := 5) rfl)) (Nat.le_of_ble_eq_true rfl) (Nat.le_of_ble_eq_true rfl) (Nat.le_of_ble_eq_true rfl) (Nat.le_of_ble_eq_true rfl) dX0_settle_24 ?_
      obtain ⟨h_i, hE⟩ := gd_some hE
      refine stC hx hb hK hP hD hS 4 (by decide) h_i dX0_settle_27 (fun H locs hP hD hS => ?_)
      refine lv_iinc (v := (v2.1 + (1 : Int32))) (lv' := [(1, .int (v2.1 + (1 : Int32))), (0, .ref (aD G 19))]) hx hb dX0_settle_28 hl (k := 1) rfl rfl (by decide) rfl (fun ls hl => ?_)
      refine lv_goto (tgt := 2) hx hb dX0_settle_31 (by decide) ?_
      exact hN2 _ (Option.some.inj hE).symm _ _ _ hP hD hS (lv_sub hl [1, 0] rfl)
  refine lv_iconst (v := (0 : Int32)) hx hb dX0_settle_0 (by decide) ?_
  refine lv_istore_n (lv' := [(1, .int (0 : Int32)), (0, .ref (aD G 19))]) hx hb dX0_settle_1 rfl hl (by decide) rfl (fun ls hl => ?_)
  exact J_2 (0 : Int32) σ _ _ _ hP hD hS (lv_sub hl [1, 0] rfl) hE
abbrev rmX0_packed : Room := { frames := 0, cells := 0, slots := 0, locals := 0 }

def f_X0_packed (x1 : Int32) (σ : St) : Option Int32 := gd x1 80 (gd x1 80 (gd x1 80 (gd x1 80 (gd x1 80 (some (((((rd σ 0 x1) ||| ((rd σ 4 x1) <<< ((4 : Int32) &&& 31))) ||| ((rd σ 1 x1) <<< ((8 : Int32) &&& 31))) ||| ((rd σ 2 x1) <<< ((9 : Int32) &&& 31))) ||| ((rd σ 3 x1) <<< ((11 : Int32) &&& 31))))))))
set_option maxHeartbeats 4000000 in
set_option maxRecDepth 100000 in
theorem c_X0_packed (l : Launch) (G : EV)  (x1 : Int32) (σ : St) (r : Int32) (hE : f_X0_packed x1 σ = some r) : MetI l G yX0_packed wsX0_packed rmX0_packed [.ref (aD G 19), .int x1] (wC G σ) r (wC G σ) := by
  refine Met.of0 (Qf := PI G r (wC G σ)) (cc := cX0_packed) (maxL := 2) (ret := (some .int)) (by decide) rfl (Nat.le_of_ble_eq_true rfl) ?_
  intro p e s m below meth c args A hx hb hr hts hown hlocks hml hin0 hA hS hP hK hD hX ls hl
  have hl : lv_has ls 2 [(0, .ref (aD G 19)), (1, .int x1)] := hl
  generalize hQ : MQ below (PI G r (wC G σ) A) args s 0 0 A = Q
  unfold f_X0_packed at hE
  refine lv_aload_n hx hb dX0_packed_0 rfl (lv_at hl 0 rfl) ?_
  refine va_get (ci := 0) (v := .ref (aD G 0)) (C := RX0) (T := TX0) (N := 5) hx hb hts (fun _ h => List.mem_cons_of_mem _ (List.mem_append_right _ h)) hown hK hP 19 rfl rfl 0 (by decide) (hts (.fieldLink RX0 9 "FillCells$Field" "shapes" "[I") (List.mem_of_getElem? (i := 1) rfl)) (fun _ h9 => h9) rfl dX0_packed_1 ?_
  refine lv_iload_n hx hb dX0_packed_4 rfl (lv_at hl 1 rfl) ?_
  obtain ⟨h_i, hE⟩ := gd_some hE
  refine ldC hx hb hK hP 0 (by decide) h_i dX0_packed_5 ?_
  refine lv_aload_n hx hb dX0_packed_6 rfl (lv_at hl 0 rfl) ?_
  refine va_get (ci := 0) (v := .ref (aD G 4)) (C := RX0) (T := TX0) (N := 5) hx hb hts (fun _ h => List.mem_cons_of_mem _ (List.mem_append_right _ h)) hown hK hP 19 rfl rfl 4 (by decide) (hts (.fieldLink RX0 24 "FillCells$Field" "fill" "[I") (List.mem_of_getElem? (i := 2) rfl)) (fun _ h9 => h9) rfl dX0_packed_7 ?_
  refine lv_iload_n hx hb dX0_packed_10 rfl (lv_at hl 1 rfl) ?_
  obtain ⟨h_i, hE⟩ := gd_some hE
  refine ldC hx hb hK hP 4 (by decide) h_i dX0_packed_11 ?_
  refine lv_iconst (v := (4 : Int32)) hx hb dX0_packed_12 (by decide) ?_
  refine lv_ishl hx hb dX0_packed_13 ?_
  refine lv_ior hx hb dX0_packed_14 ?_
  refine lv_aload_n hx hb dX0_packed_15 rfl (lv_at hl 0 rfl) ?_
  refine va_get (ci := 0) (v := .ref (aD G 1)) (C := RX0) (T := TX0) (N := 5) hx hb hts (fun _ h => List.mem_cons_of_mem _ (List.mem_append_right _ h)) hown hK hP 19 rfl rfl 1 (by decide) (hts (.fieldLink RX0 15 "FillCells$Field" "shut" "[I") (List.mem_of_getElem? (i := 3) rfl)) (fun _ h9 => h9) rfl dX0_packed_16 ?_
  refine lv_iload_n hx hb dX0_packed_19 rfl (lv_at hl 1 rfl) ?_
  obtain ⟨h_i, hE⟩ := gd_some hE
  refine ldC hx hb hK hP 1 (by decide) h_i dX0_packed_20 ?_
  refine lv_bipush (v := (8 : Int32)) hx hb dX0_packed_21 (by decide) ?_
  refine lv_ishl hx hb dX0_packed_23 ?_
  refine lv_ior hx hb dX0_packed_24 ?_
  refine lv_aload_n hx hb dX0_packed_25 rfl (lv_at hl 0 rfl) ?_
  refine va_get (ci := 0) (v := .ref (aD G 2)) (C := RX0) (T := TX0) (N := 5) hx hb hts (fun _ h => List.mem_cons_of_mem _ (List.mem_append_right _ h)) hown hK hP 19 rfl rfl 2 (by decide) (hts (.fieldLink RX0 18 "FillCells$Field" "net" "[I") (List.mem_of_getElem? (i := 4) rfl)) (fun _ h9 => h9) rfl dX0_packed_26 ?_
  refine lv_iload_n hx hb dX0_packed_29 rfl (lv_at hl 1 rfl) ?_
  obtain ⟨h_i, hE⟩ := gd_some hE
  refine ldC hx hb hK hP 2 (by decide) h_i dX0_packed_30 ?_
  refine lv_bipush (v := (9 : Int32)) hx hb dX0_packed_31 (by decide) ?_
  refine lv_ishl hx hb dX0_packed_33 ?_
  refine lv_ior hx hb dX0_packed_34 ?_
  refine lv_aload_n hx hb dX0_packed_35 rfl (lv_at hl 0 rfl) ?_
  refine va_get (ci := 0) (v := .ref (aD G 3)) (C := RX0) (T := TX0) (N := 5) hx hb hts (fun _ h => List.mem_cons_of_mem _ (List.mem_append_right _ h)) hown hK hP 19 rfl rfl 3 (by decide) (hts (.fieldLink RX0 21 "FillCells$Field" "twins" "[I") (List.mem_of_getElem? (i := 5) rfl)) (fun _ h9 => h9) rfl dX0_packed_36 ?_
  refine lv_iload_n hx hb dX0_packed_39 rfl (lv_at hl 1 rfl) ?_
  obtain ⟨h_i, hE⟩ := gd_some hE
  refine ldC hx hb hK hP 3 (by decide) h_i dX0_packed_40 ?_
  refine lv_bipush (v := (11 : Int32)) hx hb dX0_packed_41 (by decide) ?_
  refine lv_ishl hx hb dX0_packed_43 ?_
  refine lv_ior hx hb dX0_packed_44 ?_
  rw [← hQ, ← Option.some.inj hE]
  exact ri hx hb hr hlocks hK hP hD hS dX0_packed_45
abbrev rmX0_unpack : Room := { frames := 0, cells := 0, slots := 0, locals := 0 }

def f_X0_unpack (x1 x2 : Int32) (σ : St) : Option St := gd x1 80 (gd x1 80 (gd x1 80 (gd x1 80 (gd x1 80 (some (sA (sA (sA (sA (sA σ 0 x1 (x2 &&& (15 : Int32))) 4 x1 ((x2 >>> ((4 : Int32) &&& 31)) &&& (15 : Int32))) 1 x1 ((x2 >>> ((8 : Int32) &&& 31)) &&& (1 : Int32))) 2 x1 ((x2 >>> ((9 : Int32) &&& 31)) &&& (3 : Int32))) 3 x1 ((x2 >>> ((11 : Int32) &&& 31)) &&& (3 : Int32))))))))
set_option maxHeartbeats 4000000 in
set_option maxRecDepth 100000 in
theorem c_X0_unpack (l : Launch) (G : EV)  (x1 x2 : Int32) (σ : St) (r : St) (hE : f_X0_unpack x1 x2 σ = some r) : MetV l G yX0_unpack wsX0_unpack rmX0_unpack [.ref (aD G 19), .int x1, .int x2] (wC G σ) (wC G r) := by
  refine Met.of0 (Qf := PV G (wC G r)) (cc := cX0_unpack) (maxL := 3) (ret := none) (by decide) rfl (Nat.le_of_ble_eq_true rfl) ?_
  intro p e s m below meth c args A hx hb hr hts hown hlocks hml hin0 hA hS hP hK hD hX ls hl
  have hl : lv_has ls 3 [(0, .ref (aD G 19)), (1, .int x1), (2, .int x2)] := hl
  generalize hQ : MQ below (PV G (wC G r) A) args s 0 0 A = Q
  unfold f_X0_unpack at hE
  refine lv_aload_n hx hb dX0_unpack_0 rfl (lv_at hl 0 rfl) ?_
  refine va_get (ci := 0) (v := .ref (aD G 0)) (C := RX0) (T := TX0) (N := 5) hx hb hts (fun _ h => List.mem_cons_of_mem _ (List.mem_append_right _ h)) hown hK hP 19 rfl rfl 0 (by decide) (hts (.fieldLink RX0 9 "FillCells$Field" "shapes" "[I") (List.mem_of_getElem? (i := 1) rfl)) (fun _ h9 => h9) rfl dX0_unpack_1 ?_
  refine lv_iload_n hx hb dX0_unpack_4 rfl (lv_at hl 1 rfl) ?_
  refine lv_iload_n hx hb dX0_unpack_5 rfl (lv_at hl 2 rfl) ?_
  refine lv_bipush (v := (15 : Int32)) hx hb dX0_unpack_6 (by decide) ?_
  refine lv_iand hx hb dX0_unpack_8 ?_
  obtain ⟨h_i, hE⟩ := gd_some hE
  refine stC hx hb hK hP hD hS 0 (by decide) h_i dX0_unpack_9 (fun H locs hP hD hS => ?_)
  refine lv_aload_n hx hb dX0_unpack_10 rfl (lv_at hl 0 rfl) ?_
  refine va_get (ci := 0) (v := .ref (aD G 4)) (C := RX0) (T := TX0) (N := 5) hx hb hts (fun _ h => List.mem_cons_of_mem _ (List.mem_append_right _ h)) hown hK hP 19 rfl rfl 4 (by decide) (hts (.fieldLink RX0 24 "FillCells$Field" "fill" "[I") (List.mem_of_getElem? (i := 2) rfl)) (fun _ h9 => h9) rfl dX0_unpack_11 ?_
  refine lv_iload_n hx hb dX0_unpack_14 rfl (lv_at hl 1 rfl) ?_
  refine lv_iload_n hx hb dX0_unpack_15 rfl (lv_at hl 2 rfl) ?_
  refine lv_iconst (v := (4 : Int32)) hx hb dX0_unpack_16 (by decide) ?_
  refine lv_ishr hx hb dX0_unpack_17 ?_
  refine lv_bipush (v := (15 : Int32)) hx hb dX0_unpack_18 (by decide) ?_
  refine lv_iand hx hb dX0_unpack_20 ?_
  obtain ⟨h_i, hE⟩ := gd_some hE
  refine stC hx hb hK hP hD hS 4 (by decide) h_i dX0_unpack_21 (fun H locs hP hD hS => ?_)
  refine lv_aload_n hx hb dX0_unpack_22 rfl (lv_at hl 0 rfl) ?_
  refine va_get (ci := 0) (v := .ref (aD G 1)) (C := RX0) (T := TX0) (N := 5) hx hb hts (fun _ h => List.mem_cons_of_mem _ (List.mem_append_right _ h)) hown hK hP 19 rfl rfl 1 (by decide) (hts (.fieldLink RX0 15 "FillCells$Field" "shut" "[I") (List.mem_of_getElem? (i := 3) rfl)) (fun _ h9 => h9) rfl dX0_unpack_23 ?_
  refine lv_iload_n hx hb dX0_unpack_26 rfl (lv_at hl 1 rfl) ?_
  refine lv_iload_n hx hb dX0_unpack_27 rfl (lv_at hl 2 rfl) ?_
  refine lv_bipush (v := (8 : Int32)) hx hb dX0_unpack_28 (by decide) ?_
  refine lv_ishr hx hb dX0_unpack_30 ?_
  refine lv_iconst (v := (1 : Int32)) hx hb dX0_unpack_31 (by decide) ?_
  refine lv_iand hx hb dX0_unpack_32 ?_
  obtain ⟨h_i, hE⟩ := gd_some hE
  refine stC hx hb hK hP hD hS 1 (by decide) h_i dX0_unpack_33 (fun H locs hP hD hS => ?_)
  refine lv_aload_n hx hb dX0_unpack_34 rfl (lv_at hl 0 rfl) ?_
  refine va_get (ci := 0) (v := .ref (aD G 2)) (C := RX0) (T := TX0) (N := 5) hx hb hts (fun _ h => List.mem_cons_of_mem _ (List.mem_append_right _ h)) hown hK hP 19 rfl rfl 2 (by decide) (hts (.fieldLink RX0 18 "FillCells$Field" "net" "[I") (List.mem_of_getElem? (i := 4) rfl)) (fun _ h9 => h9) rfl dX0_unpack_35 ?_
  refine lv_iload_n hx hb dX0_unpack_38 rfl (lv_at hl 1 rfl) ?_
  refine lv_iload_n hx hb dX0_unpack_39 rfl (lv_at hl 2 rfl) ?_
  refine lv_bipush (v := (9 : Int32)) hx hb dX0_unpack_40 (by decide) ?_
  refine lv_ishr hx hb dX0_unpack_42 ?_
  refine lv_iconst (v := (3 : Int32)) hx hb dX0_unpack_43 (by decide) ?_
  refine lv_iand hx hb dX0_unpack_44 ?_
  obtain ⟨h_i, hE⟩ := gd_some hE
  refine stC hx hb hK hP hD hS 2 (by decide) h_i dX0_unpack_45 (fun H locs hP hD hS => ?_)
  refine lv_aload_n hx hb dX0_unpack_46 rfl (lv_at hl 0 rfl) ?_
  refine va_get (ci := 0) (v := .ref (aD G 3)) (C := RX0) (T := TX0) (N := 5) hx hb hts (fun _ h => List.mem_cons_of_mem _ (List.mem_append_right _ h)) hown hK hP 19 rfl rfl 3 (by decide) (hts (.fieldLink RX0 21 "FillCells$Field" "twins" "[I") (List.mem_of_getElem? (i := 5) rfl)) (fun _ h9 => h9) rfl dX0_unpack_47 ?_
  refine lv_iload_n hx hb dX0_unpack_50 rfl (lv_at hl 1 rfl) ?_
  refine lv_iload_n hx hb dX0_unpack_51 rfl (lv_at hl 2 rfl) ?_
  refine lv_bipush (v := (11 : Int32)) hx hb dX0_unpack_52 (by decide) ?_
  refine lv_ishr hx hb dX0_unpack_54 ?_
  refine lv_iconst (v := (3 : Int32)) hx hb dX0_unpack_55 (by decide) ?_
  refine lv_iand hx hb dX0_unpack_56 ?_
  obtain ⟨h_i, hE⟩ := gd_some hE
  refine stC hx hb hK hP hD hS 3 (by decide) h_i dX0_unpack_57 (fun H locs hP hD hS => ?_)
  rw [← hQ, ← Option.some.inj hE]
  exact rv hx hb hr hlocks hK hP hD hS dX0_unpack_58
abbrev rmJ7_fill_53178 : Room := { frames := 0, cells := 0, slots := 0, locals := 0 }
def f_J7_fill_53178_L5 (k0 : Nat) (x1 : Int32) (x3 : Int32) (v5 : Int32 × St) : Option (((St)) ⊕ (Int32 × St)) := if x3 ≤ v5.1 then (some (.inl (v5.2))) else (gd v5.1 (lnC k0) (some (.inr ((v5.1 + (1 : Int32)), (sA v5.2 k0 v5.1 x1)))))
def f_J7_fill_53178_J5 (k0 : Nat) (x1 : Int32) (x2 : Int32) (x3 : Int32) (σ : St) : Option St := bnd (loopN (f_J7_fill_53178_L5 k0 x1 x3) 4096 (x2, σ)) (fun y5 => some y5)
def f_J7_fill_53178 (k0 : Nat) (x1 : Int32) (σ : St) : Option St := f_J7_fill_53178_J5 k0 x1 (0 : Int32) (Int32.ofNat (lnC k0)) σ
set_option maxHeartbeats 4000000 in
set_option maxRecDepth 100000 in
theorem c_J7_fill_53178 (l : Launch) (G : EV) (k0 : Nat) (hk0 : k0 < 18) (x1 : Int32) (σ : St) (r : St) (hE : f_J7_fill_53178 k0 x1 σ = some r) : MetV l G yJ7_fill_53178 wsJ7_fill_53178 rmJ7_fill_53178 [.ref (aD G k0), .int x1] (wC G σ) (wC G r) := by
  refine Met.of0 (Qf := PV G (wC G r)) (cc := cJ7_fill_53178) (maxL := 4) (ret := none) (by decide) rfl (Nat.le_of_ble_eq_true rfl) ?_
  intro p e s m below meth c args A hx hb hr hts hown hlocks hml hin0 hA hS hP hK hD hX ls hl
  have hl : lv_has ls 4 [(0, .ref (aD G k0)), (1, .int x1)] := hl
  generalize hQ : MQ below (PV G (wC G r) A) args s 0 0 A = Q
  unfold f_J7_fill_53178 at hE
  have J_5 : ∀ (x2 : Int32) (x3 : Int32) (σ : St) (H : Heap) (locs : List Loc) (ls : Array Slot), va_P G.1 vwCl (wC G σ) H → va_D A (wC G σ) → va_S A s.heap H locs → lv_has ls 4 [(0, .ref (aD G k0)), (1, .int x1), (2, .int x2), (3, .int x3)] → f_J7_fill_53178_J5 k0 x1 x2 x3 σ = some r → W p l e rmJ7_fill_53178 s m args below meth c H locs 0 0 Q (F0 m 5 ls []) := by
    intro x2 x3 σ H locs ls hP hD hS hl hE
    unfold f_J7_fill_53178_J5 at hE
    obtain ⟨y5, hL, hE5⟩ := bnd_some hE
    refine loop_W (body := f_J7_fill_53178_L5 k0 x1 x3) (y := y5) (P := fun v5 => ∀ (H : Heap) (locs : List Loc) (ls : Array Slot), va_P G.1 vwCl (wC G v5.2) H → va_D A (wC G v5.2) → va_S A s.heap H locs → lv_has ls 4 [(0, .ref (aD G k0)), (1, .int x1), (2, .int v5.1), (3, .int x3)] → W p l e rmJ7_fill_53178 s m args below meth c H locs 0 0 Q (F0 m 5 ls [])) ?_ _ _ hL H locs ls hP hD hS hl
    clear hP hD hS hl hE hL
    intro v5 t5 hE hN5 hY5
    intro H locs ls hP hD hS hl
    unfold f_J7_fill_53178_L5 at hE
    refine lv_iload_n hx hb dJ7_fill_53178_5 rfl (lv_at hl 2 rfl) ?_
    refine lv_iload_n hx hb dJ7_fill_53178_6 rfl (lv_at hl 3 rfl) ?_
    refine lv_icmp_ge (tgt := 20) hx hb dJ7_fill_53178_7 (by decide) (fun c_ => ?_) (fun c_ => ?_)
    · have hE := ip c_ hE
      have e9 := hY5 _ (Option.some.inj hE).symm
      have hE := hE5
      rw [← e9] at hE
      rw [← hQ, ← Option.some.inj hE]
      exact rv hx hb hr hlocks hK hP hD hS dJ7_fill_53178_20
    · have hE := im c_ hE
      refine lv_aload_n hx hb dJ7_fill_53178_10 rfl (lv_at hl 0 rfl) ?_
      refine lv_iload_n hx hb dJ7_fill_53178_11 rfl (lv_at hl 2 rfl) ?_
      refine lv_iload_n hx hb dJ7_fill_53178_12 rfl (lv_at hl 1 rfl) ?_
      obtain ⟨h_i, hE⟩ := gd_some hE
      refine stC hx hb hK hP hD hS k0 hk0 h_i dJ7_fill_53178_13 (fun H locs hP hD hS => ?_)
      refine lv_iinc (v := (v5.1 + (1 : Int32))) (lv' := [(2, .int (v5.1 + (1 : Int32))), (0, .ref (aD G k0)), (1, .int x1), (3, .int x3)]) hx hb dJ7_fill_53178_14 hl (k := 2) rfl rfl (by decide) rfl (fun ls hl => ?_)
      refine lv_goto (tgt := 5) hx hb dJ7_fill_53178_17 (by decide) ?_
      exact hN5 _ (Option.some.inj hE).symm _ _ _ hP hD hS (lv_sub hl [1, 2, 0, 3] rfl)
  refine lv_iconst (v := (0 : Int32)) hx hb dJ7_fill_53178_0 (by decide) ?_
  refine lv_istore_n (lv' := [(2, .int (0 : Int32)), (0, .ref (aD G k0)), (1, .int x1)]) hx hb dJ7_fill_53178_1 rfl hl (by decide) rfl (fun ls hl => ?_)
  refine lv_aload_n hx hb dJ7_fill_53178_2 rfl (lv_at hl 1 rfl) ?_
  refine va_alen (v := (Int32.ofNat (lnC k0))) hx hb hK hP k0 0 (wC_at G _ k0 hk0) rfl rfl dJ7_fill_53178_3 ?_
  refine lv_istore_n (lv' := [(3, .int (Int32.ofNat (lnC k0))), (2, .int (0 : Int32)), (0, .ref (aD G k0)), (1, .int x1)]) hx hb dJ7_fill_53178_4 rfl hl (by decide) rfl (fun ls hl => ?_)
  exact J_5 (0 : Int32) (Int32.ofNat (lnC k0)) σ _ _ _ hP hD hS (lv_sub hl [2, 3, 1, 0] rfl) hE
abbrev rmX3_netsBeside : Room := { frames := 0, cells := 0, slots := 0, locals := 0 }
def f_X3_netsBeside_J67 (x1 : Int32) (x2 : Int32) (x3 : Int32) (σ : St) : Option Int32 := if (10 : Int32) ≤ (x2 + (1 : Int32)) then (some x3) else (gd (x1 + (1 : Int32)) 80 (some (x3 ||| ((1 : Int32) <<< ((rd σ 2 (x1 + (1 : Int32))) &&& 31)))))
def f_X3_netsBeside_J50 (x1 : Int32) (x2 : Int32) (x3 : Int32) (σ : St) : Option Int32 := if x2 ≤ 0 then (f_X3_netsBeside_J67 x1 x2 x3 σ) else (gd (x1 - (1 : Int32)) 80 (f_X3_netsBeside_J67 x1 x2 (x3 ||| ((1 : Int32) <<< ((rd σ 2 (x1 - (1 : Int32))) &&& 31))) σ))
def f_X3_netsBeside_J27 (x1 : Int32) (x2 : Int32) (x3 : Int32) (σ : St) : Option Int32 := if (80 : Int32) ≤ (x1 + (10 : Int32)) then (f_X3_netsBeside_J50 x1 x2 x3 σ) else (gd (x1 + (10 : Int32)) 80 (f_X3_netsBeside_J50 x1 x2 (x3 ||| ((1 : Int32) <<< ((rd σ 2 (x1 + (10 : Int32))) &&& 31))) σ))
def f_X3_netsBeside (x1 : Int32) (σ : St) : Option Int32 := if x1 < (10 : Int32) then (f_X3_netsBeside_J27 x1 (jrem x1 (10 : Int32)) (0 : Int32) σ) else (gd (x1 - (10 : Int32)) 80 (f_X3_netsBeside_J27 x1 (jrem x1 (10 : Int32)) ((0 : Int32) ||| ((1 : Int32) <<< ((rd σ 2 (x1 - (10 : Int32))) &&& 31))) σ))
set_option maxHeartbeats 4000000 in
set_option maxRecDepth 100000 in
theorem c_X3_netsBeside (l : Launch) (G : EV)  (x1 : Int32) (σ : St) (r : Int32) (hE : f_X3_netsBeside x1 σ = some r) : MetI l G yX3_netsBeside wsX3_netsBeside rmX3_netsBeside [.ref (aD G 19), .int x1] (wC G σ) r (wC G σ) := by
  refine Met.of0 (Qf := PI G r (wC G σ)) (cc := cX3_netsBeside) (maxL := 4) (ret := (some .int)) (by decide) rfl (Nat.le_of_ble_eq_true rfl) ?_
  intro p e s m below meth c args A hx hb hr hts hown hlocks hml hin0 hA hS hP hK hD hX ls hl
  have hl : lv_has ls 4 [(0, .ref (aD G 19)), (1, .int x1)] := hl
  generalize hQ : MQ below (PI G r (wC G σ) A) args s 0 0 A = Q
  unfold f_X3_netsBeside at hE
  have J_67 : ∀ (x2 : Int32) (x3 : Int32) (H : Heap) (locs : List Loc) (ls : Array Slot), va_P G.1 vwCl (wC G σ) H → va_D A (wC G σ) → va_S A s.heap H locs → lv_has ls 4 [(0, .ref (aD G 19)), (1, .int x1), (2, .int x2), (3, .int x3)] → f_X3_netsBeside_J67 x1 x2 x3 σ = some r → W p l e rmX3_netsBeside s m args below meth c H locs 0 0 Q (F0 m 67 ls []) := by
    intro x2 x3 H locs ls hP hD hS hl hE
    unfold f_X3_netsBeside_J67 at hE
    refine lv_iload_n hx hb dX3_netsBeside_67 rfl (lv_at hl 2 rfl) ?_
    refine lv_iconst (v := (1 : Int32)) hx hb dX3_netsBeside_68 (by decide) ?_
    refine lv_iadd hx hb dX3_netsBeside_69 ?_
    refine lv_bipush (v := (10 : Int32)) hx hb dX3_netsBeside_70 (by decide) ?_
    refine lv_icmp_ge (tgt := 88) hx hb dX3_netsBeside_72 (by decide) (fun c_ => ?_) (fun c_ => ?_)
    · have hE := ip c_ hE
      refine lv_iload_n hx hb dX3_netsBeside_88 rfl (lv_at hl 3 rfl) ?_
      rw [← hQ, ← Option.some.inj hE]
      exact ri hx hb hr hlocks hK hP hD hS dX3_netsBeside_89
    · have hE := im c_ hE
      refine lv_iload_n hx hb dX3_netsBeside_75 rfl (lv_at hl 3 rfl) ?_
      refine lv_iconst (v := (1 : Int32)) hx hb dX3_netsBeside_76 (by decide) ?_
      refine lv_aload_n hx hb dX3_netsBeside_77 rfl (lv_at hl 0 rfl) ?_
      refine va_get (ci := 0) (v := .ref (aD G 2)) (C := RX0) (T := TX0) (N := 5) hx hb hts (fun _ h => List.mem_cons_of_mem _ (List.mem_append_right _ h)) hown hK hP 19 rfl rfl 2 (by decide) (hts (.fieldLink RX3 30 "FillCells$Field" "net" "[I") (List.mem_of_getElem? (i := 1) rfl)) (fun _ h9 => h9) rfl dX3_netsBeside_78 ?_
      refine lv_iload_n hx hb dX3_netsBeside_81 rfl (lv_at hl 1 rfl) ?_
      refine lv_iconst (v := (1 : Int32)) hx hb dX3_netsBeside_82 (by decide) ?_
      refine lv_iadd hx hb dX3_netsBeside_83 ?_
      obtain ⟨h_i, hE⟩ := gd_some hE
      refine ldC hx hb hK hP 2 (by decide) h_i dX3_netsBeside_84 ?_
      refine lv_ishl hx hb dX3_netsBeside_85 ?_
      refine lv_ior hx hb dX3_netsBeside_86 ?_
      refine lv_istore_n (lv' := [(3, .int (x3 ||| ((1 : Int32) <<< ((rd σ 2 (x1 + (1 : Int32))) &&& 31)))), (0, .ref (aD G 19)), (1, .int x1), (2, .int x2)]) hx hb dX3_netsBeside_87 rfl hl (by decide) rfl (fun ls hl => ?_)
      refine lv_iload_n hx hb dX3_netsBeside_88 rfl (lv_at hl 0 rfl) ?_
      rw [← hQ, ← Option.some.inj hE]
      exact ri hx hb hr hlocks hK hP hD hS dX3_netsBeside_89
  have J_50 : ∀ (x2 : Int32) (x3 : Int32) (H : Heap) (locs : List Loc) (ls : Array Slot), va_P G.1 vwCl (wC G σ) H → va_D A (wC G σ) → va_S A s.heap H locs → lv_has ls 4 [(0, .ref (aD G 19)), (1, .int x1), (2, .int x2), (3, .int x3)] → f_X3_netsBeside_J50 x1 x2 x3 σ = some r → W p l e rmX3_netsBeside s m args below meth c H locs 0 0 Q (F0 m 50 ls []) := by
    intro x2 x3 H locs ls hP hD hS hl hE
    unfold f_X3_netsBeside_J50 at hE
    refine lv_iload_n hx hb dX3_netsBeside_50 rfl (lv_at hl 2 rfl) ?_
    refine lv_if_le (tgt := 67) hx hb dX3_netsBeside_51 (by decide) (fun c_ => ?_) (fun c_ => ?_)
    · have hE := ip c_ hE
      exact J_67 x2 x3 _ _ _ hP hD hS (lv_sub hl [0, 1, 2, 3] rfl) hE
    · have hE := im c_ hE
      refine lv_iload_n hx hb dX3_netsBeside_54 rfl (lv_at hl 3 rfl) ?_
      refine lv_iconst (v := (1 : Int32)) hx hb dX3_netsBeside_55 (by decide) ?_
      refine lv_aload_n hx hb dX3_netsBeside_56 rfl (lv_at hl 0 rfl) ?_
      refine va_get (ci := 0) (v := .ref (aD G 2)) (C := RX0) (T := TX0) (N := 5) hx hb hts (fun _ h => List.mem_cons_of_mem _ (List.mem_append_right _ h)) hown hK hP 19 rfl rfl 2 (by decide) (hts (.fieldLink RX3 30 "FillCells$Field" "net" "[I") (List.mem_of_getElem? (i := 1) rfl)) (fun _ h9 => h9) rfl dX3_netsBeside_57 ?_
      refine lv_iload_n hx hb dX3_netsBeside_60 rfl (lv_at hl 1 rfl) ?_
      refine lv_iconst (v := (1 : Int32)) hx hb dX3_netsBeside_61 (by decide) ?_
      refine lv_isub hx hb dX3_netsBeside_62 ?_
      obtain ⟨h_i, hE⟩ := gd_some hE
      refine ldC hx hb hK hP 2 (by decide) h_i dX3_netsBeside_63 ?_
      refine lv_ishl hx hb dX3_netsBeside_64 ?_
      refine lv_ior hx hb dX3_netsBeside_65 ?_
      refine lv_istore_n (lv' := [(3, .int (x3 ||| ((1 : Int32) <<< ((rd σ 2 (x1 - (1 : Int32))) &&& 31)))), (0, .ref (aD G 19)), (1, .int x1), (2, .int x2)]) hx hb dX3_netsBeside_66 rfl hl (by decide) rfl (fun ls hl => ?_)
      exact J_67 x2 (x3 ||| ((1 : Int32) <<< ((rd σ 2 (x1 - (1 : Int32))) &&& 31))) _ _ _ hP hD hS (lv_sub hl [1, 2, 3, 0] rfl) hE
  have J_27 : ∀ (x2 : Int32) (x3 : Int32) (H : Heap) (locs : List Loc) (ls : Array Slot), va_P G.1 vwCl (wC G σ) H → va_D A (wC G σ) → va_S A s.heap H locs → lv_has ls 4 [(0, .ref (aD G 19)), (1, .int x1), (2, .int x2), (3, .int x3)] → f_X3_netsBeside_J27 x1 x2 x3 σ = some r → W p l e rmX3_netsBeside s m args below meth c H locs 0 0 Q (F0 m 27 ls []) := by
    intro x2 x3 H locs ls hP hD hS hl hE
    unfold f_X3_netsBeside_J27 at hE
    refine lv_iload_n hx hb dX3_netsBeside_27 rfl (lv_at hl 1 rfl) ?_
    refine lv_bipush (v := (10 : Int32)) hx hb dX3_netsBeside_28 (by decide) ?_
    refine lv_iadd hx hb dX3_netsBeside_30 ?_
    refine lv_bipush (v := (80 : Int32)) hx hb dX3_netsBeside_31 (by decide) ?_
    refine lv_icmp_ge (tgt := 50) hx hb dX3_netsBeside_33 (by decide) (fun c_ => ?_) (fun c_ => ?_)
    · have hE := ip c_ hE
      exact J_50 x2 x3 _ _ _ hP hD hS (lv_sub hl [0, 1, 2, 3] rfl) hE
    · have hE := im c_ hE
      refine lv_iload_n hx hb dX3_netsBeside_36 rfl (lv_at hl 3 rfl) ?_
      refine lv_iconst (v := (1 : Int32)) hx hb dX3_netsBeside_37 (by decide) ?_
      refine lv_aload_n hx hb dX3_netsBeside_38 rfl (lv_at hl 0 rfl) ?_
      refine va_get (ci := 0) (v := .ref (aD G 2)) (C := RX0) (T := TX0) (N := 5) hx hb hts (fun _ h => List.mem_cons_of_mem _ (List.mem_append_right _ h)) hown hK hP 19 rfl rfl 2 (by decide) (hts (.fieldLink RX3 30 "FillCells$Field" "net" "[I") (List.mem_of_getElem? (i := 1) rfl)) (fun _ h9 => h9) rfl dX3_netsBeside_39 ?_
      refine lv_iload_n hx hb dX3_netsBeside_42 rfl (lv_at hl 1 rfl) ?_
      refine lv_bipush (v := (10 : Int32)) hx hb dX3_netsBeside_43 (by decide) ?_
      refine lv_iadd hx hb dX3_netsBeside_45 ?_
      obtain ⟨h_i, hE⟩ := gd_some hE
      refine ldC hx hb hK hP 2 (by decide) h_i dX3_netsBeside_46 ?_
      refine lv_ishl hx hb dX3_netsBeside_47 ?_
      refine lv_ior hx hb dX3_netsBeside_48 ?_
      refine lv_istore_n (lv' := [(3, .int (x3 ||| ((1 : Int32) <<< ((rd σ 2 (x1 + (10 : Int32))) &&& 31)))), (0, .ref (aD G 19)), (1, .int x1), (2, .int x2)]) hx hb dX3_netsBeside_49 rfl hl (by decide) rfl (fun ls hl => ?_)
      exact J_50 x2 (x3 ||| ((1 : Int32) <<< ((rd σ 2 (x1 + (10 : Int32))) &&& 31))) _ _ _ hP hD hS (lv_sub hl [1, 2, 3, 0] rfl) hE
  refine lv_iload_n hx hb dX3_netsBeside_0 rfl (lv_at hl 1 rfl) ?_
  refine lv_bipush (v := (10 : Int32)) hx hb dX3_netsBeside_1 (by decide) ?_
  refine lv_irem hx hb dX3_netsBeside_3 (by decide) ?_
  refine lv_istore_n (lv' := [(2, .int (jrem x1 (10 : Int32))), (0, .ref (aD G 19)), (1, .int x1)]) hx hb dX3_netsBeside_4 rfl hl (by decide) rfl (fun ls hl => ?_)
  refine lv_iconst (v := (0 : Int32)) hx hb dX3_netsBeside_5 (by decide) ?_
  refine lv_istore_n (lv' := [(3, .int (0 : Int32)), (2, .int (jrem x1 (10 : Int32))), (0, .ref (aD G 19)), (1, .int x1)]) hx hb dX3_netsBeside_6 rfl hl (by decide) rfl (fun ls hl => ?_)
  refine lv_iload_n hx hb dX3_netsBeside_7 rfl (lv_at hl 3 rfl) ?_
  refine lv_bipush (v := (10 : Int32)) hx hb dX3_netsBeside_8 (by decide) ?_
  refine lv_icmp_lt (tgt := 27) hx hb dX3_netsBeside_10 (by decide) (fun c_ => ?_) (fun c_ => ?_)
  · have hE := ip c_ hE
    exact J_27 (jrem x1 (10 : Int32)) (0 : Int32) _ _ _ hP hD hS (lv_sub hl [2, 3, 1, 0] rfl) hE
  · have hE := im c_ hE
    refine lv_iload_n hx hb dX3_netsBeside_13 rfl (lv_at hl 0 rfl) ?_
    refine lv_iconst (v := (1 : Int32)) hx hb dX3_netsBeside_14 (by decide) ?_
    refine lv_aload_n hx hb dX3_netsBeside_15 rfl (lv_at hl 2 rfl) ?_
    refine va_get (ci := 0) (v := .ref (aD G 2)) (C := RX0) (T := TX0) (N := 5) hx hb hts (fun _ h => List.mem_cons_of_mem _ (List.mem_append_right _ h)) hown hK hP 19 rfl rfl 2 (by decide) (hts (.fieldLink RX3 30 "FillCells$Field" "net" "[I") (List.mem_of_getElem? (i := 1) rfl)) (fun _ h9 => h9) rfl dX3_netsBeside_16 ?_
    refine lv_iload_n hx hb dX3_netsBeside_19 rfl (lv_at hl 3 rfl) ?_
    refine lv_bipush (v := (10 : Int32)) hx hb dX3_netsBeside_20 (by decide) ?_
    refine lv_isub hx hb dX3_netsBeside_22 ?_
    obtain ⟨h_i, hE⟩ := gd_some hE
    refine ldC hx hb hK hP 2 (by decide) h_i dX3_netsBeside_23 ?_
    refine lv_ishl hx hb dX3_netsBeside_24 ?_
    refine lv_ior hx hb dX3_netsBeside_25 ?_
    refine lv_istore_n (lv' := [(3, .int ((0 : Int32) ||| ((1 : Int32) <<< ((rd σ 2 (x1 - (10 : Int32))) &&& 31)))), (2, .int (jrem x1 (10 : Int32))), (0, .ref (aD G 19)), (1, .int x1)]) hx hb dX3_netsBeside_26 rfl hl (by decide) rfl (fun ls hl => ?_)
    exact J_27 (jrem x1 (10 : Int32)) ((0 : Int32) ||| ((1 : Int32) <<< ((rd σ 2 (x1 - (10 : Int32))) &&& 31))) _ _ _ hP hD hS (lv_sub hl [2, 3, 1, 0] rfl) hE
abbrev rmX3_shift : Room := { frames := 0, cells := 0, slots := 0, locals := 0 }
def f_X3_shift_J43 (σ : St) : Option St := some σ
def f_X3_shift_L11 (x1 : Int32) (x2 : Int32) (v11 : Int32 × St) : Option (((St)) ⊕ (Int32 × St)) := if (4 : Int32) ≤ v11.1 then (some (.inl (v11.2))) else (gd v11.1 4 (gd x1 80 (gd v11.1 4 (some (.inr ((v11.1 + (1 : Int32)), (sA v11.2 10 v11.1 ((rd v11.2 10 v11.1) + (x2 * (((rd v11.2 11 x1) >>> (v11.1 &&& 31)) &&& (1 : Int32)))))))))))
def f_X3_shift_J11 (x1 : Int32) (x2 : Int32) (x3 : Int32) (σ : St) : Option St := bnd (loopN (f_X3_shift_L11 x1 x2) 4096 (x3, σ)) (fun y11 => some y11)
def f_X3_shift (x1 x2 : Int32) (σ : St) : Option St := gd x1 80 (if (rd σ 11 x1) = 0 then (f_X3_shift_J43 σ) else (f_X3_shift_J11 x1 x2 (1 : Int32) σ))
set_option maxHeartbeats 4000000 in
set_option maxRecDepth 100000 in
theorem c_X3_shift (l : Launch) (G : EV)  (x1 x2 : Int32) (σ : St) (r : St) (hE : f_X3_shift x1 x2 σ = some r) : MetV l G yX3_shift wsX3_shift rmX3_shift [.ref (aD G 21), .int x1, .int x2] (wC G σ) (wC G r) := by
  refine Met.of0 (Qf := PV G (wC G r)) (cc := cX3_shift) (maxL := 4) (ret := none) (by decide) rfl (Nat.le_of_ble_eq_true rfl) ?_
  intro p e s m below meth c args A hx hb hr hts hown hlocks hml hin0 hA hS hP hK hD hX ls hl
  have hl : lv_has ls 4 [(0, .ref (aD G 21)), (1, .int x1), (2, .int x2)] := hl
  generalize hQ : MQ below (PV G (wC G r) A) args s 0 0 A = Q
  unfold f_X3_shift at hE
  have J_43 : ∀ (σ : St) (H : Heap) (locs : List Loc) (ls : Array Slot), va_P G.1 vwCl (wC G σ) H → va_D A (wC G σ) → va_S A s.heap H locs → lv_has ls 4 [] → f_X3_shift_J43 σ = some r → W p l e rmX3_shift s m args below meth c H locs 0 0 Q (F0 m 43 ls []) := by
    intro σ H locs ls hP hD hS hl hE
    unfold f_X3_shift_J43 at hE
    rw [← hQ, ← Option.some.inj hE]
    exact rv hx hb hr hlocks hK hP hD hS dX3_shift_43
  have J_11 : ∀ (x3 : Int32) (σ : St) (H : Heap) (locs : List Loc) (ls : Array Slot), va_P G.1 vwCl (wC G σ) H → va_D A (wC G σ) → va_S A s.heap H locs → lv_has ls 4 [(0, .ref (aD G 21)), (1, .int x1), (2, .int x2), (3, .int x3)] → f_X3_shift_J11 x1 x2 x3 σ = some r → W p l e rmX3_shift s m args below meth c H locs 0 0 Q (F0 m 11 ls []) := by
    intro x3 σ H locs ls hP hD hS hl hE
    unfold f_X3_shift_J11 at hE
    obtain ⟨y11, hL, hE11⟩ := bnd_some hE
    refine loop_W (body := f_X3_shift_L11 x1 x2) (y := y11) (P := fun v11 => ∀ (H : Heap) (locs : List Loc) (ls : Array Slot), va_P G.1 vwCl (wC G v11.2) H → va_D A (wC G v11.2) → va_S A s.heap H locs → lv_has ls 4 [(0, .ref (aD G 21)), (1, .int x1), (2, .int x2), (3, .int v11.1)] → W p l e rmX3_shift s m args below meth c H locs 0 0 Q (F0 m 11 ls [])) ?_ _ _ hL H locs ls hP hD hS hl
    clear hP hD hS hl hE hL
    intro v11 t11 hE hN11 hY11
    intro H locs ls hP hD hS hl
    unfold f_X3_shift_L11 at hE
    refine lv_iload_n hx hb dX3_shift_11 rfl (lv_at hl 3 rfl) ?_
    refine lv_iconst (v := (4 : Int32)) hx hb dX3_shift_12 (by decide) ?_
    refine lv_icmp_ge (tgt := 43) hx hb dX3_shift_13 (by decide) (fun c_ => ?_) (fun c_ => ?_)
    · have hE := ip c_ hE
      have e9 := hY11 _ (Option.some.inj hE).symm
      have hE := hE11
      rw [← e9] at hE
      rw [← hQ, ← Option.some.inj hE]
      exact rv hx hb hr hlocks hK hP hD hS dX3_shift_43
    · have hE := im c_ hE
      refine lv_aload_n hx hb dX3_shift_16 rfl (lv_at hl 0 rfl) ?_
      refine va_get (ci := 3) (v := .ref (aD G 10)) (C := RX3) (T := TX3) (N := 4) hx hb hts (fun _ h => List.mem_cons_of_mem _ (List.mem_append_right _ h)) hown hK hP 21 rfl rfl 1 (by decide) (hts (.fieldLink RX3 15 "FillCells$Nets" "burdens" "[I") (List.mem_of_getElem? (i := 2) rfl)) (fun _ h9 => h9) rfl dX3_shift_17 ?_
      refine lv_iload_n hx hb dX3_shift_20 rfl (lv_at hl 3 rfl) ?_
      refine lv_dup2_11 hx hb dX3_shift_21 rfl rfl ?_
      obtain ⟨h_i, hE⟩ := gd_some hE
      refine ldC hx hb hK hP 10 (by decide) h_i dX3_shift_22 ?_
      refine lv_iload_n hx hb dX3_shift_23 rfl (lv_at hl 2 rfl) ?_
      refine lv_aload_n hx hb dX3_shift_24 rfl (lv_at hl 0 rfl) ?_
      refine va_get (ci := 3) (v := .ref (aD G 11)) (C := RX3) (T := TX3) (N := 4) hx hb hts (fun _ h => List.mem_cons_of_mem _ (List.mem_append_right _ h)) hown hK hP 21 rfl rfl 2 (by decide) (hts (.fieldLink RX3 18 "FillCells$Nets" "borne" "[I") (List.mem_of_getElem? (i := 1) rfl)) (fun _ h9 => h9) rfl dX3_shift_25 ?_
      refine lv_iload_n hx hb dX3_shift_28 rfl (lv_at hl 1 rfl) ?_
      obtain ⟨h_i, hE⟩ := gd_some hE
      refine ldC hx hb hK hP 11 (by decide) h_i dX3_shift_29 ?_
      refine lv_iload_n hx hb dX3_shift_30 rfl (lv_at hl 3 rfl) ?_
      refine lv_ishr hx hb dX3_shift_31 ?_
      refine lv_iconst (v := (1 : Int32)) hx hb dX3_shift_32 (by decide) ?_
      refine lv_iand hx hb dX3_shift_33 ?_
      refine lv_imul hx hb dX3_shift_34 ?_
      refine lv_iadd hx hb dX3_shift_35 ?_
      obtain ⟨h_i, hE⟩ := gd_some hE
      refine stC hx hb hK hP hD hS 10 (by decide) h_i dX3_shift_36 (fun H locs hP hD hS => ?_)
      refine lv_iinc (v := (v11.1 + (1 : Int32))) (lv' := [(3, .int (v11.1 + (1 : Int32))), (0, .ref (aD G 21)), (1, .int x1), (2, .int x2)]) hx hb dX3_shift_37 hl (k := 3) rfl rfl (by decide) rfl (fun ls hl => ?_)
      refine lv_goto (tgt := 11) hx hb dX3_shift_40 (by decide) ?_
      exact hN11 _ (Option.some.inj hE).symm _ _ _ hP hD hS (lv_sub hl [1, 2, 3, 0] rfl)
  refine lv_aload_n hx hb dX3_shift_0 rfl (lv_at hl 0 rfl) ?_
  refine va_get (ci := 3) (v := .ref (aD G 11)) (C := RX3) (T := TX3) (N := 4) hx hb hts (fun _ h => List.mem_cons_of_mem _ (List.mem_append_right _ h)) hown hK hP 21 rfl rfl 2 (by decide) (hts (.fieldLink RX3 18 "FillCells$Nets" "borne" "[I") (List.mem_of_getElem? (i := 1) rfl)) (fun _ h9 => h9) rfl dX3_shift_1 ?_
  refine lv_iload_n hx hb dX3_shift_4 rfl (lv_at hl 1 rfl) ?_
  obtain ⟨h_i, hE⟩ := gd_some hE
  refine ldC hx hb hK hP 11 (by decide) h_i dX3_shift_5 ?_
  refine lv_if_eq (tgt := 43) hx hb dX3_shift_6 (by decide) (fun c_ => ?_) (fun c_ => ?_)
  · have hE := ip c_ hE
    exact J_43 σ _ _ _ hP hD hS (lv_sub hl [] rfl) hE
  · have hE := im c_ hE
    refine lv_iconst (v := (1 : Int32)) hx hb dX3_shift_9 (by decide) ?_
    refine lv_istore_n (lv' := [(3, .int (1 : Int32)), (0, .ref (aD G 21)), (1, .int x1), (2, .int x2)]) hx hb dX3_shift_10 rfl hl (by decide) rfl (fun ls hl => ?_)
    exact J_11 (1 : Int32) σ _ _ _ hP hD hS (lv_sub hl [1, 2, 3, 0] rfl) hE
abbrev rmX3_measure : Room := { frames := 1, cells := 0, slots := 0, locals := 23 }
def f_X3_measure_J96 (x2 : Int32) (σ : St) : Option (((St)) ⊕ (Int32 × St)) := gd x2 80 (bnd (f_X3_shift x2 (rd σ 4 x2) σ) (fun r4 => some (.inr ((x2 + (1 : Int32)), r4))))
def f_X3_measure_L54 (x2 : Int32) (v54 : Int32 × St) : Option (((St)) ⊕ (Int32 × St)) := if (4 : Int32) ≤ v54.1 then (some (.inl (v54.2))) else (gd x2 80 (gd (((4 : Int32) * (rd v54.2 3 x2)) + v54.1) 16 (gd x2 80 (gd (((4 : Int32) * (rd v54.2 3 x2)) + v54.1) 16 (some (.inr ((v54.1 + (1 : Int32)), (sA v54.2 12 (((4 : Int32) * (rd v54.2 3 x2)) + v54.1) ((rd v54.2 12 (((4 : Int32) * (rd v54.2 3 x2)) + v54.1)) + (((rd v54.2 11 x2) >>> (v54.1 &&& 31)) &&& (1 : Int32)))))))))))
def f_X3_measure_J54 (x2 : Int32) (x4 : Int32) (σ : St) : Option (((St)) ⊕ (Int32 × St)) := bnd (loopN (f_X3_measure_L54 x2) 4096 (x4, σ)) (fun y54 => f_X3_measure_J96 x2 y54)
def f_X3_measure_L18  (v18 : Int32 × St) : Option (((St)) ⊕ (Int32 × St)) := if (80 : Int32) ≤ v18.1 then (some (.inl (v18.2))) else (gd v18.1 80 (bnd (f_X3_netsBeside v18.1 v18.2) (fun r3 => gd v18.1 80 (f_X3_measure_J54 v18.1 (1 : Int32) (sA v18.2 11 v18.1 ((r3 &&& (((1 : Int32) <<< ((rd v18.2 2 v18.1) &&& 31)) ^^^ (-1 : Int32))) &&& (-2 : Int32)))))))
def f_X3_measure_J18 (x2 : Int32) (σ : St) : Option St := bnd (loopN (f_X3_measure_L18 ) 4096 (x2, σ)) (fun y18 => some y18)
def f_X3_measure (σ : St) : Option St := bnd (f_J7_fill_53178 10 (0 : Int32) σ) (fun r1 => bnd (f_J7_fill_53178 12 (0 : Int32) r1) (fun r2 => f_X3_measure_J18 (0 : Int32) r2))
set_option maxHeartbeats 4000000 in
set_option maxRecDepth 100000 in
theorem c_X3_measure (l : Launch) (G : EV)   (σ : St) (r : St) (hE : f_X3_measure σ = some r) : MetV l G yX3_measure wsX3_measure rmX3_measure [.ref (aD G 21), .ref (aD G 19)] (wC G σ) (wC G r) := by
  refine Met.of0 (Qf := PV G (wC G r)) (cc := cX3_measure) (maxL := 5) (ret := none) (by decide) rfl (Nat.le_of_ble_eq_true rfl) ?_
  intro p e s m below meth c args A hx hb hr hts hown hlocks hml hin0 hA hS hP hK hD hX ls hl
  have hl : lv_has ls 5 [(0, .ref (aD G 21)), (1, .ref (aD G 19))] := hl
  generalize hQ : MQ below (PV G (wC G r) A) args s 0 0 A = Q
  unfold f_X3_measure at hE
  have J_18 : ∀ (x2 : Int32) (σ : St) (H : Heap) (locs : List Loc) (ls : Array Slot), va_P G.1 vwCl (wC G σ) H → va_D A (wC G σ) → va_S A s.heap H locs → lv_has ls 5 [(0, .ref (aD G 21)), (1, .ref (aD G 19)), (2, .int x2)] → f_X3_measure_J18 x2 σ = some r → W p l e rmX3_measure s m args below meth c H locs 0 0 Q (F0 m 18 ls []) := by
    intro x2 σ H locs ls hP hD hS hl hE
    unfold f_X3_measure_J18 at hE
    obtain ⟨y18, hL, hE18⟩ := bnd_some hE
    refine loop_W (body := f_X3_measure_L18 ) (y := y18) (P := fun v18 => ∀ (H : Heap) (locs : List Loc) (ls : Array Slot), va_P G.1 vwCl (wC G v18.2) H → va_D A (wC G v18.2) → va_S A s.heap H locs → lv_has ls 5 [(0, .ref (aD G 21)), (1, .ref (aD G 19)), (2, .int v18.1)] → W p l e rmX3_measure s m args below meth c H locs 0 0 Q (F0 m 18 ls [])) ?_ _ _ hL H locs ls hP hD hS hl
    clear hP hD hS hl hE hL
    intro v18 t18 hE hN18 hY18
    intro H locs ls hP hD hS hl
    unfold f_X3_measure_L18 at hE
    have J_96 : ∀ (x2 : Int32) (σ : St) (H : Heap) (locs : List Loc) (ls : Array Slot), va_P G.1 vwCl (wC G σ) H → va_D A (wC G σ) → va_S A s.heap H locs → lv_has ls 5 [(0, .ref (aD G 21)), (1, .ref (aD G 19)), (2, .int x2)] → f_X3_measure_J96 x2 σ = some t18 → W p l e rmX3_measure s m args below meth c H locs 0 0 Q (F0 m 96 ls []) := by
      intro x2 σ H locs ls hP hD hS hl hE
      unfold f_X3_measure_J96 at hE
      refine lv_aload_n hx hb dX3_measure_96 rfl (lv_at hl 0 rfl) ?_
      refine lv_iload_n hx hb dX3_measure_97 rfl (lv_at hl 2 rfl) ?_
      refine lv_aload_n hx hb dX3_measure_98 rfl (lv_at hl 1 rfl) ?_
      refine va_get (ci := 0) (v := .ref (aD G 4)) (C := RX0) (T := TX0) (N := 5) hx hb hts (fun _ h => List.mem_cons_of_mem _ (List.mem_append_right _ h)) hown hK hP 19 rfl rfl 4 (by decide) (hts (.fieldLink RX3 42 "FillCells$Field" "fill" "[I") (List.mem_of_getElem? (i := 6) rfl)) (fun _ h9 => h9) rfl dX3_measure_99 ?_
      refine lv_iload_n hx hb dX3_measure_102 rfl (lv_at hl 2 rfl) ?_
      obtain ⟨h_i, hE⟩ := gd_some hE
      refine ldC hx hb hK hP 4 (by decide) h_i dX3_measure_103 ?_
      obtain ⟨r4, hC, hE⟩ := bnd_some hE
      refine cv (va_runV (As := [.int x2, .int (rd σ 4 x2)]) (rest := []) ⟨hx, hb, hml, hown, hts⟩ (c_X3_shift l G x2 (rd σ 4 x2) σ r4 hC _) (cwV 2 hts gX3_measure_X3_shift rfl rfl rfl (by decide +kernel) ⟨Nat.le_of_ble_eq_true rfl, Nat.le_of_ble_eq_true rfl⟩) (preV hK hP hD hS hA hX (va_recv hK hP (ci := 3) (q0 := 21) rfl rfl)) rfl rfl hl.1 rfl (lv_room (Nat.le_of_ble_eq_true rfl)) dX3_measure_104 ⟨Nat.le_of_ble_eq_true rfl, Nat.le_of_ble_eq_true rfl⟩) hD hS hA (fun H locs hP hD hS => ?_)
      refine lv_iinc (v := (x2 + (1 : Int32))) (lv' := [(2, .int (x2 + (1 : Int32))), (0, .ref (aD G 21)), (1, .ref (aD G 19))]) hx hb dX3_measure_107 hl (k := 2) rfl rfl (by decide) rfl (fun ls hl => ?_)
      refine lv_goto (tgt := 18) hx hb dX3_measure_110 (by decide) ?_
      exact hN18 _ (Option.some.inj hE).symm _ _ _ hP hD hS (lv_sub hl [1, 2, 0] rfl)
    have J_54 : ∀ (x2 : Int32) (x4 : Int32) (σ : St) (H : Heap) (locs : List Loc) (ls : Array Slot), va_P G.1 vwCl (wC G σ) H → va_D A (wC G σ) → va_S A s.heap H locs → lv_has ls 5 [(0, .ref (aD G 21)), (1, .ref (aD G 19)), (2, .int x2), (4, .int x4)] → f_X3_measure_J54 x2 x4 σ = some t18 → W p l e rmX3_measure s m args below meth c H locs 0 0 Q (F0 m 54 ls []) := by
      intro x2 x4 σ H locs ls hP hD hS hl hE
      unfold f_X3_measure_J54 at hE
      obtain ⟨y54, hL, hE54⟩ := bnd_some hE
      refine loop_W (body := f_X3_measure_L54 x2) (y := y54) (P := fun v54 => ∀ (H : Heap) (locs : List Loc) (ls : Array Slot), va_P G.1 vwCl (wC G v54.2) H → va_D A (wC G v54.2) → va_S A s.heap H locs → lv_has ls 5 [(0, .ref (aD G 21)), (1, .ref (aD G 19)), (2, .int x2), (4, .int v54.1)] → W p l e rmX3_measure s m args below meth c H locs 0 0 Q (F0 m 54 ls [])) ?_ _ _ hL H locs ls hP hD hS hl
      clear hP hD hS hl hE hL
      intro v54 t54 hE hN54 hY54
      intro H locs ls hP hD hS hl
      unfold f_X3_measure_L54 at hE
      refine lv_iload hx hb dX3_measure_54 (lv_at hl 3 rfl) ?_
      refine lv_iconst (v := (4 : Int32)) hx hb dX3_measure_56 (by decide) ?_
      refine lv_icmp_ge (tgt := 96) hx hb dX3_measure_57 (by decide) (fun c_ => ?_) (fun c_ => ?_)
      · have hE := ip c_ hE
        have e9 := hY54 _ (Option.some.inj hE).symm
        have hE := hE54
        rw [← e9] at hE
        exact J_96 x2 v54.2 _ _ _ hP hD hS (lv_sub hl [0, 1, 2] rfl) hE
      · have hE := im c_ hE
        refine lv_aload_n hx hb dX3_measure_60 rfl (lv_at hl 0 rfl) ?_
        refine va_get (ci := 3) (v := .ref (aD G 12)) (C := RX3) (T := TX3) (N := 4) hx hb hts (fun _ h => List.mem_cons_of_mem _ (List.mem_append_left _ (List.mem_append_right _ h))) hown hK hP 21 rfl rfl 3 (by decide) (hts (.fieldLink RX3 21 "FillCells$Nets" "twinsBorne" "[I") (List.mem_of_getElem? (i := 2) rfl)) (fun _ h9 => h9) rfl dX3_measure_61 ?_
        refine lv_iconst (v := (4 : Int32)) hx hb dX3_measure_64 (by decide) ?_
        refine lv_aload_n hx hb dX3_measure_65 rfl (lv_at hl 1 rfl) ?_
        refine va_get (ci := 0) (v := .ref (aD G 3)) (C := RX0) (T := TX0) (N := 5) hx hb hts (fun _ h => List.mem_cons_of_mem _ (List.mem_append_right _ h)) hown hK hP 19 rfl rfl 3 (by decide) (hts (.fieldLink RX3 39 "FillCells$Field" "twins" "[I") (List.mem_of_getElem? (i := 5) rfl)) (fun _ h9 => h9) rfl dX3_measure_66 ?_
        refine lv_iload_n hx hb dX3_measure_69 rfl (lv_at hl 2 rfl) ?_
        obtain ⟨h_i, hE⟩ := gd_some hE
        refine ldC hx hb hK hP 3 (by decide) h_i dX3_measure_70 ?_
        refine lv_imul hx hb dX3_measure_71 ?_
        refine lv_iload hx hb dX3_measure_72 (lv_at hl 3 rfl) ?_
        refine lv_iadd hx hb dX3_measure_74 ?_
        refine lv_dup2_11 hx hb dX3_measure_75 rfl rfl ?_
        obtain ⟨h_i, hE⟩ := gd_some hE
        refine ldC hx hb hK hP 12 (by decide) h_i dX3_measure_76 ?_
        refine lv_aload_n hx hb dX3_measure_77 rfl (lv_at hl 0 rfl) ?_
        refine va_get (ci := 3) (v := .ref (aD G 11)) (C := RX3) (T := TX3) (N := 4) hx hb hts (fun _ h => List.mem_cons_of_mem _ (List.mem_append_left _ (List.mem_append_right _ h))) hown hK hP 21 rfl rfl 2 (by decide) (hts (.fieldLink RX3 18 "FillCells$Nets" "borne" "[I") (List.mem_of_getElem? (i := 4) rfl)) (fun _ h9 => h9) rfl dX3_measure_78 ?_
        refine lv_iload_n hx hb dX3_measure_81 rfl (lv_at hl 2 rfl) ?_
        obtain ⟨h_i, hE⟩ := gd_some hE
        refine ldC hx hb hK hP 11 (by decide) h_i dX3_measure_82 ?_
        refine lv_iload hx hb dX3_measure_83 (lv_at hl 3 rfl) ?_
        refine lv_ishr hx hb dX3_measure_85 ?_
        refine lv_iconst (v := (1 : Int32)) hx hb dX3_measure_86 (by decide) ?_
        refine lv_iand hx hb dX3_measure_87 ?_
        refine lv_iadd hx hb dX3_measure_88 ?_
        obtain ⟨h_i, hE⟩ := gd_some hE
        refine stC hx hb hK hP hD hS 12 (by decide) h_i dX3_measure_89 (fun H locs hP hD hS => ?_)
        refine lv_iinc (v := (v54.1 + (1 : Int32))) (lv' := [(4, .int (v54.1 + (1 : Int32))), (0, .ref (aD G 21)), (1, .ref (aD G 19)), (2, .int x2)]) hx hb dX3_measure_90 hl (k := 3) rfl rfl (by decide) rfl (fun ls hl => ?_)
        refine lv_goto (tgt := 54) hx hb dX3_measure_93 (by decide) ?_
        exact hN54 _ (Option.some.inj hE).symm _ _ _ hP hD hS (lv_sub hl [1, 2, 3, 0] rfl)
    refine lv_iload_n hx hb dX3_measure_18 rfl (lv_at hl 2 rfl) ?_
    refine lv_bipush (v := (80 : Int32)) hx hb dX3_measure_19 (by decide) ?_
    refine lv_icmp_ge (tgt := 113) hx hb dX3_measure_21 (by decide) (fun c_ => ?_) (fun c_ => ?_)
    · have hE := ip c_ hE
      have e9 := hY18 _ (Option.some.inj hE).symm
      have hE := hE18
      rw [← e9] at hE
      rw [← hQ, ← Option.some.inj hE]
      exact rv hx hb hr hlocks hK hP hD hS dX3_measure_113
    · have hE := im c_ hE
      refine lv_iconst (v := (1 : Int32)) hx hb dX3_measure_24 (by decide) ?_
      refine lv_aload_n hx hb dX3_measure_25 rfl (lv_at hl 1 rfl) ?_
      refine va_get (ci := 0) (v := .ref (aD G 2)) (C := RX0) (T := TX0) (N := 5) hx hb hts (fun _ h => List.mem_cons_of_mem _ (List.mem_append_right _ h)) hown hK hP 19 rfl rfl 2 (by decide) (hts (.fieldLink RX3 30 "FillCells$Field" "net" "[I") (List.mem_of_getElem? (i := 3) rfl)) (fun _ h9 => h9) rfl dX3_measure_26 ?_
      refine lv_iload_n hx hb dX3_measure_29 rfl (lv_at hl 2 rfl) ?_
      obtain ⟨h_i, hE⟩ := gd_some hE
      refine ldC hx hb hK hP 2 (by decide) h_i dX3_measure_30 ?_
      refine lv_ishl hx hb dX3_measure_31 ?_
      refine lv_istore_n (lv' := [(3, .int ((1 : Int32) <<< ((rd v18.2 2 v18.1) &&& 31))), (0, .ref (aD G 21)), (1, .ref (aD G 19)), (2, .int v18.1)]) hx hb dX3_measure_32 rfl hl (by decide) rfl (fun ls hl => ?_)
      refine lv_aload_n hx hb dX3_measure_33 rfl (lv_at hl 1 rfl) ?_
      refine va_get (ci := 3) (v := .ref (aD G 11)) (C := RX3) (T := TX3) (N := 4) hx hb hts (fun _ h => List.mem_cons_of_mem _ (List.mem_append_left _ (List.mem_append_right _ h))) hown hK hP 21 rfl rfl 2 (by decide) (hts (.fieldLink RX3 18 "FillCells$Nets" "borne" "[I") (List.mem_of_getElem? (i := 4) rfl)) (fun _ h9 => h9) rfl dX3_measure_34 ?_
      refine lv_iload_n hx hb dX3_measure_37 rfl (lv_at hl 3 rfl) ?_
      refine lv_aload_n hx hb dX3_measure_38 rfl (lv_at hl 2 rfl) ?_
      refine lv_iload_n hx hb dX3_measure_39 rfl (lv_at hl 3 rfl) ?_
      obtain ⟨r3, hC, hE⟩ := bnd_some hE
      refine ci (va_runS (As := [.ref (aD G 19), .int v18.1]) (rest := [.int v18.1, .ref (aD G 11)]) ⟨hx, hb, hml, hown, hts⟩ (c_X3_netsBeside l G v18.1 v18.2 r3 hC _) (va_cwS 2 hts gX3_measure_X3_netsBeside rfl rfl rfl (by decide +kernel) ⟨Nat.le_of_ble_eq_true rfl, Nat.le_of_ble_eq_true rfl⟩) (preS hK hP hD hS hA hX) rfl rfl hl.1 rfl (lv_room (Nat.le_of_ble_eq_true rfl)) dX3_measure_40 ⟨Nat.le_of_ble_eq_true rfl, Nat.le_of_ble_eq_true rfl⟩) hD hS hA (fun H locs hP hD hS => ?_)
      refine lv_iload_n hx hb dX3_measure_43 rfl (lv_at hl 0 rfl) ?_
      refine lv_iconst (v := (-1 : Int32)) hx hb dX3_measure_44 (by decide) ?_
      refine lv_ixor hx hb dX3_measure_45 ?_
      refine lv_iand hx hb dX3_measure_46 ?_
      refine lv_bipush (v := (-2 : Int32)) hx hb dX3_measure_47 (by decide) ?_
      refine lv_iand hx hb dX3_measure_49 ?_
      obtain ⟨h_i, hE⟩ := gd_some hE
      refine stC hx hb hK hP hD hS 11 (by decide) h_i dX3_measure_50 (fun H locs hP hD hS => ?_)
      refine lv_iconst (v := (1 : Int32)) hx hb dX3_measure_51 (by decide) ?_
      refine lv_istore (lv' := [(4, .int (1 : Int32)), (3, .int ((1 : Int32) <<< ((rd v18.2 2 v18.1) &&& 31))), (0, .ref (aD G 21)), (1, .ref (aD G 19)), (2, .int v18.1)]) hx hb dX3_measure_52 hl (by decide) rfl (fun ls hl => ?_)
      exact J_54 v18.1 (1 : Int32) (sA v18.2 11 v18.1 ((r3 &&& (((1 : Int32) <<< ((rd v18.2 2 v18.1) &&& 31)) ^^^ (-1 : Int32))) &&& (-2 : Int32))) _ _ _ hP hD hS (lv_sub hl [2, 3, 4, 0] rfl) hE
  refine lv_aload_n hx hb dX3_measure_0 rfl (lv_at hl 0 rfl) ?_
  refine va_get (ci := 3) (v := .ref (aD G 10)) (C := RX3) (T := TX3) (N := 4) hx hb hts (fun _ h => List.mem_cons_of_mem _ (List.mem_append_left _ (List.mem_append_right _ h))) hown hK hP 21 rfl rfl 1 (by decide) (hts (.fieldLink RX3 15 "FillCells$Nets" "burdens" "[I") (List.mem_of_getElem? (i := 1) rfl)) (fun _ h9 => h9) rfl dX3_measure_1 ?_
  refine lv_iconst (v := (0 : Int32)) hx hb dX3_measure_4 (by decide) ?_
  obtain ⟨r1, hC, hE⟩ := bnd_some hE
  refine cv (va_runS (As := [.ref (aD G 10), .int (0 : Int32)]) (rest := []) ⟨hx, hb, hml, hown, hts⟩ (c_J7_fill_53178 l G 10 (by decide) (0 : Int32) σ r1 hC _) (va_cwS 2 hts gX3_measure_J7_fill_53178 rfl rfl rfl (by decide +kernel) ⟨Nat.le_of_ble_eq_true rfl, Nat.le_of_ble_eq_true rfl⟩) (preS hK hP hD hS hA hX) rfl rfl hl.1 rfl (lv_room (Nat.le_of_ble_eq_true rfl)) dX3_measure_5 ⟨Nat.le_of_ble_eq_true rfl, Nat.le_of_ble_eq_true rfl⟩) hD hS hA (fun H locs hP hD hS => ?_)
  refine lv_aload_n hx hb dX3_measure_8 rfl (lv_at hl 0 rfl) ?_
  refine va_get (ci := 3) (v := .ref (aD G 12)) (C := RX3) (T := TX3) (N := 4) hx hb hts (fun _ h => List.mem_cons_of_mem _ (List.mem_append_left _ (List.mem_append_right _ h))) hown hK hP 21 rfl rfl 3 (by decide) (hts (.fieldLink RX3 21 "FillCells$Nets" "twinsBorne" "[I") (List.mem_of_getElem? (i := 2) rfl)) (fun _ h9 => h9) rfl dX3_measure_9 ?_
  refine lv_iconst (v := (0 : Int32)) hx hb dX3_measure_12 (by decide) ?_
  obtain ⟨r2, hC, hE⟩ := bnd_some hE
  refine cv (va_runS (As := [.ref (aD G 12), .int (0 : Int32)]) (rest := []) ⟨hx, hb, hml, hown, hts⟩ (c_J7_fill_53178 l G 12 (by decide) (0 : Int32) r1 r2 hC _) (va_cwS 2 hts gX3_measure_J7_fill_53178 rfl rfl rfl (by decide +kernel) ⟨Nat.le_of_ble_eq_true rfl, Nat.le_of_ble_eq_true rfl⟩) (preS hK hP hD hS hA hX) rfl rfl hl.1 rfl (lv_room (Nat.le_of_ble_eq_true rfl)) dX3_measure_13 ⟨Nat.le_of_ble_eq_true rfl, Nat.le_of_ble_eq_true rfl⟩) hD hS hA (fun H locs hP hD hS => ?_)
  refine lv_iconst (v := (0 : Int32)) hx hb dX3_measure_16 (by decide) ?_
  refine lv_istore_n (lv' := [(2, .int (0 : Int32)), (0, .ref (aD G 21)), (1, .ref (aD G 19))]) hx hb dX3_measure_17 rfl hl (by decide) rfl (fun ls hl => ?_)
  exact J_18 (0 : Int32) r2 _ _ _ hP hD hS (lv_sub hl [1, 2, 0] rfl) hE
abbrev rmX3_gain : Room := { frames := 0, cells := 0, slots := 0, locals := 0 }

def f_X3_gain (x1 x2 x3 : Int32) (σ : St) : Option Int32 := if x2 = 0 then (gd x1 80 (some (((rd σ 11 x1) >>> (x3 &&& 31)) &&& (1 : Int32)))) else (gd (((4 : Int32) * x2) + x3) 16 (some (rd σ 12 (((4 : Int32) * x2) + x3))))
set_option maxHeartbeats 4000000 in
set_option maxRecDepth 100000 in
theorem c_X3_gain (l : Launch) (G : EV)  (x1 x2 x3 : Int32) (σ : St) (r : Int32) (hE : f_X3_gain x1 x2 x3 σ = some r) : MetI l G yX3_gain wsX3_gain rmX3_gain [.ref (aD G 21), .int x1, .int x2, .int x3] (wC G σ) r (wC G σ) := by
  refine Met.of0 (Qf := PI G r (wC G σ)) (cc := cX3_gain) (maxL := 4) (ret := (some .int)) (by decide) rfl (Nat.le_of_ble_eq_true rfl) ?_
  intro p e s m below meth c args A hx hb hr hts hown hlocks hml hin0 hA hS hP hK hD hX ls hl
  have hl : lv_has ls 4 [(0, .ref (aD G 21)), (1, .int x1), (2, .int x2), (3, .int x3)] := hl
  generalize hQ : MQ below (PI G r (wC G σ) A) args s 0 0 A = Q
  unfold f_X3_gain at hE
  refine lv_iload_n hx hb dX3_gain_0 rfl (lv_at hl 2 rfl) ?_
  refine lv_if_ne (tgt := 17) hx hb dX3_gain_1 (by decide) (fun c_ => ?_) (fun c_ => ?_)
  · have hE := im c_ hE
    refine lv_aload_n hx hb dX3_gain_17 rfl (lv_at hl 0 rfl) ?_
    refine va_get (ci := 3) (v := .ref (aD G 12)) (C := RX3) (T := TX3) (N := 4) hx hb hts (fun _ h => List.mem_cons_of_mem _ (List.mem_append_right _ h)) hown hK hP 21 rfl rfl 3 (by decide) (hts (.fieldLink RX3 21 "FillCells$Nets" "twinsBorne" "[I") (List.mem_of_getElem? (i := 2) rfl)) (fun _ h9 => h9) rfl dX3_gain_18 ?_
    refine lv_iconst (v := (4 : Int32)) hx hb dX3_gain_21 (by decide) ?_
    refine lv_iload_n hx hb dX3_gain_22 rfl (lv_at hl 2 rfl) ?_
    refine lv_imul hx hb dX3_gain_23 ?_
    refine lv_iload_n hx hb dX3_gain_24 rfl (lv_at hl 3 rfl) ?_
    refine lv_iadd hx hb dX3_gain_25 ?_
    obtain ⟨h_i, hE⟩ := gd_some hE
    refine ldC hx hb hK hP 12 (by decide) h_i dX3_gain_26 ?_
    rw [← hQ, ← Option.some.inj hE]
    exact ri hx hb hr hlocks hK hP hD hS dX3_gain_27
  · have hE := ip c_ hE
    refine lv_aload_n hx hb dX3_gain_4 rfl (lv_at hl 0 rfl) ?_
    refine va_get (ci := 3) (v := .ref (aD G 11)) (C := RX3) (T := TX3) (N := 4) hx hb hts (fun _ h => List.mem_cons_of_mem _ (List.mem_append_right _ h)) hown hK hP 21 rfl rfl 2 (by decide) (hts (.fieldLink RX3 18 "FillCells$Nets" "borne" "[I") (List.mem_of_getElem? (i := 1) rfl)) (fun _ h9 => h9) rfl dX3_gain_5 ?_
    refine lv_iload_n hx hb dX3_gain_8 rfl (lv_at hl 1 rfl) ?_
    obtain ⟨h_i, hE⟩ := gd_some hE
    refine ldC hx hb hK hP 11 (by decide) h_i dX3_gain_9 ?_
    refine lv_iload_n hx hb dX3_gain_10 rfl (lv_at hl 3 rfl) ?_
    refine lv_ishr hx hb dX3_gain_11 ?_
    refine lv_iconst (v := (1 : Int32)) hx hb dX3_gain_12 (by decide) ?_
    refine lv_iand hx hb dX3_gain_13 ?_
    refine lv_goto (tgt := 27) hx hb dX3_gain_14 (by decide) ?_
    rw [← hQ, ← Option.some.inj hE]
    exact ri hx hb hr hlocks hK hP hD hS dX3_gain_27
abbrev rmX3_bear : Room := { frames := 1, cells := 0, slots := 0, locals := 23 }
def f_X3_bear_L2 (x1 : Int32) (x2 : Int32) (σ : St) (v2 : Int32) : Option (((Int32 ⊕ (Unit))) ⊕ (Int32)) := if (4 : Int32) ≤ v2 then (some (.inl (.inr ()))) else (bnd (f_X3_gain x1 x2 v2 σ) (fun r1 => if r1 ≤ 0 then (some (.inr ((v2 + (1 : Int32))))) else (gd v2 4 (gd v2 4 (if ((rd σ 10 v2) + r1) ≤ (rd σ 9 v2) then (some (.inr ((v2 + (1 : Int32))))) else (some (.inl (.inl (0 : Int32)))))))))
def f_X3_bear_J2 (x1 : Int32) (x2 : Int32) (x3 : Int32) (σ : St) : Option Int32 := bnd (loopN (f_X3_bear_L2 x1 x2 σ) 4096 (x3)) (fun y2 => ear (fun q => q) y2 (fun y2 => some (1 : Int32)))
def f_X3_bear (x1 x2 : Int32) (σ : St) : Option Int32 := f_X3_bear_J2 x1 x2 (1 : Int32) σ
set_option maxHeartbeats 4000000 in
set_option maxRecDepth 100000 in
theorem c_X3_bear (l : Launch) (G : EV)  (x1 x2 : Int32) (σ : St) (r : Int32) (hE : f_X3_bear x1 x2 σ = some r) : MetI l G yX3_bear wsX3_bear rmX3_bear [.ref (aD G 21), .int x1, .int x2] (wC G σ) r (wC G σ) := by
  refine Met.of0 (Qf := PI G r (wC G σ)) (cc := cX3_bear) (maxL := 5) (ret := (some .boolean)) (by decide) rfl (Nat.le_of_ble_eq_true rfl) ?_
  intro p e s m below meth c args A hx hb hr hts hown hlocks hml hin0 hA hS hP hK hD hX ls hl
  have hl : lv_has ls 5 [(0, .ref (aD G 21)), (1, .int x1), (2, .int x2)] := hl
  generalize hQ : MQ below (PI G r (wC G σ) A) args s 0 0 A = Q
  unfold f_X3_bear at hE
  have J_2 : ∀ (x3 : Int32) (H : Heap) (locs : List Loc) (ls : Array Slot), va_P G.1 vwCl (wC G σ) H → va_D A (wC G σ) → va_S A s.heap H locs → lv_has ls 5 [(0, .ref (aD G 21)), (1, .int x1), (2, .int x2), (3, .int x3)] → f_X3_bear_J2 x1 x2 x3 σ = some r → W p l e rmX3_bear s m args below meth c H locs 0 0 Q (F0 m 2 ls []) := by
    intro x3 H locs ls hP hD hS hl hE
    unfold f_X3_bear_J2 at hE
    obtain ⟨y2, hL, hE2⟩ := bnd_some hE
    refine loop_W (body := f_X3_bear_L2 x1 x2 σ) (y := y2) (P := fun v2 => ∀ (H : Heap) (locs : List Loc) (ls : Array Slot), va_P G.1 vwCl (wC G σ) H → va_D A (wC G σ) → va_S A s.heap H locs → lv_has ls 5 [(0, .ref (aD G 21)), (1, .int x1), (2, .int x2), (3, .int v2)] → W p l e rmX3_bear s m args below meth c H locs 0 0 Q (F0 m 2 ls [])) ?_ _ _ hL H locs ls hP hD hS hl
    clear hP hD hS hl hE hL
    intro v2 t2 hE hN2 hY2
    intro H locs ls hP hD hS hl
    unfold f_X3_bear_L2 at hE
    refine lv_iload_n hx hb dX3_bear_2 rfl (lv_at hl 3 rfl) ?_
    refine lv_iconst (v := (4 : Int32)) hx hb dX3_bear_3 (by decide) ?_
    refine lv_icmp_ge (tgt := 47) hx hb dX3_bear_4 (by decide) (fun c_ => ?_) (fun c_ => ?_)
    · have hE := ip c_ hE
      have e9 := hY2 _ (Option.some.inj hE).symm
      have hE := ear_r _ e9 hE2
      refine lv_iconst (v := (1 : Int32)) hx hb dX3_bear_47 (by decide) ?_
      rw [← hQ, ← Option.some.inj hE]
      exact rz (v := (1 : Int32)) hx hb hr hlocks hK hP hD hS rfl dX3_bear_48
    · have hE := im c_ hE
      refine lv_aload_n hx hb dX3_bear_7 rfl (lv_at hl 0 rfl) ?_
      refine lv_iload_n hx hb dX3_bear_8 rfl (lv_at hl 1 rfl) ?_
      refine lv_iload_n hx hb dX3_bear_9 rfl (lv_at hl 2 rfl) ?_
      refine lv_iload_n hx hb dX3_bear_10 rfl (lv_at hl 3 rfl) ?_
      obtain ⟨r1, hC, hE⟩ := bnd_some hE
      refine ci (va_runV (As := [.int x1, .int x2, .int v2]) (rest := []) ⟨hx, hb, hml, hown, hts⟩ (c_X3_gain l G x1 x2 v2 σ r1 hC _) (cwV 3 hts gX3_bear_X3_gain rfl rfl rfl (by decide +kernel) ⟨Nat.le_of_ble_eq_true rfl, Nat.le_of_ble_eq_true rfl⟩) (preV hK hP hD hS hA hX (va_recv hK hP (ci := 3) (q0 := 21) rfl rfl)) rfl rfl hl.1 rfl (lv_room (Nat.le_of_ble_eq_true rfl)) dX3_bear_11 ⟨Nat.le_of_ble_eq_true rfl, Nat.le_of_ble_eq_true rfl⟩) hD hS hA (fun H locs hP hD hS => ?_)
      refine lv_istore (lv' := [(4, .int r1), (0, .ref (aD G 21)), (1, .int x1), (2, .int x2), (3, .int v2)]) hx hb dX3_bear_14 hl (by decide) rfl (fun ls hl => ?_)
      refine lv_iload hx hb dX3_bear_16 (lv_at hl 0 rfl) ?_
      refine lv_if_le (tgt := 41) hx hb dX3_bear_18 (by decide) (fun c_ => ?_) (fun c_ => ?_)
      · have hE := ip c_ hE
        refine lv_iinc (v := (v2 + (1 : Int32))) (lv' := [(3, .int (v2 + (1 : Int32))), (4, .int r1), (0, .ref (aD G 21)), (1, .int x1), (2, .int x2)]) hx hb dX3_bear_41 hl (k := 4) rfl rfl (by decide) rfl (fun ls hl => ?_)
        refine lv_goto (tgt := 2) hx hb dX3_bear_44 (by decide) ?_
        exact hN2 _ (Option.some.inj hE).symm _ _ _ hP hD hS (lv_sub hl [2, 3, 4, 0] rfl)
      · have hE := im c_ hE
        refine lv_aload_n hx hb dX3_bear_21 rfl (lv_at hl 1 rfl) ?_
        refine va_get (ci := 3) (v := .ref (aD G 10)) (C := RX3) (T := TX3) (N := 4) hx hb hts (fun _ h => List.mem_cons_of_mem _ (List.mem_append_right _ h)) hown hK hP 21 rfl rfl 1 (by decide) (hts (.fieldLink RX3 15 "FillCells$Nets" "burdens" "[I") (List.mem_of_getElem? (i := 1) rfl)) (fun _ h9 => h9) rfl dX3_bear_22 ?_
        refine lv_iload_n hx hb dX3_bear_25 rfl (lv_at hl 4 rfl) ?_
        obtain ⟨h_i, hE⟩ := gd_some hE
        refine ldC hx hb hK hP 10 (by decide) h_i dX3_bear_26 ?_
        refine lv_iload hx hb dX3_bear_27 (lv_at hl 0 rfl) ?_
        refine lv_iadd hx hb dX3_bear_29 ?_
        refine lv_aload_n hx hb dX3_bear_30 rfl (lv_at hl 1 rfl) ?_
        refine va_get (ci := 3) (v := .ref (aD G 9)) (C := RX3) (T := TX3) (N := 4) hx hb hts (fun _ h => List.mem_cons_of_mem _ (List.mem_append_right _ h)) hown hK hP 21 rfl rfl 0 (by decide) (hts (.fieldLink RX3 9 "FillCells$Nets" "limits" "[I") (List.mem_of_getElem? (i := 2) rfl)) (fun _ h9 => h9) rfl dX3_bear_31 ?_
        refine lv_iload_n hx hb dX3_bear_34 rfl (lv_at hl 4 rfl) ?_
        obtain ⟨h_i, hE⟩ := gd_some hE
        refine ldC hx hb hK hP 9 (by decide) h_i dX3_bear_35 ?_
        refine lv_icmp_le (tgt := 41) hx hb dX3_bear_36 (by decide) (fun c_ => ?_) (fun c_ => ?_)
        · have hE := ip c_ hE
          refine lv_iinc (v := (v2 + (1 : Int32))) (lv' := [(3, .int (v2 + (1 : Int32))), (4, .int r1), (0, .ref (aD G 21)), (1, .int x1), (2, .int x2)]) hx hb dX3_bear_41 hl (k := 4) rfl rfl (by decide) rfl (fun ls hl => ?_)
          refine lv_goto (tgt := 2) hx hb dX3_bear_44 (by decide) ?_
          exact hN2 _ (Option.some.inj hE).symm _ _ _ hP hD hS (lv_sub hl [2, 3, 4, 0] rfl)
        · have hE := im c_ hE
          refine lv_iconst (v := (0 : Int32)) hx hb dX3_bear_39 (by decide) ?_
          have hE := ear_l _ (hY2 _ (Option.some.inj hE).symm) hE2
          rw [← hQ, ← Option.some.inj hE]
          exact rz (v := (0 : Int32)) hx hb hr hlocks hK hP hD hS rfl dX3_bear_40
  refine lv_iconst (v := (1 : Int32)) hx hb dX3_bear_0 (by decide) ?_
  refine lv_istore_n (lv' := [(3, .int (1 : Int32)), (0, .ref (aD G 21)), (1, .int x1), (2, .int x2)]) hx hb dX3_bear_1 rfl hl (by decide) rfl (fun ls hl => ?_)
  exact J_2 (1 : Int32) _ _ _ hP hD hS (lv_sub hl [1, 2, 3, 0] rfl) hE
abbrev rmX3_gainOfAll : Room := { frames := 1, cells := 0, slots := 0, locals := 23 }
def f_X3_gainOfAll_L5 (x1 : Int32) (x2 : Int32) (σ : St) (v5 : Int32 × Int32) : Option (((Int32)) ⊕ (Int32 × Int32)) := if (4 : Int32) ≤ v5.2 then (some (.inl (v5.1))) else (bnd (f_X3_gain x1 x2 v5.2 σ) (fun r1 => some (.inr ((v5.1 + r1), (v5.2 + (1 : Int32))))))
def f_X3_gainOfAll_J5 (x1 : Int32) (x2 : Int32) (x3 : Int32) (x4 : Int32) (σ : St) : Option Int32 := bnd (loopN (f_X3_gainOfAll_L5 x1 x2 σ) 4096 (x3, x4)) (fun y5 => some y5)
def f_X3_gainOfAll (x1 x2 : Int32) (σ : St) : Option Int32 := f_X3_gainOfAll_J5 x1 x2 (0 : Int32) (1 : Int32) σ
set_option maxHeartbeats 4000000 in
set_option maxRecDepth 100000 in
theorem c_X3_gainOfAll (l : Launch) (G : EV)  (x1 x2 : Int32) (σ : St) (r : Int32) (hE : f_X3_gainOfAll x1 x2 σ = some r) : MetI l G yX3_gainOfAll wsX3_gainOfAll rmX3_gainOfAll [.ref (aD G 21), .int x1, .int x2] (wC G σ) r (wC G σ) := by
  refine Met.of0 (Qf := PI G r (wC G σ)) (cc := cX3_gainOfAll) (maxL := 5) (ret := (some .int)) (by decide) rfl (Nat.le_of_ble_eq_true rfl) ?_
  intro p e s m below meth c args A hx hb hr hts hown hlocks hml hin0 hA hS hP hK hD hX ls hl
  have hl : lv_has ls 5 [(0, .ref (aD G 21)), (1, .int x1), (2, .int x2)] := hl
  generalize hQ : MQ below (PI G r (wC G σ) A) args s 0 0 A = Q
  unfold f_X3_gainOfAll at hE
  have J_5 : ∀ (x3 : Int32) (x4 : Int32) (H : Heap) (locs : List Loc) (ls : Array Slot), va_P G.1 vwCl (wC G σ) H → va_D A (wC G σ) → va_S A s.heap H locs → lv_has ls 5 [(0, .ref (aD G 21)), (1, .int x1), (2, .int x2), (3, .int x3), (4, .int x4)] → f_X3_gainOfAll_J5 x1 x2 x3 x4 σ = some r → W p l e rmX3_gainOfAll s m args below meth c H locs 0 0 Q (F0 m 5 ls []) := by
    intro x3 x4 H locs ls hP hD hS hl hE
    unfold f_X3_gainOfAll_J5 at hE
    obtain ⟨y5, hL, hE5⟩ := bnd_some hE
    refine loop_W (body := f_X3_gainOfAll_L5 x1 x2 σ) (y := y5) (P := fun v5 => ∀ (H : Heap) (locs : List Loc) (ls : Array Slot), va_P G.1 vwCl (wC G σ) H → va_D A (wC G σ) → va_S A s.heap H locs → lv_has ls 5 [(0, .ref (aD G 21)), (1, .int x1), (2, .int x2), (3, .int v5.1), (4, .int v5.2)] → W p l e rmX3_gainOfAll s m args below meth c H locs 0 0 Q (F0 m 5 ls [])) ?_ _ _ hL H locs ls hP hD hS hl
    clear hP hD hS hl hE hL
    intro v5 t5 hE hN5 hY5
    intro H locs ls hP hD hS hl
    unfold f_X3_gainOfAll_L5 at hE
    refine lv_iload hx hb dX3_gainOfAll_5 (lv_at hl 4 rfl) ?_
    refine lv_iconst (v := (4 : Int32)) hx hb dX3_gainOfAll_7 (by decide) ?_
    refine lv_icmp_ge (tgt := 28) hx hb dX3_gainOfAll_8 (by decide) (fun c_ => ?_) (fun c_ => ?_)
    · have hE := ip c_ hE
      have e9 := hY5 _ (Option.some.inj hE).symm
      have hE := hE5
      rw [← e9] at hE
      refine lv_iload_n hx hb dX3_gainOfAll_28 rfl (lv_at hl 3 rfl) ?_
      rw [← hQ, ← Option.some.inj hE]
      exact ri hx hb hr hlocks hK hP hD hS dX3_gainOfAll_29
    · have hE := im c_ hE
      refine lv_iload_n hx hb dX3_gainOfAll_11 rfl (lv_at hl 3 rfl) ?_
      refine lv_aload_n hx hb dX3_gainOfAll_12 rfl (lv_at hl 0 rfl) ?_
      refine lv_iload_n hx hb dX3_gainOfAll_13 rfl (lv_at hl 1 rfl) ?_
      refine lv_iload_n hx hb dX3_gainOfAll_14 rfl (lv_at hl 2 rfl) ?_
      refine lv_iload hx hb dX3_gainOfAll_15 (lv_at hl 4 rfl) ?_
      obtain ⟨r1, hC, hE⟩ := bnd_some hE
      refine ci (va_runV (As := [.int x1, .int x2, .int v5.2]) (rest := [.int v5.1]) ⟨hx, hb, hml, hown, hts⟩ (c_X3_gain l G x1 x2 v5.2 σ r1 hC _) (cwV 3 hts gX3_gainOfAll_X3_gain rfl rfl rfl (by decide +kernel) ⟨Nat.le_of_ble_eq_true rfl, Nat.le_of_ble_eq_true rfl⟩) (preV hK hP hD hS hA hX (va_recv hK hP (ci := 3) (q0 := 21) rfl rfl)) rfl rfl hl.1 rfl (lv_room (Nat.le_of_ble_eq_true rfl)) dX3_gainOfAll_17 ⟨Nat.le_of_ble_eq_true rfl, Nat.le_of_ble_eq_true rfl⟩) hD hS hA (fun H locs hP hD hS => ?_)
      refine lv_iadd hx hb dX3_gainOfAll_20 ?_
      refine lv_istore_n (lv' := [(3, .int (v5.1 + r1)), (0, .ref (aD G 21)), (1, .int x1), (2, .int x2), (4, .int v5.2)]) hx hb dX3_gainOfAll_21 rfl hl (by decide) rfl (fun ls hl => ?_)
      refine lv_iinc (v := (v5.2 + (1 : Int32))) (lv' := [(4, .int (v5.2 + (1 : Int32))), (3, .int (v5.1 + r1)), (0, .ref (aD G 21)), (1, .int x1), (2, .int x2)]) hx hb dX3_gainOfAll_22 hl (k := 4) rfl rfl (by decide) rfl (fun ls hl => ?_)
      refine lv_goto (tgt := 5) hx hb dX3_gainOfAll_25 (by decide) ?_
      exact hN5 _ (Option.some.inj hE).symm _ _ _ hP hD hS (lv_sub hl [2, 3, 4, 1, 0] rfl)
  refine lv_iconst (v := (0 : Int32)) hx hb dX3_gainOfAll_0 (by decide) ?_
  refine lv_istore_n (lv' := [(3, .int (0 : Int32)), (0, .ref (aD G 21)), (1, .int x1), (2, .int x2)]) hx hb dX3_gainOfAll_1 rfl hl (by decide) rfl (fun ls hl => ?_)
  refine lv_iconst (v := (1 : Int32)) hx hb dX3_gainOfAll_2 (by decide) ?_
  refine lv_istore (lv' := [(4, .int (1 : Int32)), (3, .int (0 : Int32)), (0, .ref (aD G 21)), (1, .int x1), (2, .int x2)]) hx hb dX3_gainOfAll_3 hl (by decide) rfl (fun ls hl => ?_)
  exact J_5 (0 : Int32) (1 : Int32) _ _ _ hP hD hS (lv_sub hl [2, 3, 4, 1, 0] rfl) hE
abbrev rmX6_total : Room := { frames := 0, cells := 0, slots := 0, locals := 0 }
def f_X6_total_L10 (k0 : Nat) (x3 : Int32) (σ : St) (v10 : Int32 × Int32) : Option (((Int32)) ⊕ (Int32 × Int32)) := if x3 ≤ v10.2 then (some (.inl (v10.1))) else (gd v10.2 (lnC k0) (some (.inr ((v10.1 + (rd σ k0 v10.2)), (v10.2 + (1 : Int32))))))
def f_X6_total_J10 (k0 : Nat) (x1 : Int32) (x3 : Int32) (x4 : Int32) (σ : St) : Option Int32 := bnd (loopN (f_X6_total_L10 k0 x3 σ) 4096 (x1, x4)) (fun y10 => some y10)
def f_X6_total (k0 : Nat) (σ : St) : Option Int32 := f_X6_total_J10 k0 (0 : Int32) (Int32.ofNat (lnC k0)) (0 : Int32) σ
set_option maxHeartbeats 4000000 in
set_option maxRecDepth 100000 in
theorem c_X6_total (l : Launch) (G : EV) (k0 : Nat) (hk0 : k0 < 18)  (σ : St) (r : Int32) (hE : f_X6_total k0 σ = some r) : MetI l G yX6_total wsX6_total rmX6_total [.ref (aD G k0)] (wC G σ) r (wC G σ) := by
  refine Met.of0 (Qf := PI G r (wC G σ)) (cc := cX6_total) (maxL := 6) (ret := (some .int)) (by decide) rfl (Nat.le_of_ble_eq_true rfl) ?_
  intro p e s m below meth c args A hx hb hr hts hown hlocks hml hin0 hA hS hP hK hD hX ls hl
  have hl : lv_has ls 6 [(0, .ref (aD G k0))] := hl
  generalize hQ : MQ below (PI G r (wC G σ) A) args s 0 0 A = Q
  unfold f_X6_total at hE
  have J_10 : ∀ (x1 : Int32) (x3 : Int32) (x4 : Int32) (H : Heap) (locs : List Loc) (ls : Array Slot), va_P G.1 vwCl (wC G σ) H → va_D A (wC G σ) → va_S A s.heap H locs → lv_has ls 6 [(1, .int x1), (2, .ref (aD G k0)), (3, .int x3), (4, .int x4)] → f_X6_total_J10 k0 x1 x3 x4 σ = some r → W p l e rmX6_total s m args below meth c H locs 0 0 Q (F0 m 10 ls []) := by
    intro x1 x3 x4 H locs ls hP hD hS hl hE
    unfold f_X6_total_J10 at hE
    obtain ⟨y10, hL, hE10⟩ := bnd_some hE
    refine loop_W (body := f_X6_total_L10 k0 x3 σ) (y := y10) (P := fun v10 => ∀ (H : Heap) (locs : List Loc) (ls : Array Slot), va_P G.1 vwCl (wC G σ) H → va_D A (wC G σ) → va_S A s.heap H locs → lv_has ls 6 [(1, .int v10.1), (2, .ref (aD G k0)), (3, .int x3), (4, .int v10.2)] → W p l e rmX6_total s m args below meth c H locs 0 0 Q (F0 m 10 ls [])) ?_ _ _ hL H locs ls hP hD hS hl
    clear hP hD hS hl hE hL
    intro v10 t10 hE hN10 hY10
    intro H locs ls hP hD hS hl
    unfold f_X6_total_L10 at hE
    refine lv_iload hx hb dX6_total_10 (lv_at hl 3 rfl) ?_
    refine lv_iload_n hx hb dX6_total_12 rfl (lv_at hl 2 rfl) ?_
    refine lv_icmp_ge (tgt := 33) hx hb dX6_total_13 (by decide) (fun c_ => ?_) (fun c_ => ?_)
    · have hE := ip c_ hE
      have e9 := hY10 _ (Option.some.inj hE).symm
      have hE := hE10
      rw [← e9] at hE
      refine lv_iload_n hx hb dX6_total_33 rfl (lv_at hl 0 rfl) ?_
      rw [← hQ, ← Option.some.inj hE]
      exact ri hx hb hr hlocks hK hP hD hS dX6_total_34
    · have hE := im c_ hE
      refine lv_aload_n hx hb dX6_total_16 rfl (lv_at hl 1 rfl) ?_
      refine lv_iload hx hb dX6_total_17 (lv_at hl 3 rfl) ?_
      obtain ⟨h_i, hE⟩ := gd_some hE
      refine ldC hx hb hK hP k0 hk0 h_i dX6_total_19 ?_
      refine lv_istore (lv' := [(5, .int (rd σ k0 v10.2)), (1, .int v10.1), (2, .ref (aD G k0)), (3, .int x3), (4, .int v10.2)]) hx hb dX6_total_20 hl (by decide) rfl (fun ls hl => ?_)
      refine lv_iload_n hx hb dX6_total_22 rfl (lv_at hl 1 rfl) ?_
      refine lv_iload hx hb dX6_total_23 (lv_at hl 0 rfl) ?_
      refine lv_iadd hx hb dX6_total_25 ?_
      refine lv_istore_n (lv' := [(1, .int (v10.1 + (rd σ k0 v10.2))), (5, .int (rd σ k0 v10.2)), (2, .ref (aD G k0)), (3, .int x3), (4, .int v10.2)]) hx hb dX6_total_26 rfl hl (by decide) rfl (fun ls hl => ?_)
      refine lv_iinc (v := (v10.2 + (1 : Int32))) (lv' := [(4, .int (v10.2 + (1 : Int32))), (1, .int (v10.1 + (rd σ k0 v10.2))), (5, .int (rd σ k0 v10.2)), (2, .ref (aD G k0)), (3, .int x3)]) hx hb dX6_total_27 hl (k := 4) rfl rfl (by decide) rfl (fun ls hl => ?_)
      refine lv_goto (tgt := 10) hx hb dX6_total_30 (by decide) ?_
      exact hN10 _ (Option.some.inj hE).symm _ _ _ hP hD hS (lv_sub hl [1, 3, 4, 0] rfl)
  refine lv_iconst (v := (0 : Int32)) hx hb dX6_total_0 (by decide) ?_
  refine lv_istore_n (lv' := [(1, .int (0 : Int32)), (0, .ref (aD G k0))]) hx hb dX6_total_1 rfl hl (by decide) rfl (fun ls hl => ?_)
  refine lv_aload_n hx hb dX6_total_2 rfl (lv_at hl 1 rfl) ?_
  refine lv_astore_n (lv' := [(2, .ref (aD G k0)), (1, .int (0 : Int32)), (0, .ref (aD G k0))]) hx hb dX6_total_3 rfl hl (by decide) rfl (fun ls hl => ?_)
  refine lv_aload_n hx hb dX6_total_4 rfl (lv_at hl 0 rfl) ?_
  refine va_alen (v := (Int32.ofNat (lnC k0))) hx hb hK hP k0 0 (wC_at G _ k0 hk0) rfl rfl dX6_total_5 ?_
  refine lv_istore_n (lv' := [(3, .int (Int32.ofNat (lnC k0))), (2, .ref (aD G k0)), (1, .int (0 : Int32)), (0, .ref (aD G k0))]) hx hb dX6_total_6 rfl hl (by decide) rfl (fun ls hl => ?_)
  refine lv_iconst (v := (0 : Int32)) hx hb dX6_total_7 (by decide) ?_
  refine lv_istore (lv' := [(4, .int (0 : Int32)), (3, .int (Int32.ofNat (lnC k0))), (2, .ref (aD G k0)), (1, .int (0 : Int32)), (0, .ref (aD G k0))]) hx hb dX6_total_8 hl (by decide) rfl (fun ls hl => ?_)
  exact J_10 (0 : Int32) (Int32.ofNat (lnC k0)) (0 : Int32) _ _ _ hP hD hS (lv_sub hl [3, 2, 1, 0] rfl) hE
abbrev rmX2_start : Room := { frames := 0, cells := 0, slots := 0, locals := 0 }

def f_X2_start (x1 : Int32) (σ : St) : Option Int32 := some ((jrem ((gI σ 4) + x1) (9 : Int32)) * (80 : Int32))
set_option maxHeartbeats 4000000 in
set_option maxRecDepth 100000 in
theorem c_X2_start (l : Launch) (G : EV)  (x1 : Int32) (σ : St) (r : Int32) (hE : f_X2_start x1 σ = some r) : MetI l G yX2_start wsX2_start rmX2_start [.ref (aD G 23), .int x1] (wC G σ) r (wC G σ) := by
  refine Met.of0 (Qf := PI G r (wC G σ)) (cc := cX2_start) (maxL := 2) (ret := (some .int)) (by decide) rfl (Nat.le_of_ble_eq_true rfl) ?_
  intro p e s m below meth c args A hx hb hr hts hown hlocks hml hin0 hA hS hP hK hD hX ls hl
  have hl : lv_has ls 2 [(0, .ref (aD G 23)), (1, .int x1)] := hl
  generalize hQ : MQ below (PI G r (wC G σ) A) args s 0 0 A = Q
  unfold f_X2_start at hE
  refine lv_aload_n hx hb dX2_start_0 rfl (lv_at hl 0 rfl) ?_
  refine va_get (ci := 2) (v := .int (gI σ 4)) (C := RX2) (T := TX2) (N := 3) hx hb hts (fun _ h => List.mem_cons_of_mem _ (List.mem_append_right _ h)) hown hK hP 23 rfl rfl 1 (by decide) (hts (.fieldLink RX2 15 "FillCells$History" "oldest" "I") (List.mem_of_getElem? (i := 1) rfl)) (fun _ h9 => h9) rfl dX2_start_1 ?_
  refine lv_iload_n hx hb dX2_start_4 rfl (lv_at hl 1 rfl) ?_
  refine lv_iadd hx hb dX2_start_5 ?_
  refine lv_bipush (v := (9 : Int32)) hx hb dX2_start_6 (by decide) ?_
  refine lv_irem hx hb dX2_start_8 (by decide) ?_
  refine lv_bipush (v := (80 : Int32)) hx hb dX2_start_9 (by decide) ?_
  refine lv_imul hx hb dX2_start_11 ?_
  rw [← hQ, ← Option.some.inj hE]
  exact ri hx hb hr hlocks hK hP hD hS dX2_start_12
abbrev rmX2_note : Room := { frames := 1, cells := 0, slots := 0, locals := 21 }
def f_X2_note_L11 (x2 : Int32) (v11 : Int32 × St) : Option (((St)) ⊕ (Int32 × St)) := if (80 : Int32) ≤ v11.1 then (some (.inl (v11.2))) else (bnd (f_X0_packed v11.1 v11.2) (fun r2 => gd (x2 + v11.1) 720 (some (.inr ((v11.1 + (1 : Int32)), (sA v11.2 15 (x2 + v11.1) r2))))))
def f_X2_note_J11 (x2 : Int32) (x3 : Int32) (σ : St) : Option St := bnd (loopN (f_X2_note_L11 x2) 4096 (x3, σ)) (fun y11 => some y11)
def f_X2_note (σ : St) : Option St := bnd (f_X2_start (gI σ 3) σ) (fun r1 => f_X2_note_J11 r1 (0 : Int32) σ)
set_option maxHeartbeats 4000000 in
set_option maxRecDepth 100000 in
theorem c_X2_note (l : Launch) (G : EV)   (σ : St) (r : St) (hE : f_X2_note σ = some r) : MetV l G yX2_note wsX2_note rmX2_note [.ref (aD G 23), .ref (aD G 19)] (wC G σ) (wC G r) := by
  refine Met.of0 (Qf := PV G (wC G r)) (cc := cX2_note) (maxL := 4) (ret := none) (by decide) rfl (Nat.le_of_ble_eq_true rfl) ?_
  intro p e s m below meth c args A hx hb hr hts hown hlocks hml hin0 hA hS hP hK hD hX ls hl
  have hl : lv_has ls 4 [(0, .ref (aD G 23)), (1, .ref (aD G 19))] := hl
  generalize hQ : MQ below (PV G (wC G r) A) args s 0 0 A = Q
  unfold f_X2_note at hE
  have J_11 : ∀ (x2 : Int32) (x3 : Int32) (σ : St) (H : Heap) (locs : List Loc) (ls : Array Slot), va_P G.1 vwCl (wC G σ) H → va_D A (wC G σ) → va_S A s.heap H locs → lv_has ls 4 [(0, .ref (aD G 23)), (1, .ref (aD G 19)), (2, .int x2), (3, .int x3)] → f_X2_note_J11 x2 x3 σ = some r → W p l e rmX2_note s m args below meth c H locs 0 0 Q (F0 m 11 ls []) := by
    intro x2 x3 σ H locs ls hP hD hS hl hE
    unfold f_X2_note_J11 at hE
    obtain ⟨y11, hL, hE11⟩ := bnd_some hE
    refine loop_W (body := f_X2_note_L11 x2) (y := y11) (P := fun v11 => ∀ (H : Heap) (locs : List Loc) (ls : Array Slot), va_P G.1 vwCl (wC G v11.2) H → va_D A (wC G v11.2) → va_S A s.heap H locs → lv_has ls 4 [(0, .ref (aD G 23)), (1, .ref (aD G 19)), (2, .int x2), (3, .int v11.1)] → W p l e rmX2_note s m args below meth c H locs 0 0 Q (F0 m 11 ls [])) ?_ _ _ hL H locs ls hP hD hS hl
    clear hP hD hS hl hE hL
    intro v11 t11 hE hN11 hY11
    intro H locs ls hP hD hS hl
    unfold f_X2_note_L11 at hE
    refine lv_iload_n hx hb dX2_note_11 rfl (lv_at hl 3 rfl) ?_
    refine lv_bipush (v := (80 : Int32)) hx hb dX2_note_12 (by decide) ?_
    refine lv_icmp_ge (tgt := 36) hx hb dX2_note_14 (by decide) (fun c_ => ?_) (fun c_ => ?_)
    · have hE := ip c_ hE
      have e9 := hY11 _ (Option.some.inj hE).symm
      have hE := hE11
      rw [← e9] at hE
      rw [← hQ, ← Option.some.inj hE]
      exact rv hx hb hr hlocks hK hP hD hS dX2_note_36
    · have hE := im c_ hE
      refine lv_aload_n hx hb dX2_note_17 rfl (lv_at hl 0 rfl) ?_
      refine va_get (ci := 2) (v := .ref (aD G 15)) (C := RX2) (T := TX2) (N := 3) hx hb hts (fun _ h => List.mem_cons_of_mem _ (List.mem_append_left _ (List.mem_append_right _ h))) hown hK hP 23 rfl rfl 2 (by decide) (hts (.fieldLink RX2 18 "FillCells$History" "fields" "[I") (List.mem_of_getElem? (i := 2) rfl)) (fun _ h9 => h9) rfl dX2_note_18 ?_
      refine lv_iload_n hx hb dX2_note_21 rfl (lv_at hl 2 rfl) ?_
      refine lv_iload_n hx hb dX2_note_22 rfl (lv_at hl 3 rfl) ?_
      refine lv_iadd hx hb dX2_note_23 ?_
      refine lv_aload_n hx hb dX2_note_24 rfl (lv_at hl 1 rfl) ?_
      refine lv_iload_n hx hb dX2_note_25 rfl (lv_at hl 3 rfl) ?_
      obtain ⟨r2, hC, hE⟩ := bnd_some hE
      refine ci (va_runV (As := [.int v11.1]) (rest := [.int (x2 + v11.1), .ref (aD G 15)]) ⟨hx, hb, hml, hown, hts⟩ (c_X0_packed l G v11.1 v11.2 r2 hC _) (cwV 1 hts gX2_note_X0_packed rfl rfl rfl (by decide +kernel) ⟨Nat.le_of_ble_eq_true rfl, Nat.le_of_ble_eq_true rfl⟩) (preV hK hP hD hS hA hX (va_recv hK hP (ci := 0) (q0 := 19) rfl rfl)) rfl rfl hl.1 rfl (lv_room (Nat.le_of_ble_eq_true rfl)) dX2_note_26 ⟨Nat.le_of_ble_eq_true rfl, Nat.le_of_ble_eq_true rfl⟩) hD hS hA (fun H locs hP hD hS => ?_)
      obtain ⟨h_i, hE⟩ := gd_some hE
      refine stC hx hb hK hP hD hS 15 (by decide) h_i dX2_note_29 (fun H locs hP hD hS => ?_)
      refine lv_iinc (v := (v11.1 + (1 : Int32))) (lv' := [(3, .int (v11.1 + (1 : Int32))), (0, .ref (aD G 23)), (1, .ref (aD G 19)), (2, .int x2)]) hx hb dX2_note_30 hl (k := 3) rfl rfl (by decide) rfl (fun ls hl => ?_)
      refine lv_goto (tgt := 11) hx hb dX2_note_33 (by decide) ?_
      exact hN11 _ (Option.some.inj hE).symm _ _ _ hP hD hS (lv_sub hl [1, 2, 3, 0] rfl)
  refine lv_aload_n hx hb dX2_note_0 rfl (lv_at hl 0 rfl) ?_
  refine lv_aload_n hx hb dX2_note_1 rfl (lv_at hl 0 rfl) ?_
  refine va_get (ci := 2) (v := .int (gI σ 3)) (C := RX2) (T := TX2) (N := 3) hx hb hts (fun _ h => List.mem_cons_of_mem _ (List.mem_append_left _ (List.mem_append_right _ h))) hown hK hP 23 rfl rfl 0 (by decide) (hts (.fieldLink RX2 9 "FillCells$History" "kept" "I") (List.mem_of_getElem? (i := 1) rfl)) (fun _ h9 => h9) rfl dX2_note_2 ?_
  obtain ⟨r1, hC, hE⟩ := bnd_some hE
  refine ci (va_runV (As := [.int (gI σ 3)]) (rest := []) ⟨hx, hb, hml, hown, hts⟩ (c_X2_start l G (gI σ 3) σ r1 hC _) (cwV 1 hts gX2_note_X2_start rfl rfl rfl (by decide +kernel) ⟨Nat.le_of_ble_eq_true rfl, Nat.le_of_ble_eq_true rfl⟩) (preV hK hP hD hS hA hX (va_recv hK hP (ci := 2) (q0 := 23) rfl rfl)) rfl rfl hl.1 rfl (lv_room (Nat.le_of_ble_eq_true rfl)) dX2_note_5 ⟨Nat.le_of_ble_eq_true rfl, Nat.le_of_ble_eq_true rfl⟩) hD hS hA (fun H locs hP hD hS => ?_)
  refine lv_istore_n (lv' := [(2, .int r1), (0, .ref (aD G 23)), (1, .ref (aD G 19))]) hx hb dX2_note_8 rfl hl (by decide) rfl (fun ls hl => ?_)
  refine lv_iconst (v := (0 : Int32)) hx hb dX2_note_9 (by decide) ?_
  refine lv_istore_n (lv' := [(3, .int (0 : Int32)), (2, .int r1), (0, .ref (aD G 23)), (1, .ref (aD G 19))]) hx hb dX2_note_10 rfl hl (by decide) rfl (fun ls hl => ?_)
  exact J_11 r1 (0 : Int32) σ _ _ _ hP hD hS (lv_sub hl [2, 3, 1, 0] rfl) hE
abbrev rmX2_keep : Room := { frames := 0, cells := 0, slots := 0, locals := 0 }

def f_X2_keep (σ : St) : Option St := if (8 : Int32) ≤ (gI σ 3) then (some (sI σ 4 (jrem ((gI σ 4) + (1 : Int32)) (9 : Int32)))) else (some (sI σ 3 ((gI σ 3) + (1 : Int32))))
set_option maxHeartbeats 4000000 in
set_option maxRecDepth 100000 in
theorem c_X2_keep (l : Launch) (G : EV)   (σ : St) (r : St) (hE : f_X2_keep σ = some r) : MetV l G yX2_keep wsX2_keep rmX2_keep [.ref (aD G 23)] (wC G σ) (wC G r) := by
  refine Met.of0 (Qf := PV G (wC G r)) (cc := cX2_keep) (maxL := 1) (ret := none) (by decide) rfl (Nat.le_of_ble_eq_true rfl) ?_
  intro p e s m below meth c args A hx hb hr hts hown hlocks hml hin0 hA hS hP hK hD hX ls hl
  have hl : lv_has ls 1 [(0, .ref (aD G 23))] := hl
  generalize hQ : MQ below (PV G (wC G r) A) args s 0 0 A = Q
  unfold f_X2_keep at hE
  refine lv_aload_n hx hb dX2_keep_0 rfl (lv_at hl 0 rfl) ?_
  refine va_get (ci := 2) (v := .int (gI σ 3)) (C := RX2) (T := TX2) (N := 3) hx hb hts (fun _ h => List.mem_cons_of_mem _ (List.mem_append_right _ h)) hown hK hP 23 rfl rfl 0 (by decide) (hts (.fieldLink RX2 9 "FillCells$History" "kept" "I") (List.mem_of_getElem? (i := 1) rfl)) (fun _ h9 => h9) rfl dX2_keep_1 ?_
  refine lv_bipush (v := (8 : Int32)) hx hb dX2_keep_4 (by decide) ?_
  refine lv_icmp_ge (tgt := 22) hx hb dX2_keep_6 (by decide) (fun c_ => ?_) (fun c_ => ?_)
  · have hE := ip c_ hE
    refine lv_aload_n hx hb dX2_keep_22 rfl (lv_at hl 0 rfl) ?_
    refine lv_aload_n hx hb dX2_keep_23 rfl (lv_at hl 0 rfl) ?_
    refine va_get (ci := 2) (v := .int (gI σ 4)) (C := RX2) (T := TX2) (N := 3) hx hb hts (fun _ h => List.mem_cons_of_mem _ (List.mem_append_right _ h)) hown hK hP 23 rfl rfl 1 (by decide) (hts (.fieldLink RX2 15 "FillCells$History" "oldest" "I") (List.mem_of_getElem? (i := 2) rfl)) (fun _ h9 => h9) rfl dX2_keep_24 ?_
    refine lv_iconst (v := (1 : Int32)) hx hb dX2_keep_27 (by decide) ?_
    refine lv_iadd hx hb dX2_keep_28 ?_
    refine lv_bipush (v := (9 : Int32)) hx hb dX2_keep_29 (by decide) ?_
    refine lv_irem hx hb dX2_keep_31 (by decide) ?_
    refine va_put (ci := 2) (v := .int (jrem ((gI σ 4) + (1 : Int32)) (9 : Int32))) (ty := .int) (C := RX2) (T := TX2) (N := 3) hx hb hts (fun _ h => List.mem_cons_of_mem _ (List.mem_append_right _ h)) tyX2 tyX2_ok nmX2 hown hK hP hD hS 23 rfl rfl 1 (by decide) (hts (.fieldLink RX2 15 "FillCells$History" "oldest" "I") (List.mem_of_getElem? (i := 2) rfl)) (fun _ h9 => h9) rfl (by decide +kernel) rfl rfl (Nat.le_of_ble_eq_true rfl) dX2_keep_32 (fun H locs hP hD hS => ?_)
    have hP : va_P G.1 vwCl (wC G (sI σ 4 (jrem ((gI σ 4) + (1 : Int32)) (9 : Int32)))) H := hP
    have hD : va_D A (wC G (sI σ 4 (jrem ((gI σ 4) + (1 : Int32)) (9 : Int32)))) := hD
    rw [← hQ, ← Option.some.inj hE]
    exact rv hx hb hr hlocks hK hP hD hS dX2_keep_35
  · have hE := im c_ hE
    refine lv_aload_n hx hb dX2_keep_9 rfl (lv_at hl 0 rfl) ?_
    refine lv_dup hx hb dX2_keep_10 rfl ?_
    refine va_get (ci := 2) (v := .int (gI σ 3)) (C := RX2) (T := TX2) (N := 3) hx hb hts (fun _ h => List.mem_cons_of_mem _ (List.mem_append_right _ h)) hown hK hP 23 rfl rfl 0 (by decide) (hts (.fieldLink RX2 9 "FillCells$History" "kept" "I") (List.mem_of_getElem? (i := 1) rfl)) (fun _ h9 => h9) rfl dX2_keep_11 ?_
    refine lv_iconst (v := (1 : Int32)) hx hb dX2_keep_14 (by decide) ?_
    refine lv_iadd hx hb dX2_keep_15 ?_
    refine va_put (ci := 2) (v := .int ((gI σ 3) + (1 : Int32))) (ty := .int) (C := RX2) (T := TX2) (N := 3) hx hb hts (fun _ h => List.mem_cons_of_mem _ (List.mem_append_right _ h)) tyX2 tyX2_ok nmX2 hown hK hP hD hS 23 rfl rfl 0 (by decide) (hts (.fieldLink RX2 9 "FillCells$History" "kept" "I") (List.mem_of_getElem? (i := 1) rfl)) (fun _ h9 => h9) rfl (by decide +kernel) rfl rfl (Nat.le_of_ble_eq_true rfl) dX2_keep_16 (fun H locs hP hD hS => ?_)
    have hP : va_P G.1 vwCl (wC G (sI σ 3 ((gI σ 3) + (1 : Int32)))) H := hP
    have hD : va_D A (wC G (sI σ 3 ((gI σ 3) + (1 : Int32)))) := hD
    refine lv_goto (tgt := 35) hx hb dX2_keep_19 (by decide) ?_
    rw [← hQ, ← Option.some.inj hE]
    exact rv hx hb hr hlocks hK hP hD hS dX2_keep_35
abbrev rmX2_takeBack : Room := { frames := 1, cells := 0, slots := 0, locals := 22 }
def f_X2_takeBack_J53 (σ : St) : Option St := some σ
def f_X2_takeBack_L28 (x2 : Int32) (v28 : Int32 × St) : Option (((St)) ⊕ (Int32 × St)) := if (80 : Int32) ≤ v28.1 then (some (.inl (v28.2))) else (gd (x2 + v28.1) 720 (bnd (f_X0_unpack v28.1 (rd v28.2 15 (x2 + v28.1)) v28.2) (fun r2 => some (.inr ((v28.1 + (1 : Int32)), r2)))))
def f_X2_takeBack_J28 (x2 : Int32) (x3 : Int32) (σ : St) : Option St := bnd (loopN (f_X2_takeBack_L28 x2) 4096 (x3, σ)) (fun y28 => some y28)
def f_X2_takeBack (σ : St) : Option St := if (gI σ 3) ≤ 0 then (f_X2_takeBack_J53 σ) else (bnd (f_X2_start (gI (sI σ 3 ((gI σ 3) - (1 : Int32))) 3) (sI σ 3 ((gI σ 3) - (1 : Int32)))) (fun r1 => f_X2_takeBack_J28 r1 (0 : Int32) (sI σ 3 ((gI σ 3) - (1 : Int32)))))
set_option maxHeartbeats 4000000 in
set_option maxRecDepth 100000 in
theorem c_X2_takeBack (l : Launch) (G : EV)   (σ : St) (r : St) (hE : f_X2_takeBack σ = some r) : MetV l G yX2_takeBack wsX2_takeBack rmX2_takeBack [.ref (aD G 23), .ref (aD G 19)] (wC G σ) (wC G r) := by
  refine Met.of0 (Qf := PV G (wC G r)) (cc := cX2_takeBack) (maxL := 4) (ret := none) (by decide) rfl (Nat.le_of_ble_eq_true rfl) ?_
  intro p e s m below meth c args A hx hb hr hts hown hlocks hml hin0 hA hS hP hK hD hX ls hl
  have hl : lv_has ls 4 [(0, .ref (aD G 23)), (1, .ref (aD G 19))] := hl
  generalize hQ : MQ below (PV G (wC G r) A) args s 0 0 A = Q
  unfold f_X2_takeBack at hE
  have J_53 : ∀ (σ : St) (H : Heap) (locs : List Loc) (ls : Array Slot), va_P G.1 vwCl (wC G σ) H → va_D A (wC G σ) → va_S A s.heap H locs → lv_has ls 4 [] → f_X2_takeBack_J53 σ = some r → W p l e rmX2_takeBack s m args below meth c H locs 0 0 Q (F0 m 53 ls []) := by
    intro σ H locs ls hP hD hS hl hE
    unfold f_X2_takeBack_J53 at hE
    rw [← hQ, ← Option.some.inj hE]
    exact rv hx hb hr hlocks hK hP hD hS dX2_takeBack_53
  have J_28 : ∀ (x2 : Int32) (x3 : Int32) (σ : St) (H : Heap) (locs : List Loc) (ls : Array Slot), va_P G.1 vwCl (wC G σ) H → va_D A (wC G σ) → va_S A s.heap H locs → lv_has ls 4 [(0, .ref (aD G 23)), (1, .ref (aD G 19)), (2, .int x2), (3, .int x3)] → f_X2_takeBack_J28 x2 x3 σ = some r → W p l e rmX2_takeBack s m args below meth c H locs 0 0 Q (F0 m 28 ls []) := by
    intro x2 x3 σ H locs ls hP hD hS hl hE
    unfold f_X2_takeBack_J28 at hE
    obtain ⟨y28, hL, hE28⟩ := bnd_some hE
    refine loop_W (body := f_X2_takeBack_L28 x2) (y := y28) (P := fun v28 => ∀ (H : Heap) (locs : List Loc) (ls : Array Slot), va_P G.1 vwCl (wC G v28.2) H → va_D A (wC G v28.2) → va_S A s.heap H locs → lv_has ls 4 [(0, .ref (aD G 23)), (1, .ref (aD G 19)), (2, .int x2), (3, .int v28.1)] → W p l e rmX2_takeBack s m args below meth c H locs 0 0 Q (F0 m 28 ls [])) ?_ _ _ hL H locs ls hP hD hS hl
    clear hP hD hS hl hE hL
    intro v28 t28 hE hN28 hY28
    intro H locs ls hP hD hS hl
    unfold f_X2_takeBack_L28 at hE
    refine lv_iload_n hx hb dX2_takeBack_28 rfl (lv_at hl 3 rfl) ?_
    refine lv_bipush (v := (80 : Int32)) hx hb dX2_takeBack_29 (by decide) ?_
    refine lv_icmp_ge (tgt := 53) hx hb dX2_takeBack_31 (by decide) (fun c_ => ?_) (fun c_ => ?_)
    · have hE := ip c_ hE
      have e9 := hY28 _ (Option.some.inj hE).symm
      have hE := hE28
      rw [← e9] at hE
      rw [← hQ, ← Option.some.inj hE]
      exact rv hx hb hr hlocks hK hP hD hS dX2_takeBack_53
    · have hE := im c_ hE
      refine lv_aload_n hx hb dX2_takeBack_34 rfl (lv_at hl 1 rfl) ?_
      refine lv_iload_n hx hb dX2_takeBack_35 rfl (lv_at hl 3 rfl) ?_
      refine lv_aload_n hx hb dX2_takeBack_36 rfl (lv_at hl 0 rfl) ?_
      refine va_get (ci := 2) (v := .ref (aD G 15)) (C := RX2) (T := TX2) (N := 3) hx hb hts (fun _ h => List.mem_cons_of_mem _ (List.mem_append_left _ (List.mem_append_right _ h))) hown hK hP 23 rfl rfl 2 (by decide) (hts (.fieldLink RX2 18 "FillCells$History" "fields" "[I") (List.mem_of_getElem? (i := 2) rfl)) (fun _ h9 => h9) rfl dX2_takeBack_37 ?_
      refine lv_iload_n hx hb dX2_takeBack_40 rfl (lv_at hl 2 rfl) ?_
      refine lv_iload_n hx hb dX2_takeBack_41 rfl (lv_at hl 3 rfl) ?_
      refine lv_iadd hx hb dX2_takeBack_42 ?_
      obtain ⟨h_i, hE⟩ := gd_some hE
      refine ldC hx hb hK hP 15 (by decide) h_i dX2_takeBack_43 ?_
      obtain ⟨r2, hC, hE⟩ := bnd_some hE
      refine cv (va_runV (As := [.int v28.1, .int (rd v28.2 15 (x2 + v28.1))]) (rest := []) ⟨hx, hb, hml, hown, hts⟩ (c_X0_unpack l G v28.1 (rd v28.2 15 (x2 + v28.1)) v28.2 r2 hC _) (cwV 2 hts gX2_takeBack_X0_unpack rfl rfl rfl (by decide +kernel) ⟨Nat.le_of_ble_eq_true rfl, Nat.le_of_ble_eq_true rfl⟩) (preV hK hP hD hS hA hX (va_recv hK hP (ci := 0) (q0 := 19) rfl rfl)) rfl rfl hl.1 rfl (lv_room (Nat.le_of_ble_eq_true rfl)) dX2_takeBack_44 ⟨Nat.le_of_ble_eq_true rfl, Nat.le_of_ble_eq_true rfl⟩) hD hS hA (fun H locs hP hD hS => ?_)
      refine lv_iinc (v := (v28.1 + (1 : Int32))) (lv' := [(3, .int (v28.1 + (1 : Int32))), (0, .ref (aD G 23)), (1, .ref (aD G 19)), (2, .int x2)]) hx hb dX2_takeBack_47 hl (k := 3) rfl rfl (by decide) rfl (fun ls hl => ?_)
      refine lv_goto (tgt := 28) hx hb dX2_takeBack_50 (by decide) ?_
      exact hN28 _ (Option.some.inj hE).symm _ _ _ hP hD hS (lv_sub hl [1, 2, 3, 0] rfl)
  refine lv_aload_n hx hb dX2_takeBack_0 rfl (lv_at hl 0 rfl) ?_
  refine va_get (ci := 2) (v := .int (gI σ 3)) (C := RX2) (T := TX2) (N := 3) hx hb hts (fun _ h => List.mem_cons_of_mem _ (List.mem_append_left _ (List.mem_append_right _ h))) hown hK hP 23 rfl rfl 0 (by decide) (hts (.fieldLink RX2 9 "FillCells$History" "kept" "I") (List.mem_of_getElem? (i := 1) rfl)) (fun _ h9 => h9) rfl dX2_takeBack_1 ?_
  refine lv_if_le (tgt := 53) hx hb dX2_takeBack_4 (by decide) (fun c_ => ?_) (fun c_ => ?_)
  · have hE := ip c_ hE
    exact J_53 σ _ _ _ hP hD hS (lv_sub hl [] rfl) hE
  · have hE := im c_ hE
    refine lv_aload_n hx hb dX2_takeBack_7 rfl (lv_at hl 0 rfl) ?_
    refine lv_dup hx hb dX2_takeBack_8 rfl ?_
    refine va_get (ci := 2) (v := .int (gI σ 3)) (C := RX2) (T := TX2) (N := 3) hx hb hts (fun _ h => List.mem_cons_of_mem _ (List.mem_append_left _ (List.mem_append_right _ h))) hown hK hP 23 rfl rfl 0 (by decide) (hts (.fieldLink RX2 9 "FillCells$History" "kept" "I") (List.mem_of_getElem? (i := 1) rfl)) (fun _ h9 => h9) rfl dX2_takeBack_9 ?_
    refine lv_iconst (v := (1 : Int32)) hx hb dX2_takeBack_12 (by decide) ?_
    refine lv_isub hx hb dX2_takeBack_13 ?_
    refine va_put (ci := 2) (v := .int ((gI σ 3) - (1 : Int32))) (ty := .int) (C := RX2) (T := TX2) (N := 3) hx hb hts (fun _ h => List.mem_cons_of_mem _ (List.mem_append_left _ (List.mem_append_right _ h))) tyX2 tyX2_ok nmX2 hown hK hP hD hS 23 rfl rfl 0 (by decide) (hts (.fieldLink RX2 9 "FillCells$History" "kept" "I") (List.mem_of_getElem? (i := 1) rfl)) (fun _ h9 => h9) rfl (by decide +kernel) rfl rfl (Nat.le_of_ble_eq_true rfl) dX2_takeBack_14 (fun H locs hP hD hS => ?_)
    have hP : va_P G.1 vwCl (wC G (sI σ 3 ((gI σ 3) - (1 : Int32)))) H := hP
    have hD : va_D A (wC G (sI σ 3 ((gI σ 3) - (1 : Int32)))) := hD
    refine lv_aload_n hx hb dX2_takeBack_17 rfl (lv_at hl 0 rfl) ?_
    refine lv_aload_n hx hb dX2_takeBack_18 rfl (lv_at hl 0 rfl) ?_
    refine va_get (ci := 2) (v := .int (gI (sI σ 3 ((gI σ 3) - (1 : Int32))) 3)) (C := RX2) (T := TX2) (N := 3) hx hb hts (fun _ h => List.mem_cons_of_mem _ (List.mem_append_left _ (List.mem_append_right _ h))) hown hK hP 23 rfl rfl 0 (by decide) (hts (.fieldLink RX2 9 "FillCells$History" "kept" "I") (List.mem_of_getElem? (i := 1) rfl)) (fun _ h9 => h9) rfl dX2_takeBack_19 ?_
    obtain ⟨r1, hC, hE⟩ := bnd_some hE
    refine ci (va_runV (As := [.int (gI (sI σ 3 ((gI σ 3) - (1 : Int32))) 3)]) (rest := []) ⟨hx, hb, hml, hown, hts⟩ (c_X2_start l G (gI (sI σ 3 ((gI σ 3) - (1 : Int32))) 3) (sI σ 3 ((gI σ 3) - (1 : Int32))) r1 hC _) (cwV 1 hts gX2_takeBack_X2_start rfl rfl rfl (by decide +kernel) ⟨Nat.le_of_ble_eq_true rfl, Nat.le_of_ble_eq_true rfl⟩) (preV hK hP hD hS hA hX (va_recv hK hP (ci := 2) (q0 := 23) rfl rfl)) rfl rfl hl.1 rfl (lv_room (Nat.le_of_ble_eq_true rfl)) dX2_takeBack_22 ⟨Nat.le_of_ble_eq_true rfl, Nat.le_of_ble_eq_true rfl⟩) hD hS hA (fun H locs hP hD hS => ?_)
    refine lv_istore_n (lv' := [(2, .int r1), (0, .ref (aD G 23)), (1, .ref (aD G 19))]) hx hb dX2_takeBack_25 rfl hl (by decide) rfl (fun ls hl => ?_)
    refine lv_iconst (v := (0 : Int32)) hx hb dX2_takeBack_26 (by decide) ?_
    refine lv_istore_n (lv' := [(3, .int (0 : Int32)), (2, .int r1), (0, .ref (aD G 23)), (1, .ref (aD G 19))]) hx hb dX2_takeBack_27 rfl hl (by decide) rfl (fun ls hl => ?_)
    exact J_28 r1 (0 : Int32) (sI σ 3 ((gI σ 3) - (1 : Int32))) _ _ _ hP hD hS (lv_sub hl [2, 3, 1, 0] rfl) hE
abbrev rmX4_append : Room := { frames := 0, cells := 0, slots := 0, locals := 0 }

def f_X4_append (x1 : Int32) (σ : St) : Option St := if (120 : Int32) ≤ (gI σ 5) then (some σ) else (gd (gI σ 5) 120 (some (sI (sA σ 16 (gI σ 5) x1) 5 ((gI (sA σ 16 (gI σ 5) x1) 5) + (1 : Int32)))))
set_option maxHeartbeats 4000000 in
set_option maxRecDepth 100000 in
theorem c_X4_append (l : Launch) (G : EV)  (x1 : Int32) (σ : St) (r : St) (hE : f_X4_append x1 σ = some r) : MetV l G yX4_append wsX4_append rmX4_append [.ref (aD G 24), .int x1] (wC G σ) (wC G r) := by
  refine Met.of0 (Qf := PV G (wC G r)) (cc := cX4_append) (maxL := 2) (ret := none) (by decide) rfl (Nat.le_of_ble_eq_true rfl) ?_
  intro p e s m below meth c args A hx hb hr hts hown hlocks hml hin0 hA hS hP hK hD hX ls hl
  have hl : lv_has ls 2 [(0, .ref (aD G 24)), (1, .int x1)] := hl
  generalize hQ : MQ below (PV G (wC G r) A) args s 0 0 A = Q
  unfold f_X4_append at hE
  refine lv_aload_n hx hb dX4_append_0 rfl (lv_at hl 0 rfl) ?_
  refine va_get (ci := 4) (v := .int (gI σ 5)) (C := RX4) (T := TX4) (N := 2) hx hb hts (fun _ h => List.mem_cons_of_mem _ (List.mem_append_right _ h)) hown hK hP 24 rfl rfl 0 (by decide) (hts (.fieldLink RX4 9 "FillCells$Text" "length" "I") (List.mem_of_getElem? (i := 1) rfl)) (fun _ h9 => h9) rfl dX4_append_1 ?_
  refine lv_bipush (v := (120 : Int32)) hx hb dX4_append_4 (by decide) ?_
  refine lv_icmp_ge (tgt := 29) hx hb dX4_append_6 (by decide) (fun c_ => ?_) (fun c_ => ?_)
  · have hE := ip c_ hE
    rw [← hQ, ← Option.some.inj hE]
    exact rv hx hb hr hlocks hK hP hD hS dX4_append_29
  · have hE := im c_ hE
    refine lv_aload_n hx hb dX4_append_9 rfl (lv_at hl 0 rfl) ?_
    refine va_get (ci := 4) (v := .ref (aD G 16)) (C := RX4) (T := TX4) (N := 2) hx hb hts (fun _ h => List.mem_cons_of_mem _ (List.mem_append_right _ h)) hown hK hP 24 rfl rfl 1 (by decide) (hts (.fieldLink RX4 15 "FillCells$Text" "bytes" "[I") (List.mem_of_getElem? (i := 2) rfl)) (fun _ h9 => h9) rfl dX4_append_10 ?_
    refine lv_aload_n hx hb dX4_append_13 rfl (lv_at hl 0 rfl) ?_
    refine va_get (ci := 4) (v := .int (gI σ 5)) (C := RX4) (T := TX4) (N := 2) hx hb hts (fun _ h => List.mem_cons_of_mem _ (List.mem_append_right _ h)) hown hK hP 24 rfl rfl 0 (by decide) (hts (.fieldLink RX4 9 "FillCells$Text" "length" "I") (List.mem_of_getElem? (i := 1) rfl)) (fun _ h9 => h9) rfl dX4_append_14 ?_
    refine lv_iload_n hx hb dX4_append_17 rfl (lv_at hl 1 rfl) ?_
    obtain ⟨h_i, hE⟩ := gd_some hE
    refine stC hx hb hK hP hD hS 16 (by decide) h_i dX4_append_18 (fun H locs hP hD hS => ?_)
    refine lv_aload_n hx hb dX4_append_19 rfl (lv_at hl 0 rfl) ?_
    refine lv_dup hx hb dX4_append_20 rfl ?_
    refine va_get (ci := 4) (v := .int (gI (sA σ 16 (gI σ 5) x1) 5)) (C := RX4) (T := TX4) (N := 2) hx hb hts (fun _ h => List.mem_cons_of_mem _ (List.mem_append_right _ h)) hown hK hP 24 rfl rfl 0 (by decide) (hts (.fieldLink RX4 9 "FillCells$Text" "length" "I") (List.mem_of_getElem? (i := 1) rfl)) (fun _ h9 => h9) rfl dX4_append_21 ?_
    refine lv_iconst (v := (1 : Int32)) hx hb dX4_append_24 (by decide) ?_
    refine lv_iadd hx hb dX4_append_25 ?_
    refine va_put (ci := 4) (v := .int ((gI (sA σ 16 (gI σ 5) x1) 5) + (1 : Int32))) (ty := .int) (C := RX4) (T := TX4) (N := 2) hx hb hts (fun _ h => List.mem_cons_of_mem _ (List.mem_append_right _ h)) tyX4 tyX4_ok nmX4 hown hK hP hD hS 24 rfl rfl 0 (by decide) (hts (.fieldLink RX4 9 "FillCells$Text" "length" "I") (List.mem_of_getElem? (i := 1) rfl)) (fun _ h9 => h9) rfl (by decide +kernel) rfl rfl (Nat.le_of_ble_eq_true rfl) dX4_append_26 (fun H locs hP hD hS => ?_)
    have hP : va_P G.1 vwCl (wC G (sI (sA σ 16 (gI σ 5) x1) 5 ((gI (sA σ 16 (gI σ 5) x1) 5) + (1 : Int32)))) H := hP
    have hD : va_D A (wC G (sI (sA σ 16 (gI σ 5) x1) 5 ((gI (sA σ 16 (gI σ 5) x1) 5) + (1 : Int32)))) := hD
    rw [← hQ, ← Option.some.inj hE]
    exact rv hx hb hr hlocks hK hP hD hS dX4_append_29
abbrev rmX4_isSign : Room := { frames := 0, cells := 0, slots := 0, locals := 0 }
def f_X4_isSign_J24  : Option Int32 := some (1 : Int32)
def f_X4_isSign_J12 (x0 : Int32) : Option Int32 := if x0 = (35 : Int32) then (f_X4_isSign_J24 ) else (if x0 = (46 : Int32) then (f_X4_isSign_J24 ) else (some (0 : Int32)))
def f_X4_isSign (x0 : Int32) : Option Int32 := if x0 < (48 : Int32) then (f_X4_isSign_J12 x0) else (if x0 ≤ (57 : Int32) then (f_X4_isSign_J24 ) else (f_X4_isSign_J12 x0))
set_option maxHeartbeats 4000000 in
set_option maxRecDepth 100000 in
theorem c_X4_isSign (l : Launch) (G : EV)  (x0 : Int32) (σ : St) (r : Int32) (hE : f_X4_isSign x0 = some r) : MetI l G yX4_isSign wsX4_isSign rmX4_isSign [.int x0] (wC G σ) r (wC G σ) := by
  refine Met.of0 (Qf := PI G r (wC G σ)) (cc := cX4_isSign) (maxL := 1) (ret := (some .boolean)) (by decide) rfl (Nat.le_of_ble_eq_true rfl) ?_
  intro p e s m below meth c args A hx hb hr hts hown hlocks hml hin0 hA hS hP hK hD hX ls hl
  have hl : lv_has ls 1 [(0, .int x0)] := hl
  generalize hQ : MQ below (PI G r (wC G σ) A) args s 0 0 A = Q
  unfold f_X4_isSign at hE
  have J_24 : ∀ (H : Heap) (locs : List Loc) (ls : Array Slot), va_P G.1 vwCl (wC G σ) H → va_D A (wC G σ) → va_S A s.heap H locs → lv_has ls 1 [] → f_X4_isSign_J24  = some r → W p l e rmX4_isSign s m args below meth c H locs 0 0 Q (F0 m 24 ls []) := by
    intro  H locs ls hP hD hS hl hE
    unfold f_X4_isSign_J24 at hE
    refine lv_iconst (v := (1 : Int32)) hx hb dX4_isSign_24 (by decide) ?_
    refine lv_goto (tgt := 29) hx hb dX4_isSign_25 (by decide) ?_
    rw [← hQ, ← Option.some.inj hE]
    exact rz (v := (1 : Int32)) hx hb hr hlocks hK hP hD hS rfl dX4_isSign_29
  have J_12 : ∀ (H : Heap) (locs : List Loc) (ls : Array Slot), va_P G.1 vwCl (wC G σ) H → va_D A (wC G σ) → va_S A s.heap H locs → lv_has ls 1 [(0, .int x0)] → f_X4_isSign_J12 x0 = some r → W p l e rmX4_isSign s m args below meth c H locs 0 0 Q (F0 m 12 ls []) := by
    intro  H locs ls hP hD hS hl hE
    unfold f_X4_isSign_J12 at hE
    refine lv_iload_n hx hb dX4_isSign_12 rfl (lv_at hl 0 rfl) ?_
    refine lv_bipush (v := (35 : Int32)) hx hb dX4_isSign_13 (by decide) ?_
    refine lv_icmp_eq (tgt := 24) hx hb dX4_isSign_15 (by decide) (fun c_ => ?_) (fun c_ => ?_)
    · have hE := ip c_ hE
      exact J_24  _ _ _ hP hD hS (lv_sub hl [] rfl) hE
    · have hE := im c_ hE
      refine lv_iload_n hx hb dX4_isSign_18 rfl (lv_at hl 0 rfl) ?_
      refine lv_bipush (v := (46 : Int32)) hx hb dX4_isSign_19 (by decide) ?_
      refine lv_icmp_ne (tgt := 28) hx hb dX4_isSign_21 (by decide) (fun c_ => ?_) (fun c_ => ?_)
      · have hE := im c_ hE
        refine lv_iconst (v := (0 : Int32)) hx hb dX4_isSign_28 (by decide) ?_
        rw [← hQ, ← Option.some.inj hE]
        exact rz (v := (0 : Int32)) hx hb hr hlocks hK hP hD hS rfl dX4_isSign_29
      · have hE := ip c_ hE
        exact J_24  _ _ _ hP hD hS (lv_sub hl [] rfl) hE
  refine lv_iload_n hx hb dX4_isSign_0 rfl (lv_at hl 0 rfl) ?_
  refine lv_bipush (v := (48 : Int32)) hx hb dX4_isSign_1 (by decide) ?_
  refine lv_icmp_lt (tgt := 12) hx hb dX4_isSign_3 (by decide) (fun c_ => ?_) (fun c_ => ?_)
  · have hE := ip c_ hE
    exact J_12  _ _ _ hP hD hS (lv_sub hl [0] rfl) hE
  · have hE := im c_ hE
    refine lv_iload_n hx hb dX4_isSign_6 rfl (lv_at hl 0 rfl) ?_
    refine lv_bipush (v := (57 : Int32)) hx hb dX4_isSign_7 (by decide) ?_
    refine lv_icmp_le (tgt := 24) hx hb dX4_isSign_9 (by decide) (fun c_ => ?_) (fun c_ => ?_)
    · have hE := ip c_ hE
      exact J_24  _ _ _ hP hD hS (lv_sub hl [] rfl) hE
    · have hE := im c_ hE
      exact J_12  _ _ _ hP hD hS (lv_sub hl [0] rfl) hE
abbrev rmX4_fault : Room := { frames := 1, cells := 0, slots := 0, locals := 20 }
def f_X4_fault_J121 (σ : St) : Option Int32 := some (gI σ 5)
def f_X4_fault_J113 (x1 : Int32) (x2 : Int32) (σ : St) : Option Int32 := if x1 = 0 then (if x2 = 0 then (f_X4_fault_J121 σ) else (some (-1 : Int32))) else (f_X4_fault_J121 σ)
def f_X4_fault_J84 (x1 : Int32) (x2 : Int32) (x3 : Int32) (x4 : Int32) (x5 : Int32) (σ : St) : Option (((Int32 ⊕ (Int32 × Int32))) ⊕ (Int32 × Int32 × Int32 × Int32)) := bnd (f_X4_isSign x5) (fun r1 => if r1 = 0 then (some (.inl (.inl x4))) else (if (10 : Int32) ≤ x3 then (some (.inl (.inl x4))) else (some (.inr (x1, x2, (x3 + (1 : Int32)), (x4 + (1 : Int32)))))))
def f_X4_fault_L9 (σ : St) (v9 : Int32 × Int32 × Int32 × Int32) : Option (((Int32 ⊕ (Int32 × Int32))) ⊕ (Int32 × Int32 × Int32 × Int32)) := if (gI σ 5) ≤ v9.2.2.2 then (some (.inl (.inr (v9.1, v9.2.1)))) else (gd v9.2.2.2 120 (if (rd σ 16 v9.2.2.2) = (32 : Int32) then (some (.inr (v9.1, v9.2.1, v9.2.2.1, (v9.2.2.2 + (1 : Int32))))) else (if v9.1 = 0 then (if (rd σ 16 v9.2.2.2) < (48 : Int32) then (some (.inl (.inl v9.2.2.2))) else (if (rd σ 16 v9.2.2.2) ≤ (55 : Int32) then (some (.inr ((1 : Int32), v9.2.1, (0 : Int32), (v9.2.2.2 + (1 : Int32))))) else (some (.inl (.inl v9.2.2.2))))) else (if (rd σ 16 v9.2.2.2) = (59 : Int32) then (if v9.2.2.1 ≤ 0 then (f_X4_fault_J84 v9.1 v9.2.1 v9.2.2.1 v9.2.2.2 (rd σ 16 v9.2.2.2) σ) else (some (.inr ((0 : Int32), (v9.2.1 + (1 : Int32)), v9.2.2.1, (v9.2.2.2 + (1 : Int32)))))) else (f_X4_fault_J84 v9.1 v9.2.1 v9.2.2.1 v9.2.2.2 (rd σ 16 v9.2.2.2) σ)))))
def f_X4_fault_J9 (x1 : Int32) (x2 : Int32) (x3 : Int32) (x4 : Int32) (σ : St) : Option Int32 := bnd (loopN (f_X4_fault_L9 σ) 4096 (x1, x2, x3, x4)) (fun y9 => ear (fun q => q) y9 (fun y9 => f_X4_fault_J113 y9.1 y9.2 σ))
def f_X4_fault (σ : St) : Option Int32 := f_X4_fault_J9 (0 : Int32) (0 : Int32) (0 : Int32) (0 : Int32) σ
set_option maxHeartbeats 4000000 in
set_option maxRecDepth 100000 in
theorem c_X4_fault (l : Launch) (G : EV)   (σ : St) (r : Int32) (hE : f_X4_fault σ = some r) : MetI l G yX4_fault wsX4_fault rmX4_fault [.ref (aD G 24)] (wC G σ) r (wC G σ) := by
  refine Met.of0 (Qf := PI G r (wC G σ)) (cc := cX4_fault) (maxL := 6) (ret := (some .int)) (by decide) rfl (Nat.le_of_ble_eq_true rfl) ?_
  intro p e s m below meth c args A hx hb hr hts hown hlocks hml hin0 hA hS hP hK hD hX ls hl
  have hl : lv_has ls 6 [(0, .ref (aD G 24))] := hl
  generalize hQ : MQ below (PI G r (wC G σ) A) args s 0 0 A = Q
  unfold f_X4_fault at hE
  have J_121 : ∀ (H : Heap) (locs : List Loc) (ls : Array Slot), va_P G.1 vwCl (wC G σ) H → va_D A (wC G σ) → va_S A s.heap H locs → lv_has ls 6 [(0, .ref (aD G 24))] → f_X4_fault_J121 σ = some r → W p l e rmX4_fault s m args below meth c H locs 0 0 Q (F0 m 121 ls []) := by
    intro  H locs ls hP hD hS hl hE
    unfold f_X4_fault_J121 at hE
    refine lv_aload_n hx hb dX4_fault_121 rfl (lv_at hl 0 rfl) ?_
    refine va_get (ci := 4) (v := .int (gI σ 5)) (C := RX4) (T := TX4) (N := 2) hx hb hts (fun _ h => List.mem_cons_of_mem _ (List.mem_append_right _ h)) hown hK hP 24 rfl rfl 0 (by decide) (hts (.fieldLink RX4 9 "FillCells$Text" "length" "I") (List.mem_of_getElem? (i := 1) rfl)) (fun _ h9 => h9) rfl dX4_fault_122 ?_
    refine lv_goto (tgt := 129) hx hb dX4_fault_125 (by decide) ?_
    rw [← hQ, ← Option.some.inj hE]
    exact ri hx hb hr hlocks hK hP hD hS dX4_fault_129
  have J_113 : ∀ (x1 : Int32) (x2 : Int32) (H : Heap) (locs : List Loc) (ls : Array Slot), va_P G.1 vwCl (wC G σ) H → va_D A (wC G σ) → va_S A s.heap H locs → lv_has ls 6 [(0, .ref (aD G 24)), (1, .int x1), (2, .int x2)] → f_X4_fault_J113 x1 x2 σ = some r → W p l e rmX4_fault s m args below meth c H locs 0 0 Q (F0 m 113 ls []) := by
    intro x1 x2 H locs ls hP hD hS hl hE
    unfold f_X4_fault_J113 at hE
    refine lv_iload_n hx hb dX4_fault_113 rfl (lv_at hl 1 rfl) ?_
    refine lv_if_ne (tgt := 121) hx hb dX4_fault_114 (by decide) (fun c_ => ?_) (fun c_ => ?_)
    · have hE := im c_ hE
      exact J_121  _ _ _ hP hD hS (lv_sub hl [0] rfl) hE
    · have hE := ip c_ hE
      refine lv_iload_n hx hb dX4_fault_117 rfl (lv_at hl 2 rfl) ?_
      refine lv_if_ne (tgt := 128) hx hb dX4_fault_118 (by decide) (fun c_ => ?_) (fun c_ => ?_)
      · have hE := im c_ hE
        refine lv_iconst (v := (-1 : Int32)) hx hb dX4_fault_128 (by decide) ?_
        rw [← hQ, ← Option.some.inj hE]
        exact ri hx hb hr hlocks hK hP hD hS dX4_fault_129
      · have hE := ip c_ hE
        exact J_121  _ _ _ hP hD hS (lv_sub hl [0] rfl) hE
  have J_9 : ∀ (x1 : Int32) (x2 : Int32) (x3 : Int32) (x4 : Int32) (H : Heap) (locs : List Loc) (ls : Array Slot), va_P G.1 vwCl (wC G σ) H → va_D A (wC G σ) → va_S A s.heap H locs → lv_has ls 6 [(0, .ref (aD G 24)), (1, .int x1), (2, .int x2), (3, .int x3), (4, .int x4)] → f_X4_fault_J9 x1 x2 x3 x4 σ = some r → W p l e rmX4_fault s m args below meth c H locs 0 0 Q (F0 m 9 ls []) := by
    intro x1 x2 x3 x4 H locs ls hP hD hS hl hE
    unfold f_X4_fault_J9 at hE
    obtain ⟨y9, hL, hE9⟩ := bnd_some hE
    refine loop_W (body := f_X4_fault_L9 σ) (y := y9) (P := fun v9 => ∀ (H : Heap) (locs : List Loc) (ls : Array Slot), va_P G.1 vwCl (wC G σ) H → va_D A (wC G σ) → va_S A s.heap H locs → lv_has ls 6 [(0, .ref (aD G 24)), (1, .int v9.1), (2, .int v9.2.1), (3, .int v9.2.2.1), (4, .int v9.2.2.2)] → W p l e rmX4_fault s m args below meth c H locs 0 0 Q (F0 m 9 ls [])) ?_ _ _ hL H locs ls hP hD hS hl
    clear hP hD hS hl hE hL
    intro v9 t9 hE hN9 hY9
    intro H locs ls hP hD hS hl
    unfold f_X4_fault_L9 at hE
    have J_84 : ∀ (x1 : Int32) (x2 : Int32) (x3 : Int32) (x4 : Int32) (x5 : Int32) (H : Heap) (locs : List Loc) (ls : Array Slot), va_P G.1 vwCl (wC G σ) H → va_D A (wC G σ) → va_S A s.heap H locs → lv_has ls 6 [(0, .ref (aD G 24)), (1, .int x1), (2, .int x2), (3, .int x3), (4, .int x4), (5, .int x5)] → f_X4_fault_J84 x1 x2 x3 x4 x5 σ = some t9 → W p l e rmX4_fault s m args below meth c H locs 0 0 Q (F0 m 84 ls []) := by
      intro x1 x2 x3 x4 x5 H locs ls hP hD hS hl hE
      unfold f_X4_fault_J84 at hE
      refine lv_iload hx hb dX4_fault_84 (lv_at hl 5 rfl) ?_
      obtain ⟨r1, hC, hE⟩ := bnd_some hE
      refine ci (va_runS (As := [.int x5]) (rest := []) ⟨hx, hb, hml, hown, hts⟩ (c_X4_isSign l G x5 σ r1 hC _) (va_cwS 1 hts gX4_fault_X4_isSign rfl rfl rfl (by decide +kernel) ⟨Nat.le_of_ble_eq_true rfl, Nat.le_of_ble_eq_true rfl⟩) (preS hK hP hD hS hA hX) rfl rfl hl.1 rfl (lv_room (Nat.le_of_ble_eq_true rfl)) dX4_fault_86 ⟨Nat.le_of_ble_eq_true rfl, Nat.le_of_ble_eq_true rfl⟩) hD hS hA (fun H locs hP hD hS => ?_)
      refine lv_if_eq (tgt := 104) hx hb dX4_fault_89 (by decide) (fun c_ => ?_) (fun c_ => ?_)
      · have hE := ip c_ hE
        refine lv_iload hx hb dX4_fault_104 (lv_at hl 4 rfl) ?_
        have hE := ear_l _ (hY9 _ (Option.some.inj hE).symm) hE9
        rw [← hQ, ← Option.some.inj hE]
        exact ri hx hb hr hlocks hK hP hD hS dX4_fault_106
      · have hE := im c_ hE
        refine lv_iload_n hx hb dX4_fault_92 rfl (lv_at hl 3 rfl) ?_
        refine lv_bipush (v := (10 : Int32)) hx hb dX4_fault_93 (by decide) ?_
        refine lv_icmp_ge (tgt := 104) hx hb dX4_fault_95 (by decide) (fun c_ => ?_) (fun c_ => ?_)
        · have hE := ip c_ hE
          refine lv_iload hx hb dX4_fault_104 (lv_at hl 4 rfl) ?_
          have hE := ear_l _ (hY9 _ (Option.some.inj hE).symm) hE9
          rw [← hQ, ← Option.some.inj hE]
          exact ri hx hb hr hlocks hK hP hD hS dX4_fault_106
        · have hE := im c_ hE
          refine lv_iinc (v := (x3 + (1 : Int32))) (lv' := [(3, .int (x3 + (1 : Int32))), (0, .ref (aD G 24)), (1, .int x1), (2, .int x2), (4, .int x4), (5, .int x5)]) hx hb dX4_fault_98 hl (k := 3) rfl rfl (by decide) rfl (fun ls hl => ?_)
          refine lv_goto (tgt := 107) hx hb dX4_fault_101 (by decide) ?_
          refine lv_iinc (v := (x4 + (1 : Int32))) (lv' := [(4, .int (x4 + (1 : Int32))), (3, .int (x3 + (1 : Int32))), (0, .ref (aD G 24)), (1, .int x1), (2, .int x2), (5, .int x5)]) hx hb dX4_fault_107 hl (k := 4) rfl rfl (by decide) rfl (fun ls hl => ?_)
          refine lv_goto (tgt := 9) hx hb dX4_fault_110 (by decide) ?_
          exact hN9 _ (Option.some.inj hE).symm _ _ _ hP hD hS (lv_sub hl [2, 3, 4, 1, 0] rfl)
    refine lv_iload hx hb dX4_fault_9 (lv_at hl 4 rfl) ?_
    refine lv_aload_n hx hb dX4_fault_11 rfl (lv_at hl 0 rfl) ?_
    refine va_get (ci := 4) (v := .int (gI σ 5)) (C := RX4) (T := TX4) (N := 2) hx hb hts (fun _ h => List.mem_cons_of_mem _ (List.mem_append_right _ h)) hown hK hP 24 rfl rfl 0 (by decide) (hts (.fieldLink RX4 9 "FillCells$Text" "length" "I") (List.mem_of_getElem? (i := 1) rfl)) (fun _ h9 => h9) rfl dX4_fault_12 ?_
    refine lv_icmp_ge (tgt := 113) hx hb dX4_fault_15 (by decide) (fun c_ => ?_) (fun c_ => ?_)
    · have hE := ip c_ hE
      have e9 := hY9 _ (Option.some.inj hE).symm
      have hE := ear_r _ e9 hE9
      exact J_113 v9.1 v9.2.1 _ _ _ hP hD hS (lv_sub hl [0, 1, 2] rfl) hE
    · have hE := im c_ hE
      refine lv_aload_n hx hb dX4_fault_18 rfl (lv_at hl 0 rfl) ?_
      refine va_get (ci := 4) (v := .ref (aD G 16)) (C := RX4) (T := TX4) (N := 2) hx hb hts (fun _ h => List.mem_cons_of_mem _ (List.mem_append_right _ h)) hown hK hP 24 rfl rfl 1 (by decide) (hts (.fieldLink RX4 15 "FillCells$Text" "bytes" "[I") (List.mem_of_getElem? (i := 2) rfl)) (fun _ h9 => h9) rfl dX4_fault_19 ?_
      refine lv_iload hx hb dX4_fault_22 (lv_at hl 4 rfl) ?_
      obtain ⟨h_i, hE⟩ := gd_some hE
      refine ldC hx hb hK hP 16 (by decide) h_i dX4_fault_24 ?_
      refine lv_istore (lv' := [(5, .int (rd σ 16 v9.2.2.2)), (0, .ref (aD G 24)), (1, .int v9.1), (2, .int v9.2.1), (3, .int v9.2.2.1), (4, .int v9.2.2.2)]) hx hb dX4_fault_25 hl (by decide) rfl (fun ls hl => ?_)
      refine lv_iload hx hb dX4_fault_27 (lv_at hl 0 rfl) ?_
      refine lv_bipush (v := (32 : Int32)) hx hb dX4_fault_29 (by decide) ?_
      refine lv_icmp_ne (tgt := 37) hx hb dX4_fault_31 (by decide) (fun c_ => ?_) (fun c_ => ?_)
      · have hE := im c_ hE
        refine lv_iload_n hx hb dX4_fault_37 rfl (lv_at hl 2 rfl) ?_
        refine lv_if_ne (tgt := 65) hx hb dX4_fault_38 (by decide) (fun c_ => ?_) (fun c_ => ?_)
        · have hE := im c_ hE
          refine lv_iload hx hb dX4_fault_65 (lv_at hl 0 rfl) ?_
          refine lv_bipush (v := (59 : Int32)) hx hb dX4_fault_67 (by decide) ?_
          refine lv_icmp_ne (tgt := 84) hx hb dX4_fault_69 (by decide) (fun c_ => ?_) (fun c_ => ?_)
          · have hE := im c_ hE
            exact J_84 v9.1 v9.2.1 v9.2.2.1 v9.2.2.2 (rd σ 16 v9.2.2.2) _ _ _ hP hD hS (lv_sub hl [1, 2, 3, 4, 5, 0] rfl) hE
          · have hE := ip c_ hE
            refine lv_iload_n hx hb dX4_fault_72 rfl (lv_at hl 4 rfl) ?_
            refine lv_if_le (tgt := 84) hx hb dX4_fault_73 (by decide) (fun c_ => ?_) (fun c_ => ?_)
            · have hE := ip c_ hE
              exact J_84 v9.1 v9.2.1 v9.2.2.1 v9.2.2.2 (rd σ 16 v9.2.2.2) _ _ _ hP hD hS (lv_sub hl [1, 2, 3, 4, 5, 0] rfl) hE
            · have hE := im c_ hE
              refine lv_iconst (v := (0 : Int32)) hx hb dX4_fault_76 (by decide) ?_
              refine lv_istore_n (lv' := [(1, .int (0 : Int32)), (5, .int (rd σ 16 v9.2.2.2)), (0, .ref (aD G 24)), (2, .int v9.2.1), (3, .int v9.2.2.1), (4, .int v9.2.2.2)]) hx hb dX4_fault_77 rfl hl (by decide) rfl (fun ls hl => ?_)
              refine lv_iinc (v := (v9.2.1 + (1 : Int32))) (lv' := [(2, .int (v9.2.1 + (1 : Int32))), (1, .int (0 : Int32)), (5, .int (rd σ 16 v9.2.2.2)), (0, .ref (aD G 24)), (3, .int v9.2.2.1), (4, .int v9.2.2.2)]) hx hb dX4_fault_78 hl (k := 3) rfl rfl (by decide) rfl (fun ls hl => ?_)
              refine lv_goto (tgt := 107) hx hb dX4_fault_81 (by decide) ?_
              refine lv_iinc (v := (v9.2.2.2 + (1 : Int32))) (lv' := [(4, .int (v9.2.2.2 + (1 : Int32))), (2, .int (v9.2.1 + (1 : Int32))), (1, .int (0 : Int32)), (5, .int (rd σ 16 v9.2.2.2)), (0, .ref (aD G 24)), (3, .int v9.2.2.1)]) hx hb dX4_fault_107 hl (k := 5) rfl rfl (by decide) rfl (fun ls hl => ?_)
              refine lv_goto (tgt := 9) hx hb dX4_fault_110 (by decide) ?_
              exact hN9 _ (Option.some.inj hE).symm _ _ _ hP hD hS (lv_sub hl [4, 2, 1, 5, 0] rfl)
        · have hE := ip c_ hE
          refine lv_iload hx hb dX4_fault_41 (lv_at hl 0 rfl) ?_
          refine lv_bipush (v := (48 : Int32)) hx hb dX4_fault_43 (by decide) ?_
          refine lv_icmp_lt (tgt := 55) hx hb dX4_fault_45 (by decide) (fun c_ => ?_) (fun c_ => ?_)
          · have hE := ip c_ hE
            refine lv_iload hx hb dX4_fault_55 (lv_at hl 5 rfl) ?_
            have hE := ear_l _ (hY9 _ (Option.some.inj hE).symm) hE9
            rw [← hQ, ← Option.some.inj hE]
            exact ri hx hb hr hlocks hK hP hD hS dX4_fault_57
          · have hE := im c_ hE
            refine lv_iload hx hb dX4_fault_48 (lv_at hl 0 rfl) ?_
            refine lv_bipush (v := (55 : Int32)) hx hb dX4_fault_50 (by decide) ?_
            refine lv_icmp_le (tgt := 58) hx hb dX4_fault_52 (by decide) (fun c_ => ?_) (fun c_ => ?_)
            · have hE := ip c_ hE
              refine lv_iconst (v := (1 : Int32)) hx hb dX4_fault_58 (by decide) ?_
              refine lv_istore_n (lv' := [(1, .int (1 : Int32)), (5, .int (rd σ 16 v9.2.2.2)), (0, .ref (aD G 24)), (2, .int v9.2.1), (3, .int v9.2.2.1), (4, .int v9.2.2.2)]) hx hb dX4_fault_59 rfl hl (by decide) rfl (fun ls hl => ?_)
              refine lv_iconst (v := (0 : Int32)) hx hb dX4_fault_60 (by decide) ?_
              refine lv_istore_n (lv' := [(3, .int (0 : Int32)), (1, .int (1 : Int32)), (5, .int (rd σ 16 v9.2.2.2)), (0, .ref (aD G 24)), (2, .int v9.2.1), (4, .int v9.2.2.2)]) hx hb dX4_fault_61 rfl hl (by decide) rfl (fun ls hl => ?_)
              refine lv_goto (tgt := 107) hx hb dX4_fault_62 (by decide) ?_
              refine lv_iinc (v := (v9.2.2.2 + (1 : Int32))) (lv' := [(4, .int (v9.2.2.2 + (1 : Int32))), (3, .int (0 : Int32)), (1, .int (1 : Int32)), (5, .int (rd σ 16 v9.2.2.2)), (0, .ref (aD G 24)), (2, .int v9.2.1)]) hx hb dX4_fault_107 hl (k := 5) rfl rfl (by decide) rfl (fun ls hl => ?_)
              refine lv_goto (tgt := 9) hx hb dX4_fault_110 (by decide) ?_
              exact hN9 _ (Option.some.inj hE).symm _ _ _ hP hD hS (lv_sub hl [4, 2, 5, 1, 0] rfl)
            · have hE := im c_ hE
              refine lv_iload hx hb dX4_fault_55 (lv_at hl 5 rfl) ?_
              have hE := ear_l _ (hY9 _ (Option.some.inj hE).symm) hE9
              rw [← hQ, ← Option.some.inj hE]
              exact ri hx hb hr hlocks hK hP hD hS dX4_fault_57
      · have hE := ip c_ hE
        refine lv_goto (tgt := 107) hx hb dX4_fault_34 (by decide) ?_
        refine lv_iinc (v := (v9.2.2.2 + (1 : Int32))) (lv' := [(4, .int (v9.2.2.2 + (1 : Int32))), (5, .int (rd σ 16 v9.2.2.2)), (0, .ref (aD G 24)), (1, .int v9.1), (2, .int v9.2.1), (3, .int v9.2.2.1)]) hx hb dX4_fault_107 hl (k := 5) rfl rfl (by decide) rfl (fun ls hl => ?_)
        refine lv_goto (tgt := 9) hx hb dX4_fault_110 (by decide) ?_
        exact hN9 _ (Option.some.inj hE).symm _ _ _ hP hD hS (lv_sub hl [2, 3, 4, 5, 0] rfl)
  refine lv_iconst (v := (0 : Int32)) hx hb dX4_fault_0 (by decide) ?_
  refine lv_istore_n (lv' := [(1, .int (0 : Int32)), (0, .ref (aD G 24))]) hx hb dX4_fault_1 rfl hl (by decide) rfl (fun ls hl => ?_)
  refine lv_iconst (v := (0 : Int32)) hx hb dX4_fault_2 (by decide) ?_
  refine lv_istore_n (lv' := [(2, .int (0 : Int32)), (1, .int (0 : Int32)), (0, .ref (aD G 24))]) hx hb dX4_fault_3 rfl hl (by decide) rfl (fun ls hl => ?_)
  refine lv_iconst (v := (0 : Int32)) hx hb dX4_fault_4 (by decide) ?_
  refine lv_istore_n (lv' := [(3, .int (0 : Int32)), (2, .int (0 : Int32)), (1, .int (0 : Int32)), (0, .ref (aD G 24))]) hx hb dX4_fault_5 rfl hl (by decide) rfl (fun ls hl => ?_)
  refine lv_iconst (v := (0 : Int32)) hx hb dX4_fault_6 (by decide) ?_
  refine lv_istore (lv' := [(4, .int (0 : Int32)), (3, .int (0 : Int32)), (2, .int (0 : Int32)), (1, .int (0 : Int32)), (0, .ref (aD G 24))]) hx hb dX4_fault_7 hl (by decide) rfl (fun ls hl => ?_)
  exact J_9 (0 : Int32) (0 : Int32) (0 : Int32) (0 : Int32) _ _ _ hP hD hS (lv_sub hl [4, 3, 2, 1, 0] rfl) hE
abbrev rmX6_isIn : Room := { frames := 0, cells := 0, slots := 0, locals := 0 }

def f_X6_isIn (x0 x1 x2 : Int32) : Option Int32 := if x0 < x1 then (some (0 : Int32)) else (if x2 < x0 then (some (0 : Int32)) else (some (1 : Int32)))
set_option maxHeartbeats 4000000 in
set_option maxRecDepth 100000 in
theorem c_X6_isIn (l : Launch) (G : EV)  (x0 x1 x2 : Int32) (σ : St) (r : Int32) (hE : f_X6_isIn x0 x1 x2 = some r) : MetI l G yX6_isIn wsX6_isIn rmX6_isIn [.int x0, .int x1, .int x2] (wC G σ) r (wC G σ) := by
  refine Met.of0 (Qf := PI G r (wC G σ)) (cc := cX6_isIn) (maxL := 3) (ret := (some .boolean)) (by decide) rfl (Nat.le_of_ble_eq_true rfl) ?_
  intro p e s m below meth c args A hx hb hr hts hown hlocks hml hin0 hA hS hP hK hD hX ls hl
  have hl : lv_has ls 3 [(0, .int x0), (1, .int x1), (2, .int x2)] := hl
  generalize hQ : MQ below (PI G r (wC G σ) A) args s 0 0 A = Q
  unfold f_X6_isIn at hE
  refine lv_iload_n hx hb dX6_isIn_0 rfl (lv_at hl 0 rfl) ?_
  refine lv_iload_n hx hb dX6_isIn_1 rfl (lv_at hl 1 rfl) ?_
  refine lv_icmp_lt (tgt := 14) hx hb dX6_isIn_2 (by decide) (fun c_ => ?_) (fun c_ => ?_)
  · have hE := ip c_ hE
    refine lv_iconst (v := (0 : Int32)) hx hb dX6_isIn_14 (by decide) ?_
    rw [← hQ, ← Option.some.inj hE]
    exact rz (v := (0 : Int32)) hx hb hr hlocks hK hP hD hS rfl dX6_isIn_15
  · have hE := im c_ hE
    refine lv_iload_n hx hb dX6_isIn_5 rfl (lv_at hl 0 rfl) ?_
    refine lv_iload_n hx hb dX6_isIn_6 rfl (lv_at hl 2 rfl) ?_
    refine lv_icmp_gt (tgt := 14) hx hb dX6_isIn_7 (by decide) (fun c_ => ?_) (fun c_ => ?_)
    · have hE := ip c_ hE
      refine lv_iconst (v := (0 : Int32)) hx hb dX6_isIn_14 (by decide) ?_
      rw [← hQ, ← Option.some.inj hE]
      exact rz (v := (0 : Int32)) hx hb hr hlocks hK hP hD hS rfl dX6_isIn_15
    · have hE := im c_ hE
      refine lv_iconst (v := (1 : Int32)) hx hb dX6_isIn_10 (by decide) ?_
      refine lv_goto (tgt := 15) hx hb dX6_isIn_11 (by decide) ?_
      rw [← hQ, ← Option.some.inj hE]
      exact rz (v := (1 : Int32)) hx hb hr hlocks hK hP hD hS rfl dX6_isIn_15
abbrev rmX6_isCell : Room := { frames := 1, cells := 0, slots := 0, locals := 22 }

def f_X6_isCell (x0 : Int32) : Option Int32 := bnd (f_X6_isIn x0 (0 : Int32) (79 : Int32)) (fun r1 => gb r1 (some r1))
set_option maxHeartbeats 4000000 in
set_option maxRecDepth 100000 in
theorem c_X6_isCell (l : Launch) (G : EV)  (x0 : Int32) (σ : St) (r : Int32) (hE : f_X6_isCell x0 = some r) : MetI l G yX6_isCell wsX6_isCell rmX6_isCell [.int x0] (wC G σ) r (wC G σ) := by
  refine Met.of0 (Qf := PI G r (wC G σ)) (cc := cX6_isCell) (maxL := 1) (ret := (some .boolean)) (by decide) rfl (Nat.le_of_ble_eq_true rfl) ?_
  intro p e s m below meth c args A hx hb hr hts hown hlocks hml hin0 hA hS hP hK hD hX ls hl
  have hl : lv_has ls 1 [(0, .int x0)] := hl
  generalize hQ : MQ below (PI G r (wC G σ) A) args s 0 0 A = Q
  unfold f_X6_isCell at hE
  refine lv_iload_n hx hb dX6_isCell_0 rfl (lv_at hl 0 rfl) ?_
  refine lv_iconst (v := (0 : Int32)) hx hb dX6_isCell_1 (by decide) ?_
  refine lv_bipush (v := (79 : Int32)) hx hb dX6_isCell_2 (by decide) ?_
  obtain ⟨r1, hC, hE⟩ := bnd_some hE
  refine ci (va_runS (As := [.int x0, .int (0 : Int32), .int (79 : Int32)]) (rest := []) ⟨hx, hb, hml, hown, hts⟩ (c_X6_isIn l G x0 (0 : Int32) (79 : Int32) σ r1 hC _) (va_cwS 3 hts gX6_isCell_X6_isIn rfl rfl rfl (by decide +kernel) ⟨Nat.le_of_ble_eq_true rfl, Nat.le_of_ble_eq_true rfl⟩) (preS hK hP hD hS hA hX) rfl rfl hl.1 rfl (lv_room (Nat.le_of_ble_eq_true rfl)) dX6_isCell_4 ⟨Nat.le_of_ble_eq_true rfl, Nat.le_of_ble_eq_true rfl⟩) hD hS hA (fun H locs hP hD hS => ?_)
  obtain ⟨h_n, hE⟩ := gb_some hE
  rw [← hQ, ← Option.some.inj hE]
  exact rz hx hb hr hlocks hK hP hD hS h_n dX6_isCell_7
abbrev rmX4_tellCell : Room := { frames := 2, cells := 0, slots := 0, locals := 42 }

def f_X4_tellCell (x1 x2 : Int32) (σ : St) : Option St := bnd (f_X6_isCell x1) (fun r1 => if r1 = 0 then (some σ) else (if x2 = (46 : Int32) then (some σ) else (if x2 = (35 : Int32) then (gd x1 80 (some (sA σ 1 x1 (1 : Int32)))) else (gd x1 80 (gd x1 80 (some (sA (sA σ 1 x1 (0 : Int32)) 0 x1 (x2 - (48 : Int32)))))))))
set_option maxHeartbeats 4000000 in
set_option maxRecDepth 100000 in
theorem c_X4_tellCell (l : Launch) (G : EV)  (x1 x2 : Int32) (σ : St) (r : St) (hE : f_X4_tellCell x1 x2 σ = some r) : MetV l G yX4_tellCell wsX4_tellCell rmX4_tellCell [.ref (aD G 19), .int x1, .int x2] (wC G σ) (wC G r) := by
  refine Met.of0 (Qf := PV G (wC G r)) (cc := cX4_tellCell) (maxL := 3) (ret := none) (by decide) rfl (Nat.le_of_ble_eq_true rfl) ?_
  intro p e s m below meth c args A hx hb hr hts hown hlocks hml hin0 hA hS hP hK hD hX ls hl
  have hl : lv_has ls 3 [(0, .ref (aD G 19)), (1, .int x1), (2, .int x2)] := hl
  generalize hQ : MQ below (PV G (wC G r) A) args s 0 0 A = Q
  unfold f_X4_tellCell at hE
  refine lv_iload_n hx hb dX4_tellCell_0 rfl (lv_at hl 1 rfl) ?_
  obtain ⟨r1, hC, hE⟩ := bnd_some hE
  refine ci (va_runSN (As := [.int x1]) (rest := []) ⟨hx, hb, hml, hown, hts⟩ (c_X6_isCell l G x1 σ r1 hC _) ⟨va_cnB 1 hts gX4_tellCell_X6_isCell_n27 rfl rfl rfl (hX.1 (RX4, 27, yX6_isCell, RX6) (by decide)) (hts (.initialized RX6) (List.mem_of_getElem? (i := 4) rfl)) (by decide +kernel) ⟨Nat.le_of_ble_eq_true rfl, Nat.le_of_ble_eq_true rfl⟩, (hts (.static yX6_isCell) (List.mem_of_getElem? (i := 3) rfl)), trivial⟩ (preS hK hP hD hS hA hX) rfl rfl hl.1 rfl (lv_room (Nat.le_of_ble_eq_true rfl)) dX4_tellCell_1 ⟨Nat.le_of_ble_eq_true rfl, Nat.le_of_ble_eq_true rfl⟩) hD hS hA (fun H locs hP hD hS => ?_)
  refine lv_if_eq (tgt := 13) hx hb dX4_tellCell_4 (by decide) (fun c_ => ?_) (fun c_ => ?_)
  · have hE := ip c_ hE
    rw [← hQ, ← Option.some.inj hE]
    exact rv hx hb hr hlocks hK hP hD hS dX4_tellCell_13
  · have hE := im c_ hE
    refine lv_iload_n hx hb dX4_tellCell_7 rfl (lv_at hl 2 rfl) ?_
    refine lv_bipush (v := (46 : Int32)) hx hb dX4_tellCell_8 (by decide) ?_
    refine lv_icmp_ne (tgt := 14) hx hb dX4_tellCell_10 (by decide) (fun c_ => ?_) (fun c_ => ?_)
    · have hE := im c_ hE
      refine lv_iload_n hx hb dX4_tellCell_14 rfl (lv_at hl 2 rfl) ?_
      refine lv_bipush (v := (35 : Int32)) hx hb dX4_tellCell_15 (by decide) ?_
      refine lv_icmp_ne (tgt := 30) hx hb dX4_tellCell_17 (by decide) (fun c_ => ?_) (fun c_ => ?_)
      · have hE := im c_ hE
        refine lv_aload_n hx hb dX4_tellCell_30 rfl (lv_at hl 0 rfl) ?_
        refine va_get (ci := 0) (v := .ref (aD G 1)) (C := RX0) (T := TX0) (N := 5) hx hb hts (fun _ h => List.mem_cons_of_mem _ (List.mem_append_right _ h)) hown hK hP 19 rfl rfl 1 (by decide) (hts (.fieldLink RX4 30 "FillCells$Field" "shut" "[I") (List.mem_of_getElem? (i := 1) rfl)) (fun _ h9 => h9) rfl dX4_tellCell_31 ?_
        refine lv_iload_n hx hb dX4_tellCell_34 rfl (lv_at hl 1 rfl) ?_
        refine lv_iconst (v := (0 : Int32)) hx hb dX4_tellCell_35 (by decide) ?_
        obtain ⟨h_i, hE⟩ := gd_some hE
        refine stC hx hb hK hP hD hS 1 (by decide) h_i dX4_tellCell_36 (fun H locs hP hD hS => ?_)
        refine lv_aload_n hx hb dX4_tellCell_37 rfl (lv_at hl 0 rfl) ?_
        refine va_get (ci := 0) (v := .ref (aD G 0)) (C := RX0) (T := TX0) (N := 5) hx hb hts (fun _ h => List.mem_cons_of_mem _ (List.mem_append_right _ h)) hown hK hP 19 rfl rfl 0 (by decide) (hts (.fieldLink RX4 35 "FillCells$Field" "shapes" "[I") (List.mem_of_getElem? (i := 2) rfl)) (fun _ h9 => h9) rfl dX4_tellCell_38 ?_
        refine lv_iload_n hx hb dX4_tellCell_41 rfl (lv_at hl 1 rfl) ?_
        refine lv_iload_n hx hb dX4_tellCell_42 rfl (lv_at hl 2 rfl) ?_
        refine lv_bipush (v := (48 : Int32)) hx hb dX4_tellCell_43 (by decide) ?_
        refine lv_isub hx hb dX4_tellCell_45 ?_
        obtain ⟨h_i, hE⟩ := gd_some hE
        refine stC hx hb hK hP hD hS 0 (by decide) h_i dX4_tellCell_46 (fun H locs hP hD hS => ?_)
        rw [← hQ, ← Option.some.inj hE]
        exact rv hx hb hr hlocks hK hP hD hS dX4_tellCell_47
      · have hE := ip c_ hE
        refine lv_aload_n hx hb dX4_tellCell_20 rfl (lv_at hl 0 rfl) ?_
        refine va_get (ci := 0) (v := .ref (aD G 1)) (C := RX0) (T := TX0) (N := 5) hx hb hts (fun _ h => List.mem_cons_of_mem _ (List.mem_append_right _ h)) hown hK hP 19 rfl rfl 1 (by decide) (hts (.fieldLink RX4 30 "FillCells$Field" "shut" "[I") (List.mem_of_getElem? (i := 1) rfl)) (fun _ h9 => h9) rfl dX4_tellCell_21 ?_
        refine lv_iload_n hx hb dX4_tellCell_24 rfl (lv_at hl 1 rfl) ?_
        refine lv_iconst (v := (1 : Int32)) hx hb dX4_tellCell_25 (by decide) ?_
        obtain ⟨h_i, hE⟩ := gd_some hE
        refine stC hx hb hK hP hD hS 1 (by decide) h_i dX4_tellCell_26 (fun H locs hP hD hS => ?_)
        refine lv_goto (tgt := 47) hx hb dX4_tellCell_27 (by decide) ?_
        rw [← hQ, ← Option.some.inj hE]
        exact rv hx hb hr hlocks hK hP hD hS dX4_tellCell_47
    · have hE := ip c_ hE
      rw [← hQ, ← Option.some.inj hE]
      exact rv hx hb hr hlocks hK hP hD hS dX4_tellCell_13
abbrev rmX4_tell : Room := { frames := 3, cells := 0, slots := 0, locals := 64 }
def f_X4_tell_L7  (v7 : Int32 × Int32 × Int32 × St) : Option (((Int32 × St)) ⊕ (Int32 × Int32 × Int32 × St)) := if (gI v7.2.2.2 5) ≤ v7.2.2.1 then (some (.inl (v7.1, v7.2.2.2))) else (gd v7.2.2.1 120 (if (rd v7.2.2.2 16 v7.2.2.1) = (32 : Int32) then (some (.inr (v7.1, v7.2.1, (v7.2.2.1 + (1 : Int32)), v7.2.2.2))) else (if (rd v7.2.2.2 16 v7.2.2.1) = (59 : Int32) then (some (.inr ((v7.1 + (1 : Int32)), (-1 : Int32), (v7.2.2.1 + (1 : Int32)), v7.2.2.2))) else (if v7.2.1 = (-1 : Int32) then (some (.inr (v7.1, ((10 : Int32) * ((rd v7.2.2.2 16 v7.2.2.1) - (48 : Int32))), (v7.2.2.1 + (1 : Int32)), v7.2.2.2))) else (bnd (f_X4_tellCell v7.2.1 (rd v7.2.2.2 16 v7.2.2.1) v7.2.2.2) (fun r1 => some (.inr (v7.1, (v7.2.1 + (1 : Int32)), (v7.2.2.1 + (1 : Int32)), r1))))))))
def f_X4_tell_J7 (x2 : Int32) (x3 : Int32) (x4 : Int32) (σ : St) : Option (Int32 × St) := bnd (loopN (f_X4_tell_L7 ) 4096 (x2, x3, x4, σ)) (fun y7 => some (y7.1, y7.2))
def f_X4_tell (σ : St) : Option (Int32 × St) := f_X4_tell_J7 (0 : Int32) (-1 : Int32) (0 : Int32) σ
set_option maxHeartbeats 4000000 in
set_option maxRecDepth 100000 in
theorem c_X4_tell (l : Launch) (G : EV)   (σ : St) (r : (Int32 × St)) (hE : f_X4_tell σ = some r) : MetI l G yX4_tell wsX4_tell rmX4_tell [.ref (aD G 24), .ref (aD G 19)] (wC G σ) r.1 (wC G r.2) := by
  refine Met.of0 (Qf := PI G r.1 (wC G r.2)) (cc := cX4_tell) (maxL := 6) (ret := (some .int)) (by decide) rfl (Nat.le_of_ble_eq_true rfl) ?_
  intro p e s m below meth c args A hx hb hr hts hown hlocks hml hin0 hA hS hP hK hD hX ls hl
  have hl : lv_has ls 6 [(0, .ref (aD G 24)), (1, .ref (aD G 19))] := hl
  generalize hQ : MQ below (PI G r.1 (wC G r.2) A) args s 0 0 A = Q
  unfold f_X4_tell at hE
  have J_7 : ∀ (x2 : Int32) (x3 : Int32) (x4 : Int32) (σ : St) (H : Heap) (locs : List Loc) (ls : Array Slot), va_P G.1 vwCl (wC G σ) H → va_D A (wC G σ) → va_S A s.heap H locs → lv_has ls 6 [(0, .ref (aD G 24)), (1, .ref (aD G 19)), (2, .int x2), (3, .int x3), (4, .int x4)] → f_X4_tell_J7 x2 x3 x4 σ = some r → W p l e rmX4_tell s m args below meth c H locs 0 0 Q (F0 m 7 ls []) := by
    intro x2 x3 x4 σ H locs ls hP hD hS hl hE
    unfold f_X4_tell_J7 at hE
    obtain ⟨y7, hL, hE7⟩ := bnd_some hE
    refine loop_W (body := f_X4_tell_L7 ) (y := y7) (P := fun v7 => ∀ (H : Heap) (locs : List Loc) (ls : Array Slot), va_P G.1 vwCl (wC G v7.2.2.2) H → va_D A (wC G v7.2.2.2) → va_S A s.heap H locs → lv_has ls 6 [(0, .ref (aD G 24)), (1, .ref (aD G 19)), (2, .int v7.1), (3, .int v7.2.1), (4, .int v7.2.2.1)] → W p l e rmX4_tell s m args below meth c H locs 0 0 Q (F0 m 7 ls [])) ?_ _ _ hL H locs ls hP hD hS hl
    clear hP hD hS hl hE hL
    intro v7 t7 hE hN7 hY7
    intro H locs ls hP hD hS hl
    unfold f_X4_tell_L7 at hE
    refine lv_iload hx hb dX4_tell_7 (lv_at hl 4 rfl) ?_
    refine lv_aload_n hx hb dX4_tell_9 rfl (lv_at hl 0 rfl) ?_
    refine va_get (ci := 4) (v := .int (gI v7.2.2.2 5)) (C := RX4) (T := TX4) (N := 2) hx hb hts (fun _ h => List.mem_cons_of_mem _ (List.mem_append_left _ (List.mem_append_right _ h))) hown hK hP 24 rfl rfl 0 (by decide) (hts (.fieldLink RX4 9 "FillCells$Text" "length" "I") (List.mem_of_getElem? (i := 1) rfl)) (fun _ h9 => h9) rfl dX4_tell_10 ?_
    refine lv_icmp_ge (tgt := 83) hx hb dX4_tell_13 (by decide) (fun c_ => ?_) (fun c_ => ?_)
    · have hE := ip c_ hE
      have e9 := hY7 _ (Option.some.inj hE).symm
      have hE := hE7
      rw [← e9] at hE
      refine lv_iload_n hx hb dX4_tell_83 rfl (lv_at hl 2 rfl) ?_
      rw [← hQ, ← Option.some.inj hE]
      exact ri hx hb hr hlocks hK hP hD hS dX4_tell_84
    · have hE := im c_ hE
      refine lv_aload_n hx hb dX4_tell_16 rfl (lv_at hl 0 rfl) ?_
      refine va_get (ci := 4) (v := .ref (aD G 16)) (C := RX4) (T := TX4) (N := 2) hx hb hts (fun _ h => List.mem_cons_of_mem _ (List.mem_append_left _ (List.mem_append_right _ h))) hown hK hP 24 rfl rfl 1 (by decide) (hts (.fieldLink RX4 15 "FillCells$Text" "bytes" "[I") (List.mem_of_getElem? (i := 2) rfl)) (fun _ h9 => h9) rfl dX4_tell_17 ?_
      refine lv_iload hx hb dX4_tell_20 (lv_at hl 4 rfl) ?_
      obtain ⟨h_i, hE⟩ := gd_some hE
      refine ldC hx hb hK hP 16 (by decide) h_i dX4_tell_22 ?_
      refine lv_istore (lv' := [(5, .int (rd v7.2.2.2 16 v7.2.2.1)), (0, .ref (aD G 24)), (1, .ref (aD G 19)), (2, .int v7.1), (3, .int v7.2.1), (4, .int v7.2.2.1)]) hx hb dX4_tell_23 hl (by decide) rfl (fun ls hl => ?_)
      refine lv_iload hx hb dX4_tell_25 (lv_at hl 0 rfl) ?_
      refine lv_bipush (v := (32 : Int32)) hx hb dX4_tell_27 (by decide) ?_
      refine lv_icmp_ne (tgt := 35) hx hb dX4_tell_29 (by decide) (fun c_ => ?_) (fun c_ => ?_)
      · have hE := im c_ hE
        refine lv_iload hx hb dX4_tell_35 (lv_at hl 0 rfl) ?_
        refine lv_bipush (v := (59 : Int32)) hx hb dX4_tell_37 (by decide) ?_
        refine lv_icmp_ne (tgt := 50) hx hb dX4_tell_39 (by decide) (fun c_ => ?_) (fun c_ => ?_)
        · have hE := im c_ hE
          refine lv_iload_n hx hb dX4_tell_50 rfl (lv_at hl 4 rfl) ?_
          refine lv_iconst (v := (-1 : Int32)) hx hb dX4_tell_51 (by decide) ?_
          refine lv_icmp_ne (tgt := 67) hx hb dX4_tell_52 (by decide) (fun c_ => ?_) (fun c_ => ?_)
          · have hE := im c_ hE
            refine lv_aload_n hx hb dX4_tell_67 rfl (lv_at hl 2 rfl) ?_
            refine lv_iload_n hx hb dX4_tell_68 rfl (lv_at hl 4 rfl) ?_
            refine lv_iload hx hb dX4_tell_69 (lv_at hl 0 rfl) ?_
            obtain ⟨r1, hC, hE⟩ := bnd_some hE
            refine cv (va_runS (As := [.ref (aD G 19), .int v7.2.1, .int (rd v7.2.2.2 16 v7.2.2.1)]) (rest := []) ⟨hx, hb, hml, hown, hts⟩ (c_X4_tellCell l G v7.2.1 (rd v7.2.2.2 16 v7.2.2.1) v7.2.2.2 r1 hC _) (va_cwS 3 hts gX4_tell_X4_tellCell rfl rfl rfl (by decide +kernel) ⟨Nat.le_of_ble_eq_true rfl, Nat.le_of_ble_eq_true rfl⟩) (preS hK hP hD hS hA hX) rfl rfl hl.1 rfl (lv_room (Nat.le_of_ble_eq_true rfl)) dX4_tell_71 ⟨Nat.le_of_ble_eq_true rfl, Nat.le_of_ble_eq_true rfl⟩) hD hS hA (fun H locs hP hD hS => ?_)
            refine lv_iinc (v := (v7.2.1 + (1 : Int32))) (lv' := [(3, .int (v7.2.1 + (1 : Int32))), (5, .int (rd v7.2.2.2 16 v7.2.2.1)), (0, .ref (aD G 24)), (1, .ref (aD G 19)), (2, .int v7.1), (4, .int v7.2.2.1)]) hx hb dX4_tell_74 hl (k := 4) rfl rfl (by decide) rfl (fun ls hl => ?_)
            refine lv_iinc (v := (v7.2.2.1 + (1 : Int32))) (lv' := [(4, .int (v7.2.2.1 + (1 : Int32))), (3, .int (v7.2.1 + (1 : Int32))), (5, .int (rd v7.2.2.2 16 v7.2.2.1)), (0, .ref (aD G 24)), (1, .ref (aD G 19)), (2, .int v7.1)]) hx hb dX4_tell_77 hl (k := 5) rfl rfl (by decide) rfl (fun ls hl => ?_)
            refine lv_goto (tgt := 7) hx hb dX4_tell_80 (by decide) ?_
            exact hN7 _ (Option.some.inj hE).symm _ _ _ hP hD hS (lv_sub hl [3, 4, 5, 1, 0] rfl)
          · have hE := ip c_ hE
            refine lv_bipush (v := (10 : Int32)) hx hb dX4_tell_55 (by decide) ?_
            refine lv_iload hx hb dX4_tell_57 (lv_at hl 0 rfl) ?_
            refine lv_bipush (v := (48 : Int32)) hx hb dX4_tell_59 (by decide) ?_
            refine lv_isub hx hb dX4_tell_61 ?_
            refine lv_imul hx hb dX4_tell_62 ?_
            refine lv_istore_n (lv' := [(3, .int ((10 : Int32) * ((rd v7.2.2.2 16 v7.2.2.1) - (48 : Int32)))), (5, .int (rd v7.2.2.2 16 v7.2.2.1)), (0, .ref (aD G 24)), (1, .ref (aD G 19)), (2, .int v7.1), (4, .int v7.2.2.1)]) hx hb dX4_tell_63 rfl hl (by decide) rfl (fun ls hl => ?_)
            refine lv_goto (tgt := 77) hx hb dX4_tell_64 (by decide) ?_
            refine lv_iinc (v := (v7.2.2.1 + (1 : Int32))) (lv' := [(4, .int (v7.2.2.1 + (1 : Int32))), (3, .int ((10 : Int32) * ((rd v7.2.2.2 16 v7.2.2.1) - (48 : Int32)))), (5, .int (rd v7.2.2.2 16 v7.2.2.1)), (0, .ref (aD G 24)), (1, .ref (aD G 19)), (2, .int v7.1)]) hx hb dX4_tell_77 hl (k := 5) rfl rfl (by decide) rfl (fun ls hl => ?_)
            refine lv_goto (tgt := 7) hx hb dX4_tell_80 (by decide) ?_
            exact hN7 _ (Option.some.inj hE).symm _ _ _ hP hD hS (lv_sub hl [3, 4, 5, 1, 0] rfl)
        · have hE := ip c_ hE
          refine lv_iinc (v := (v7.1 + (1 : Int32))) (lv' := [(2, .int (v7.1 + (1 : Int32))), (5, .int (rd v7.2.2.2 16 v7.2.2.1)), (0, .ref (aD G 24)), (1, .ref (aD G 19)), (3, .int v7.2.1), (4, .int v7.2.2.1)]) hx hb dX4_tell_42 hl (k := 3) rfl rfl (by decide) rfl (fun ls hl => ?_)
          refine lv_iconst (v := (-1 : Int32)) hx hb dX4_tell_45 (by decide) ?_
          refine lv_istore_n (lv' := [(3, .int (-1 : Int32)), (2, .int (v7.1 + (1 : Int32))), (5, .int (rd v7.2.2.2 16 v7.2.2.1)), (0, .ref (aD G 24)), (1, .ref (aD G 19)), (4, .int v7.2.2.1)]) hx hb dX4_tell_46 rfl hl (by decide) rfl (fun ls hl => ?_)
          refine lv_goto (tgt := 77) hx hb dX4_tell_47 (by decide) ?_
          refine lv_iinc (v := (v7.2.2.1 + (1 : Int32))) (lv' := [(4, .int (v7.2.2.1 + (1 : Int32))), (3, .int (-1 : Int32)), (2, .int (v7.1 + (1 : Int32))), (5, .int (rd v7.2.2.2 16 v7.2.2.1)), (0, .ref (aD G 24)), (1, .ref (aD G 19))]) hx hb dX4_tell_77 hl (k := 5) rfl rfl (by decide) rfl (fun ls hl => ?_)
          refine lv_goto (tgt := 7) hx hb dX4_tell_80 (by decide) ?_
          exact hN7 _ (Option.some.inj hE).symm _ _ _ hP hD hS (lv_sub hl [4, 5, 2, 1, 0] rfl)
      · have hE := ip c_ hE
        refine lv_goto (tgt := 77) hx hb dX4_tell_32 (by decide) ?_
        refine lv_iinc (v := (v7.2.2.1 + (1 : Int32))) (lv' := [(4, .int (v7.2.2.1 + (1 : Int32))), (5, .int (rd v7.2.2.2 16 v7.2.2.1)), (0, .ref (aD G 24)), (1, .ref (aD G 19)), (2, .int v7.1), (3, .int v7.2.1)]) hx hb dX4_tell_77 hl (k := 5) rfl rfl (by decide) rfl (fun ls hl => ?_)
        refine lv_goto (tgt := 7) hx hb dX4_tell_80 (by decide) ?_
        exact hN7 _ (Option.some.inj hE).symm _ _ _ hP hD hS (lv_sub hl [2, 3, 4, 5, 0] rfl)
  refine lv_iconst (v := (0 : Int32)) hx hb dX4_tell_0 (by decide) ?_
  refine lv_istore_n (lv' := [(2, .int (0 : Int32)), (0, .ref (aD G 24)), (1, .ref (aD G 19))]) hx hb dX4_tell_1 rfl hl (by decide) rfl (fun ls hl => ?_)
  refine lv_iconst (v := (-1 : Int32)) hx hb dX4_tell_2 (by decide) ?_
  refine lv_istore_n (lv' := [(3, .int (-1 : Int32)), (2, .int (0 : Int32)), (0, .ref (aD G 24)), (1, .ref (aD G 19))]) hx hb dX4_tell_3 rfl hl (by decide) rfl (fun ls hl => ?_)
  refine lv_iconst (v := (0 : Int32)) hx hb dX4_tell_4 (by decide) ?_
  refine lv_istore (lv' := [(4, .int (0 : Int32)), (3, .int (-1 : Int32)), (2, .int (0 : Int32)), (0, .ref (aD G 24)), (1, .ref (aD G 19))]) hx hb dX4_tell_5 hl (by decide) rfl (fun ls hl => ?_)
  exact J_7 (0 : Int32) (-1 : Int32) (0 : Int32) σ _ _ _ hP hD hS (lv_sub hl [3, 4, 2, 1, 0] rfl) hE

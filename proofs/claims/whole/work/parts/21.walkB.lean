abbrev rmX5_lies : Room := { frames := 0, cells := 0, slots := 0, locals := 0 }

def f_X5_lies (x1 : Int32) (σ : St) : Option Int32 := if (8 : Int32) < ((x1 / (10 : Int32)) + (gI σ 6)) then (some (0 : Int32)) else (if (10 : Int32) < ((jrem x1 (10 : Int32)) + (gI σ 7)) then (some (0 : Int32)) else (some (1 : Int32)))
set_option maxHeartbeats 4000000 in
set_option maxRecDepth 100000 in
theorem c_X5_lies (l : Launch) (G : EV)  (x1 : Int32) (σ : St) (r : Int32) (hE : f_X5_lies x1 σ = some r) : MetI l G yX5_lies wsX5_lies rmX5_lies [.ref (aD G 20), .int x1] (wC G σ) r (wC G σ) := by
  refine Met.of0 (Qf := PI G r (wC G σ)) (cc := cX5_lies) (maxL := 2) (ret := (some .boolean)) (by decide) rfl (Nat.le_of_ble_eq_true rfl) ?_
  intro p e s m below meth c args A hx hb hr hts hown hlocks hml hin0 hA hS hP hK hD hX ls hl
  have hl : lv_has ls 2 [(0, .ref (aD G 20)), (1, .int x1)] := hl
  generalize hQ : MQ below (PI G r (wC G σ) A) args s 0 0 A = Q
  unfold f_X5_lies at hE
  refine lv_iload_n hx hb dX5_lies_0 rfl (lv_at hl 1 rfl) ?_
  refine lv_bipush (v := (10 : Int32)) hx hb dX5_lies_1 (by decide) ?_
  refine lv_idiv hx hb dX5_lies_3 (by decide) ?_
  refine lv_aload_n hx hb dX5_lies_4 rfl (lv_at hl 0 rfl) ?_
  refine va_get (ci := 5) (v := .int (gI σ 6)) (C := RX5) (T := TX5) (N := 8) hx hb hts (fun _ h => List.mem_cons_of_mem _ (List.mem_append_right _ h)) hown hK hP 20 rfl rfl 0 (by decide) (hts (.fieldLink RX5 9 "FillCells$Windows" "height" "I") (List.mem_of_getElem? (i := 1) rfl)) (fun _ h9 => h9) rfl dX5_lies_5 ?_
  refine lv_iadd hx hb dX5_lies_8 ?_
  refine lv_bipush (v := (8 : Int32)) hx hb dX5_lies_9 (by decide) ?_
  refine lv_icmp_gt (tgt := 32) hx hb dX5_lies_11 (by decide) (fun c_ => ?_) (fun c_ => ?_)
  · have hE := ip c_ hE
    refine lv_iconst (v := (0 : Int32)) hx hb dX5_lies_32 (by decide) ?_
    rw [← hQ, ← Option.some.inj hE]
    exact rz (v := (0 : Int32)) hx hb hr hlocks hK hP hD hS rfl dX5_lies_33
  · have hE := im c_ hE
    refine lv_iload_n hx hb dX5_lies_14 rfl (lv_at hl 1 rfl) ?_
    refine lv_bipush (v := (10 : Int32)) hx hb dX5_lies_15 (by decide) ?_
    refine lv_irem hx hb dX5_lies_17 (by decide) ?_
    refine lv_aload_n hx hb dX5_lies_18 rfl (lv_at hl 0 rfl) ?_
    refine va_get (ci := 5) (v := .int (gI σ 7)) (C := RX5) (T := TX5) (N := 8) hx hb hts (fun _ h => List.mem_cons_of_mem _ (List.mem_append_right _ h)) hown hK hP 20 rfl rfl 1 (by decide) (hts (.fieldLink RX5 15 "FillCells$Windows" "width" "I") (List.mem_of_getElem? (i := 2) rfl)) (fun _ h9 => h9) rfl dX5_lies_19 ?_
    refine lv_iadd hx hb dX5_lies_22 ?_
    refine lv_bipush (v := (10 : Int32)) hx hb dX5_lies_23 (by decide) ?_
    refine lv_icmp_gt (tgt := 32) hx hb dX5_lies_25 (by decide) (fun c_ => ?_) (fun c_ => ?_)
    · have hE := ip c_ hE
      refine lv_iconst (v := (0 : Int32)) hx hb dX5_lies_32 (by decide) ?_
      rw [← hQ, ← Option.some.inj hE]
      exact rz (v := (0 : Int32)) hx hb hr hlocks hK hP hD hS rfl dX5_lies_33
    · have hE := im c_ hE
      refine lv_iconst (v := (1 : Int32)) hx hb dX5_lies_28 (by decide) ?_
      refine lv_goto (tgt := 33) hx hb dX5_lies_29 (by decide) ?_
      rw [← hQ, ← Option.some.inj hE]
      exact rz (v := (1 : Int32)) hx hb hr hlocks hK hP hD hS rfl dX5_lies_33
abbrev rmX5_addUp : Room := { frames := 1, cells := 0, slots := 0, locals := 21 }
def f_X5_addUp_J80 (x2 : Int32) (x3 : Int32) (σ : St) : Option St := gd x2 80 (some (sA σ 5 x2 x3))
def f_X5_addUp_J74 (x2 : Int32) (x3 : Int32) (x4 : Int32) (σ : St) : Option (((Int32 × St)) ⊕ (Int32 × Int32 × St)) := some (.inr (x3, (x4 + (1 : Int32)), σ))
def f_X5_addUp_L17 (x2 : Int32) (x4 : Int32) (v17 : Int32 × Int32 × St) : Option (((Int32 × St)) ⊕ (Int32 × Int32 × St)) := if (gI v17.2.2 7) ≤ v17.2.1 then (some (.inl (v17.1, v17.2.2))) else (bnd (f_X0_sumOf ((x2 + ((10 : Int32) * x4)) + v17.2.1) v17.2.2) (fun r1 => gd ((x2 + ((10 : Int32) * x4)) + v17.2.1) 80 (gd (((80 : Int32) * (rd v17.2.2 3 ((x2 + ((10 : Int32) * x4)) + v17.2.1))) + x2) 320 (gd (((80 : Int32) * (rd v17.2.2 3 ((x2 + ((10 : Int32) * x4)) + v17.2.1))) + x2) 320 (some (.inr ((v17.1 + r1), (v17.2.1 + (1 : Int32)), (sA v17.2.2 8 (((80 : Int32) * (rd v17.2.2 3 ((x2 + ((10 : Int32) * x4)) + v17.2.1))) + x2) ((rd v17.2.2 8 (((80 : Int32) * (rd v17.2.2 3 ((x2 + ((10 : Int32) * x4)) + v17.2.1))) + x2)) + (1 : Int32))))))))))
def f_X5_addUp_J17 (x2 : Int32) (x3 : Int32) (x4 : Int32) (x5 : Int32) (σ : St) : Option (((Int32 × St)) ⊕ (Int32 × Int32 × St)) := bnd (loopN (f_X5_addUp_L17 x2 x4) 4096 (x3, x5, σ)) (fun y17 => f_X5_addUp_J74 x2 y17.1 x4 y17.2)
def f_X5_addUp_L5 (x2 : Int32) (v5 : Int32 × Int32 × St) : Option (((Int32 × St)) ⊕ (Int32 × Int32 × St)) := if (gI v5.2.2 6) ≤ v5.2.1 then (some (.inl (v5.1, v5.2.2))) else (f_X5_addUp_J17 x2 v5.1 v5.2.1 (0 : Int32) v5.2.2)
def f_X5_addUp_J5 (x2 : Int32) (x3 : Int32) (x4 : Int32) (σ : St) : Option St := bnd (loopN (f_X5_addUp_L5 x2) 4096 (x3, x4, σ)) (fun y5 => f_X5_addUp_J80 x2 y5.1 y5.2)
def f_X5_addUp (x2 : Int32) (σ : St) : Option St := f_X5_addUp_J5 x2 (0 : Int32) (0 : Int32) σ
set_option maxHeartbeats 4000000 in
set_option maxRecDepth 100000 in
theorem c_X5_addUp (l : Launch) (G : EV)  (x2 : Int32) (σ : St) (r : St) (hE : f_X5_addUp x2 σ = some r) : MetV l G yX5_addUp wsX5_addUp rmX5_addUp [.ref (aD G 20), .ref (aD G 19), .int x2] (wC G σ) (wC G r) := by
  refine Met.of0 (Qf := PV G (wC G r)) (cc := cX5_addUp) (maxL := 7) (ret := none) (by decide) rfl (Nat.le_of_ble_eq_true rfl) ?_
  intro p e s m below meth c args A hx hb hr hts hown hlocks hml hin0 hA hS hP hK hD hX ls hl
  have hl : lv_has ls 7 [(0, .ref (aD G 20)), (1, .ref (aD G 19)), (2, .int x2)] := hl
  generalize hQ : MQ below (PV G (wC G r) A) args s 0 0 A = Q
  unfold f_X5_addUp at hE
  have J_80 : ∀ (x3 : Int32) (σ : St) (H : Heap) (locs : List Loc) (ls : Array Slot), va_P G.1 vwCl (wC G σ) H → va_D A (wC G σ) → va_S A s.heap H locs → lv_has ls 7 [(0, .ref (aD G 20)), (2, .int x2), (3, .int x3)] → f_X5_addUp_J80 x2 x3 σ = some r → W p l e rmX5_addUp s m args below meth c H locs 0 0 Q (F0 m 80 ls []) := by
    intro x3 σ H locs ls hP hD hS hl hE
    unfold f_X5_addUp_J80 at hE
    refine lv_aload_n hx hb dX5_addUp_80 rfl (lv_at hl 0 rfl) ?_
    refine va_get (ci := 5) (v := .ref (aD G 5)) (C := RX5) (T := TX5) (N := 8) hx hb hts (fun _ h => List.mem_cons_of_mem _ (List.mem_append_left _ (List.mem_append_right _ h))) hown hK hP 20 rfl rfl 4 (by decide) (hts (.fieldLink RX5 24 "FillCells$Windows" "sums" "[I") (List.mem_of_getElem? (i := 5) rfl)) (fun _ h9 => h9) rfl dX5_addUp_81 ?_
    refine lv_iload_n hx hb dX5_addUp_84 rfl (lv_at hl 1 rfl) ?_
    refine lv_iload_n hx hb dX5_addUp_85 rfl (lv_at hl 2 rfl) ?_
    obtain ⟨h_i, hE⟩ := gd_some hE
    refine stC hx hb hK hP hD hS 5 (by decide) h_i dX5_addUp_86 (fun H locs hP hD hS => ?_)
    rw [← hQ, ← Option.some.inj hE]
    exact rv hx hb hr hlocks hK hP hD hS dX5_addUp_87
  have J_5 : ∀ (x3 : Int32) (x4 : Int32) (σ : St) (H : Heap) (locs : List Loc) (ls : Array Slot), va_P G.1 vwCl (wC G σ) H → va_D A (wC G σ) → va_S A s.heap H locs → lv_has ls 7 [(0, .ref (aD G 20)), (1, .ref (aD G 19)), (2, .int x2), (3, .int x3), (4, .int x4)] → f_X5_addUp_J5 x2 x3 x4 σ = some r → W p l e rmX5_addUp s m args below meth c H locs 0 0 Q (F0 m 5 ls []) := by
    intro x3 x4 σ H locs ls hP hD hS hl hE
    unfold f_X5_addUp_J5 at hE
    obtain ⟨y5, hL, hE5⟩ := bnd_some hE
    refine loop_W (body := f_X5_addUp_L5 x2) (y := y5) (P := fun v5 => ∀ (H : Heap) (locs : List Loc) (ls : Array Slot), va_P G.1 vwCl (wC G v5.2.2) H → va_D A (wC G v5.2.2) → va_S A s.heap H locs → lv_has ls 7 [(0, .ref (aD G 20)), (1, .ref (aD G 19)), (2, .int x2), (3, .int v5.1), (4, .int v5.2.1)] → W p l e rmX5_addUp s m args below meth c H locs 0 0 Q (F0 m 5 ls [])) ?_ _ _ hL H locs ls hP hD hS hl
    clear hP hD hS hl hE hL
    intro v5 t5 hE hN5 hY5
    intro H locs ls hP hD hS hl
    unfold f_X5_addUp_L5 at hE
    have J_74 : ∀ (x3 : Int32) (x4 : Int32) (σ : St) (H : Heap) (locs : List Loc) (ls : Array Slot), va_P G.1 vwCl (wC G σ) H → va_D A (wC G σ) → va_S A s.heap H locs → lv_has ls 7 [(0, .ref (aD G 20)), (1, .ref (aD G 19)), (2, .int x2), (3, .int x3), (4, .int x4)] → f_X5_addUp_J74 x2 x3 x4 σ = some t5 → W p l e rmX5_addUp s m args below meth c H locs 0 0 Q (F0 m 74 ls []) := by
      intro x3 x4 σ H locs ls hP hD hS hl hE
      unfold f_X5_addUp_J74 at hE
      refine lv_iinc (v := (x4 + (1 : Int32))) (lv' := [(4, .int (x4 + (1 : Int32))), (0, .ref (aD G 20)), (1, .ref (aD G 19)), (2, .int x2), (3, .int x3)]) hx hb dX5_addUp_74 hl (k := 4) rfl rfl (by decide) rfl (fun ls hl => ?_)
      refine lv_goto (tgt := 5) hx hb dX5_addUp_77 (by decide) ?_
      exact hN5 _ (Option.some.inj hE).symm _ _ _ hP hD hS (lv_sub hl [1, 2, 3, 4, 0] rfl)
    have J_17 : ∀ (x3 : Int32) (x4 : Int32) (x5 : Int32) (σ : St) (H : Heap) (locs : List Loc) (ls : Array Slot), va_P G.1 vwCl (wC G σ) H → va_D A (wC G σ) → va_S A s.heap H locs → lv_has ls 7 [(0, .ref (aD G 20)), (1, .ref (aD G 19)), (2, .int x2), (3, .int x3), (4, .int x4), (5, .int x5)] → f_X5_addUp_J17 x2 x3 x4 x5 σ = some t5 → W p l e rmX5_addUp s m args below meth c H locs 0 0 Q (F0 m 17 ls []) := by
      intro x3 x4 x5 σ H locs ls hP hD hS hl hE
      unfold f_X5_addUp_J17 at hE
      obtain ⟨y17, hL, hE17⟩ := bnd_some hE
      refine loop_W (body := f_X5_addUp_L17 x2 x4) (y := y17) (P := fun v17 => ∀ (H : Heap) (locs : List Loc) (ls : Array Slot), va_P G.1 vwCl (wC G v17.2.2) H → va_D A (wC G v17.2.2) → va_S A s.heap H locs → lv_has ls 7 [(0, .ref (aD G 20)), (1, .ref (aD G 19)), (2, .int x2), (3, .int v17.1), (4, .int x4), (5, .int v17.2.1)] → W p l e rmX5_addUp s m args below meth c H locs 0 0 Q (F0 m 17 ls [])) ?_ _ _ hL H locs ls hP hD hS hl
      clear hP hD hS hl hE hL
      intro v17 t17 hE hN17 hY17
      intro H locs ls hP hD hS hl
      unfold f_X5_addUp_L17 at hE
      refine lv_iload hx hb dX5_addUp_17 (lv_at hl 5 rfl) ?_
      refine lv_aload_n hx hb dX5_addUp_19 rfl (lv_at hl 0 rfl) ?_
      refine va_get (ci := 5) (v := .int (gI v17.2.2 7)) (C := RX5) (T := TX5) (N := 8) hx hb hts (fun _ h => List.mem_cons_of_mem _ (List.mem_append_left _ (List.mem_append_right _ h))) hown hK hP 20 rfl rfl 1 (by decide) (hts (.fieldLink RX5 15 "FillCells$Windows" "width" "I") (List.mem_of_getElem? (i := 2) rfl)) (fun _ h9 => h9) rfl dX5_addUp_20 ?_
      refine lv_icmp_ge (tgt := 74) hx hb dX5_addUp_23 (by decide) (fun c_ => ?_) (fun c_ => ?_)
      · have hE := ip c_ hE
        have e9 := hY17 _ (Option.some.inj hE).symm
        have hE := hE17
        rw [← e9] at hE
        exact J_74 v17.1 x4 v17.2.2 _ _ _ hP hD hS (lv_sub hl [0, 1, 2, 3, 4] rfl) hE
      · have hE := im c_ hE
        refine lv_iload_n hx hb dX5_addUp_26 rfl (lv_at hl 2 rfl) ?_
        refine lv_bipush (v := (10 : Int32)) hx hb dX5_addUp_27 (by decide) ?_
        refine lv_iload hx hb dX5_addUp_29 (lv_at hl 4 rfl) ?_
        refine lv_imul hx hb dX5_addUp_31 ?_
        refine lv_iadd hx hb dX5_addUp_32 ?_
        refine lv_iload hx hb dX5_addUp_33 (lv_at hl 5 rfl) ?_
        refine lv_iadd hx hb dX5_addUp_35 ?_
        refine lv_istore (lv' := [(6, .int ((x2 + ((10 : Int32) * x4)) + v17.2.1)), (0, .ref (aD G 20)), (1, .ref (aD G 19)), (2, .int x2), (3, .int v17.1), (4, .int x4), (5, .int v17.2.1)]) hx hb dX5_addUp_36 hl (by decide) rfl (fun ls hl => ?_)
        refine lv_iload_n hx hb dX5_addUp_38 rfl (lv_at hl 4 rfl) ?_
        refine lv_aload_n hx hb dX5_addUp_39 rfl (lv_at hl 2 rfl) ?_
        refine lv_iload hx hb dX5_addUp_40 (lv_at hl 0 rfl) ?_
        obtain ⟨r1, hC, hE⟩ := bnd_some hE
        refine ci (va_runV (As := [.int ((x2 + ((10 : Int32) * x4)) + v17.2.1)]) (rest := [.int v17.1]) ⟨hx, hb, hml, hown, hts⟩ (c_X0_sumOf l G ((x2 + ((10 : Int32) * x4)) + v17.2.1) v17.2.2 r1 hC _) (cwV 1 hts gX5_addUp_X0_sumOf rfl rfl rfl (by decide +kernel) ⟨Nat.le_of_ble_eq_true rfl, Nat.le_of_ble_eq_true rfl⟩) (preV hK hP hD hS hA hX (va_recv hK hP (ci := 0) (q0 := 19) rfl rfl)) rfl rfl hl.1 rfl (lv_room (Nat.le_of_ble_eq_true rfl)) dX5_addUp_42 ⟨Nat.le_of_ble_eq_true rfl, Nat.le_of_ble_eq_true rfl⟩) hD hS hA (fun H locs hP hD hS => ?_)
        refine lv_iadd hx hb dX5_addUp_45 ?_
        refine lv_istore_n (lv' := [(3, .int (v17.1 + r1)), (6, .int ((x2 + ((10 : Int32) * x4)) + v17.2.1)), (0, .ref (aD G 20)), (1, .ref (aD G 19)), (2, .int x2), (4, .int x4), (5, .int v17.2.1)]) hx hb dX5_addUp_46 rfl hl (by decide) rfl (fun ls hl => ?_)
        refine lv_aload_n hx hb dX5_addUp_47 rfl (lv_at hl 2 rfl) ?_
        refine va_get (ci := 5) (v := .ref (aD G 8)) (C := RX5) (T := TX5) (N := 8) hx hb hts (fun _ h => List.mem_cons_of_mem _ (List.mem_append_left _ (List.mem_append_right _ h))) hown hK hP 20 rfl rfl 7 (by decide) (hts (.fieldLink RX5 34 "FillCells$Windows" "shares" "[I") (List.mem_of_getElem? (i := 3) rfl)) (fun _ h9 => h9) rfl dX5_addUp_48 ?_
        refine lv_bipush (v := (80 : Int32)) hx hb dX5_addUp_51 (by decide) ?_
        refine lv_aload_n hx hb dX5_addUp_53 rfl (lv_at hl 3 rfl) ?_
        refine va_get (ci := 0) (v := .ref (aD G 3)) (C := RX0) (T := TX0) (N := 5) hx hb hts (fun _ h => List.mem_cons_of_mem _ (List.mem_append_right _ h)) hown hK hP 19 rfl rfl 3 (by decide) (hts (.fieldLink RX5 71 "FillCells$Field" "twins" "[I") (List.mem_of_getElem? (i := 4) rfl)) (fun _ h9 => h9) rfl dX5_addUp_54 ?_
        refine lv_iload hx hb dX5_addUp_57 (lv_at hl 1 rfl) ?_
        obtain ⟨h_i, hE⟩ := gd_some hE
        refine ldC hx hb hK hP 3 (by decide) h_i dX5_addUp_59 ?_
        refine lv_imul hx hb dX5_addUp_60 ?_
        refine lv_iload_n hx hb dX5_addUp_61 rfl (lv_at hl 4 rfl) ?_
        refine lv_iadd hx hb dX5_addUp_62 ?_
        refine lv_dup2_11 hx hb dX5_addUp_63 rfl rfl ?_
        obtain ⟨h_i, hE⟩ := gd_some hE
        refine ldC hx hb hK hP 8 (by decide) h_i dX5_addUp_64 ?_
        refine lv_iconst (v := (1 : Int32)) hx hb dX5_addUp_65 (by decide) ?_
        refine lv_iadd hx hb dX5_addUp_66 ?_
        obtain ⟨h_i, hE⟩ := gd_some hE
        refine stC hx hb hK hP hD hS 8 (by decide) h_i dX5_addUp_67 (fun H locs hP hD hS => ?_)
        refine lv_iinc (v := (v17.2.1 + (1 : Int32))) (lv' := [(5, .int (v17.2.1 + (1 : Int32))), (3, .int (v17.1 + r1)), (6, .int ((x2 + ((10 : Int32) * x4)) + v17.2.1)), (0, .ref (aD G 20)), (1, .ref (aD G 19)), (2, .int x2), (4, .int x4)]) hx hb dX5_addUp_68 hl (k := 6) rfl rfl (by decide) rfl (fun ls hl => ?_)
        refine lv_goto (tgt := 17) hx hb dX5_addUp_71 (by decide) ?_
        exact hN17 _ (Option.some.inj hE).symm _ _ _ hP hD hS (lv_sub hl [3, 4, 5, 1, 6, 0] rfl)
    refine lv_iload hx hb dX5_addUp_5 (lv_at hl 4 rfl) ?_
    refine lv_aload_n hx hb dX5_addUp_7 rfl (lv_at hl 0 rfl) ?_
    refine va_get (ci := 5) (v := .int (gI v5.2.2 6)) (C := RX5) (T := TX5) (N := 8) hx hb hts (fun _ h => List.mem_cons_of_mem _ (List.mem_append_left _ (List.mem_append_right _ h))) hown hK hP 20 rfl rfl 0 (by decide) (hts (.fieldLink RX5 9 "FillCells$Windows" "height" "I") (List.mem_of_getElem? (i := 1) rfl)) (fun _ h9 => h9) rfl dX5_addUp_8 ?_
    refine lv_icmp_ge (tgt := 80) hx hb dX5_addUp_11 (by decide) (fun c_ => ?_) (fun c_ => ?_)
    · have hE := ip c_ hE
      have e9 := hY5 _ (Option.some.inj hE).symm
      have hE := hE5
      rw [← e9] at hE
      exact J_80 v5.1 v5.2.2 _ _ _ hP hD hS (lv_sub hl [0, 2, 3] rfl) hE
    · have hE := im c_ hE
      refine lv_iconst (v := (0 : Int32)) hx hb dX5_addUp_14 (by decide) ?_
      refine lv_istore (lv' := [(5, .int (0 : Int32)), (0, .ref (aD G 20)), (1, .ref (aD G 19)), (2, .int x2), (3, .int v5.1), (4, .int v5.2.1)]) hx hb dX5_addUp_15 hl (by decide) rfl (fun ls hl => ?_)
      exact J_17 v5.1 v5.2.1 (0 : Int32) v5.2.2 _ _ _ hP hD hS (lv_sub hl [1, 2, 3, 4, 5, 0] rfl) hE
  refine lv_iconst (v := (0 : Int32)) hx hb dX5_addUp_0 (by decide) ?_
  refine lv_istore_n (lv' := [(3, .int (0 : Int32)), (0, .ref (aD G 20)), (1, .ref (aD G 19)), (2, .int x2)]) hx hb dX5_addUp_1 rfl hl (by decide) rfl (fun ls hl => ?_)
  refine lv_iconst (v := (0 : Int32)) hx hb dX5_addUp_2 (by decide) ?_
  refine lv_istore (lv' := [(4, .int (0 : Int32)), (3, .int (0 : Int32)), (0, .ref (aD G 20)), (1, .ref (aD G 19)), (2, .int x2)]) hx hb dX5_addUp_3 hl (by decide) rfl (fun ls hl => ?_)
  exact J_5 (0 : Int32) (0 : Int32) σ _ _ _ hP hD hS (lv_sub hl [2, 3, 4, 1, 0] rfl) hE
abbrev rmX5_isThin : Room := { frames := 0, cells := 0, slots := 0, locals := 0 }

def f_X5_isThin (x1 : Int32) (σ : St) : Option Int32 := gd x1 80 (if (rd σ 5 x1) = (-1 : Int32) then (some (0 : Int32)) else (gd x1 80 (if (gI σ 8) ≤ (rd σ 5 x1) then (some (0 : Int32)) else (some (1 : Int32)))))
set_option maxHeartbeats 4000000 in
set_option maxRecDepth 100000 in
theorem c_X5_isThin (l : Launch) (G : EV)  (x1 : Int32) (σ : St) (r : Int32) (hE : f_X5_isThin x1 σ = some r) : MetI l G yX5_isThin wsX5_isThin rmX5_isThin [.ref (aD G 20), .int x1] (wC G σ) r (wC G σ) := by
  refine Met.of0 (Qf := PI G r (wC G σ)) (cc := cX5_isThin) (maxL := 2) (ret := (some .boolean)) (by decide) rfl (Nat.le_of_ble_eq_true rfl) ?_
  intro p e s m below meth c args A hx hb hr hts hown hlocks hml hin0 hA hS hP hK hD hX ls hl
  have hl : lv_has ls 2 [(0, .ref (aD G 20)), (1, .int x1)] := hl
  generalize hQ : MQ below (PI G r (wC G σ) A) args s 0 0 A = Q
  unfold f_X5_isThin at hE
  refine lv_aload_n hx hb dX5_isThin_0 rfl (lv_at hl 0 rfl) ?_
  refine va_get (ci := 5) (v := .ref (aD G 5)) (C := RX5) (T := TX5) (N := 8) hx hb hts (fun _ h => List.mem_cons_of_mem _ (List.mem_append_right _ h)) hown hK hP 20 rfl rfl 4 (by decide) (hts (.fieldLink RX5 24 "FillCells$Windows" "sums" "[I") (List.mem_of_getElem? (i := 1) rfl)) (fun _ h9 => h9) rfl dX5_isThin_1 ?_
  refine lv_iload_n hx hb dX5_isThin_4 rfl (lv_at hl 1 rfl) ?_
  obtain ⟨h_i, hE⟩ := gd_some hE
  refine ldC hx hb hK hP 5 (by decide) h_i dX5_isThin_5 ?_
  refine lv_iconst (v := (-1 : Int32)) hx hb dX5_isThin_6 (by decide) ?_
  refine lv_icmp_eq (tgt := 27) hx hb dX5_isThin_7 (by decide) (fun c_ => ?_) (fun c_ => ?_)
  · have hE := ip c_ hE
    refine lv_iconst (v := (0 : Int32)) hx hb dX5_isThin_27 (by decide) ?_
    rw [← hQ, ← Option.some.inj hE]
    exact rz (v := (0 : Int32)) hx hb hr hlocks hK hP hD hS rfl dX5_isThin_28
  · have hE := im c_ hE
    refine lv_aload_n hx hb dX5_isThin_10 rfl (lv_at hl 0 rfl) ?_
    refine va_get (ci := 5) (v := .ref (aD G 5)) (C := RX5) (T := TX5) (N := 8) hx hb hts (fun _ h => List.mem_cons_of_mem _ (List.mem_append_right _ h)) hown hK hP 20 rfl rfl 4 (by decide) (hts (.fieldLink RX5 24 "FillCells$Windows" "sums" "[I") (List.mem_of_getElem? (i := 1) rfl)) (fun _ h9 => h9) rfl dX5_isThin_11 ?_
    refine lv_iload_n hx hb dX5_isThin_14 rfl (lv_at hl 1 rfl) ?_
    obtain ⟨h_i, hE⟩ := gd_some hE
    refine ldC hx hb hK hP 5 (by decide) h_i dX5_isThin_15 ?_
    refine lv_aload_n hx hb dX5_isThin_16 rfl (lv_at hl 0 rfl) ?_
    refine va_get (ci := 5) (v := .int (gI σ 8)) (C := RX5) (T := TX5) (N := 8) hx hb hts (fun _ h => List.mem_cons_of_mem _ (List.mem_append_right _ h)) hown hK hP 20 rfl rfl 2 (by decide) (hts (.fieldLink RX5 18 "FillCells$Windows" "low" "I") (List.mem_of_getElem? (i := 2) rfl)) (fun _ h9 => h9) rfl dX5_isThin_17 ?_
    refine lv_icmp_ge (tgt := 27) hx hb dX5_isThin_20 (by decide) (fun c_ => ?_) (fun c_ => ?_)
    · have hE := ip c_ hE
      refine lv_iconst (v := (0 : Int32)) hx hb dX5_isThin_27 (by decide) ?_
      rw [← hQ, ← Option.some.inj hE]
      exact rz (v := (0 : Int32)) hx hb hr hlocks hK hP hD hS rfl dX5_isThin_28
    · have hE := im c_ hE
      refine lv_iconst (v := (1 : Int32)) hx hb dX5_isThin_23 (by decide) ?_
      refine lv_goto (tgt := 28) hx hb dX5_isThin_24 (by decide) ?_
      rw [← hQ, ← Option.some.inj hE]
      exact rz (v := (1 : Int32)) hx hb hr hlocks hK hP hD hS rfl dX5_isThin_28
abbrev rmX5_spread : Room := { frames := 0, cells := 0, slots := 0, locals := 0 }
def f_X5_spread_J46 (k1 : Nat) (x2 : Int32) (x3 : Int32) (x4 : Int32) (σ : St) : Option (((St)) ⊕ (Int32 × St)) := some (.inr ((x4 + (1 : Int32)), σ))
def f_X5_spread_L15 (k1 : Nat) (x2 : Int32) (x3 : Int32) (x4 : Int32) (v15 : Int32 × St) : Option (((St)) ⊕ (Int32 × St)) := if (gI v15.2 7) ≤ v15.1 then (some (.inl (v15.2))) else (gd ((x2 + ((10 : Int32) * x4)) + v15.1) (lnC k1) (gd ((x2 + ((10 : Int32) * x4)) + v15.1) (lnC k1) (some (.inr ((v15.1 + (1 : Int32)), (sA v15.2 k1 ((x2 + ((10 : Int32) * x4)) + v15.1) ((rd v15.2 k1 ((x2 + ((10 : Int32) * x4)) + v15.1)) + x3)))))))
def f_X5_spread_J15 (k1 : Nat) (x2 : Int32) (x3 : Int32) (x4 : Int32) (x5 : Int32) (σ : St) : Option (((St)) ⊕ (Int32 × St)) := bnd (loopN (f_X5_spread_L15 k1 x2 x3 x4) 4096 (x5, σ)) (fun y15 => f_X5_spread_J46 k1 x2 x3 x4 y15)
def f_X5_spread_L3 (k1 : Nat) (x2 : Int32) (x3 : Int32) (v3 : Int32 × St) : Option (((St)) ⊕ (Int32 × St)) := if (gI v3.2 6) ≤ v3.1 then (some (.inl (v3.2))) else (f_X5_spread_J15 k1 x2 x3 v3.1 (0 : Int32) v3.2)
def f_X5_spread_J3 (k1 : Nat) (x2 : Int32) (x3 : Int32) (x4 : Int32) (σ : St) : Option St := bnd (loopN (f_X5_spread_L3 k1 x2 x3) 4096 (x4, σ)) (fun y3 => some y3)
def f_X5_spread (k1 : Nat) (x2 x3 : Int32) (σ : St) : Option St := f_X5_spread_J3 k1 x2 x3 (0 : Int32) σ
set_option maxHeartbeats 4000000 in
set_option maxRecDepth 100000 in
theorem c_X5_spread (l : Launch) (G : EV) (k1 : Nat) (hk1 : k1 < 18) (x2 x3 : Int32) (σ : St) (r : St) (hE : f_X5_spread k1 x2 x3 σ = some r) : MetV l G yX5_spread wsX5_spread rmX5_spread [.ref (aD G 20), .ref (aD G k1), .int x2, .int x3] (wC G σ) (wC G r) := by
  refine Met.of0 (Qf := PV G (wC G r)) (cc := cX5_spread) (maxL := 6) (ret := none) (by decide) rfl (Nat.le_of_ble_eq_true rfl) ?_
  intro p e s m below meth c args A hx hb hr hts hown hlocks hml hin0 hA hS hP hK hD hX ls hl
  have hl : lv_has ls 6 [(0, .ref (aD G 20)), (1, .ref (aD G k1)), (2, .int x2), (3, .int x3)] := hl
  generalize hQ : MQ below (PV G (wC G r) A) args s 0 0 A = Q
  unfold f_X5_spread at hE
  have J_3 : ∀ (x4 : Int32) (σ : St) (H : Heap) (locs : List Loc) (ls : Array Slot), va_P G.1 vwCl (wC G σ) H → va_D A (wC G σ) → va_S A s.heap H locs → lv_has ls 6 [(0, .ref (aD G 20)), (1, .ref (aD G k1)), (2, .int x2), (3, .int x3), (4, .int x4)] → f_X5_spread_J3 k1 x2 x3 x4 σ = some r → W p l e rmX5_spread s m args below meth c H locs 0 0 Q (F0 m 3 ls []) := by
    intro x4 σ H locs ls hP hD hS hl hE
    unfold f_X5_spread_J3 at hE
    obtain ⟨y3, hL, hE3⟩ := bnd_some hE
    refine loop_W (body := f_X5_spread_L3 k1 x2 x3) (y := y3) (P := fun v3 => ∀ (H : Heap) (locs : List Loc) (ls : Array Slot), va_P G.1 vwCl (wC G v3.2) H → va_D A (wC G v3.2) → va_S A s.heap H locs → lv_has ls 6 [(0, .ref (aD G 20)), (1, .ref (aD G k1)), (2, .int x2), (3, .int x3), (4, .int v3.1)] → W p l e rmX5_spread s m args below meth c H locs 0 0 Q (F0 m 3 ls [])) ?_ _ _ hL H locs ls hP hD hS hl
    clear hP hD hS hl hE hL
    intro v3 t3 hE hN3 hY3
    intro H locs ls hP hD hS hl
    unfold f_X5_spread_L3 at hE
    have J_46 : ∀ (x4 : Int32) (σ : St) (H : Heap) (locs : List Loc) (ls : Array Slot), va_P G.1 vwCl (wC G σ) H → va_D A (wC G σ) → va_S A s.heap H locs → lv_has ls 6 [(0, .ref (aD G 20)), (1, .ref (aD G k1)), (2, .int x2), (3, .int x3), (4, .int x4)] → f_X5_spread_J46 k1 x2 x3 x4 σ = some t3 → W p l e rmX5_spread s m args below meth c H locs 0 0 Q (F0 m 46 ls []) := by
      intro x4 σ H locs ls hP hD hS hl hE
      unfold f_X5_spread_J46 at hE
      refine lv_iinc (v := (x4 + (1 : Int32))) (lv' := [(4, .int (x4 + (1 : Int32))), (0, .ref (aD G 20)), (1, .ref (aD G k1)), (2, .int x2), (3, .int x3)]) hx hb dX5_spread_46 hl (k := 4) rfl rfl (by decide) rfl (fun ls hl => ?_)
      refine lv_goto (tgt := 3) hx hb dX5_spread_49 (by decide) ?_
      exact hN3 _ (Option.some.inj hE).symm _ _ _ hP hD hS (lv_sub hl [1, 2, 3, 4, 0] rfl)
    have J_15 : ∀ (x4 : Int32) (x5 : Int32) (σ : St) (H : Heap) (locs : List Loc) (ls : Array Slot), va_P G.1 vwCl (wC G σ) H → va_D A (wC G σ) → va_S A s.heap H locs → lv_has ls 6 [(0, .ref (aD G 20)), (1, .ref (aD G k1)), (2, .int x2), (3, .int x3), (4, .int x4), (5, .int x5)] → f_X5_spread_J15 k1 x2 x3 x4 x5 σ = some t3 → W p l e rmX5_spread s m args below meth c H locs 0 0 Q (F0 m 15 ls []) := by
      intro x4 x5 σ H locs ls hP hD hS hl hE
      unfold f_X5_spread_J15 at hE
      obtain ⟨y15, hL, hE15⟩ := bnd_some hE
      refine loop_W (body := f_X5_spread_L15 k1 x2 x3 x4) (y := y15) (P := fun v15 => ∀ (H : Heap) (locs : List Loc) (ls : Array Slot), va_P G.1 vwCl (wC G v15.2) H → va_D A (wC G v15.2) → va_S A s.heap H locs → lv_has ls 6 [(0, .ref (aD G 20)), (1, .ref (aD G k1)), (2, .int x2), (3, .int x3), (4, .int x4), (5, .int v15.1)] → W p l e rmX5_spread s m args below meth c H locs 0 0 Q (F0 m 15 ls [])) ?_ _ _ hL H locs ls hP hD hS hl
      clear hP hD hS hl hE hL
      intro v15 t15 hE hN15 hY15
      intro H locs ls hP hD hS hl
      unfold f_X5_spread_L15 at hE
      refine lv_iload hx hb dX5_spread_15 (lv_at hl 5 rfl) ?_
      refine lv_aload_n hx hb dX5_spread_17 rfl (lv_at hl 0 rfl) ?_
      refine va_get (ci := 5) (v := .int (gI v15.2 7)) (C := RX5) (T := TX5) (N := 8) hx hb hts (fun _ h => List.mem_cons_of_mem _ (List.mem_append_right _ h)) hown hK hP 20 rfl rfl 1 (by decide) (hts (.fieldLink RX5 15 "FillCells$Windows" "width" "I") (List.mem_of_getElem? (i := 2) rfl)) (fun _ h9 => h9) rfl dX5_spread_18 ?_
      refine lv_icmp_ge (tgt := 46) hx hb dX5_spread_21 (by decide) (fun c_ => ?_) (fun c_ => ?_)
      · have hE := ip c_ hE
        have e9 := hY15 _ (Option.some.inj hE).symm
        have hE := hE15
        rw [← e9] at hE
        exact J_46 x4 v15.2 _ _ _ hP hD hS (lv_sub hl [0, 1, 2, 3, 4] rfl) hE
      · have hE := im c_ hE
        refine lv_aload_n hx hb dX5_spread_24 rfl (lv_at hl 1 rfl) ?_
        refine lv_iload_n hx hb dX5_spread_25 rfl (lv_at hl 2 rfl) ?_
        refine lv_bipush (v := (10 : Int32)) hx hb dX5_spread_26 (by decide) ?_
        refine lv_iload hx hb dX5_spread_28 (lv_at hl 4 rfl) ?_
        refine lv_imul hx hb dX5_spread_30 ?_
        refine lv_iadd hx hb dX5_spread_31 ?_
        refine lv_iload hx hb dX5_spread_32 (lv_at hl 5 rfl) ?_
        refine lv_iadd hx hb dX5_spread_34 ?_
        refine lv_dup2_11 hx hb dX5_spread_35 rfl rfl ?_
        obtain ⟨h_i, hE⟩ := gd_some hE
        refine ldC hx hb hK hP k1 hk1 h_i dX5_spread_36 ?_
        refine lv_iload_n hx hb dX5_spread_37 rfl (lv_at hl 3 rfl) ?_
        refine lv_iadd hx hb dX5_spread_38 ?_
        obtain ⟨h_i, hE⟩ := gd_some hE
        refine stC hx hb hK hP hD hS k1 hk1 h_i dX5_spread_39 (fun H locs hP hD hS => ?_)
        refine lv_iinc (v := (v15.1 + (1 : Int32))) (lv' := [(5, .int (v15.1 + (1 : Int32))), (0, .ref (aD G 20)), (1, .ref (aD G k1)), (2, .int x2), (3, .int x3), (4, .int x4)]) hx hb dX5_spread_40 hl (k := 5) rfl rfl (by decide) rfl (fun ls hl => ?_)
        refine lv_goto (tgt := 15) hx hb dX5_spread_43 (by decide) ?_
        exact hN15 _ (Option.some.inj hE).symm _ _ _ hP hD hS (lv_sub hl [1, 2, 3, 4, 5, 0] rfl)
    refine lv_iload hx hb dX5_spread_3 (lv_at hl 4 rfl) ?_
    refine lv_aload_n hx hb dX5_spread_5 rfl (lv_at hl 0 rfl) ?_
    refine va_get (ci := 5) (v := .int (gI v3.2 6)) (C := RX5) (T := TX5) (N := 8) hx hb hts (fun _ h => List.mem_cons_of_mem _ (List.mem_append_right _ h)) hown hK hP 20 rfl rfl 0 (by decide) (hts (.fieldLink RX5 9 "FillCells$Windows" "height" "I") (List.mem_of_getElem? (i := 1) rfl)) (fun _ h9 => h9) rfl dX5_spread_6 ?_
    refine lv_icmp_ge (tgt := 52) hx hb dX5_spread_9 (by decide) (fun c_ => ?_) (fun c_ => ?_)
    · have hE := ip c_ hE
      have e9 := hY3 _ (Option.some.inj hE).symm
      have hE := hE3
      rw [← e9] at hE
      rw [← hQ, ← Option.some.inj hE]
      exact rv hx hb hr hlocks hK hP hD hS dX5_spread_52
    · have hE := im c_ hE
      refine lv_iconst (v := (0 : Int32)) hx hb dX5_spread_12 (by decide) ?_
      refine lv_istore (lv' := [(5, .int (0 : Int32)), (0, .ref (aD G 20)), (1, .ref (aD G k1)), (2, .int x2), (3, .int x3), (4, .int v3.1)]) hx hb dX5_spread_13 hl (by decide) rfl (fun ls hl => ?_)
      exact J_15 v3.1 (0 : Int32) v3.2 _ _ _ hP hD hS (lv_sub hl [1, 2, 3, 4, 5, 0] rfl) hE
  refine lv_iconst (v := (0 : Int32)) hx hb dX5_spread_0 (by decide) ?_
  refine lv_istore (lv' := [(4, .int (0 : Int32)), (0, .ref (aD G 20)), (1, .ref (aD G k1)), (2, .int x2), (3, .int x3)]) hx hb dX5_spread_1 hl (by decide) rfl (fun ls hl => ?_)
  exact J_3 (0 : Int32) σ _ _ _ hP hD hS (lv_sub hl [1, 2, 3, 4, 0] rfl) hE
abbrev rmX5_isFull : Room := { frames := 0, cells := 0, slots := 0, locals := 0 }

def f_X5_isFull (x1 : Int32) (σ : St) : Option Int32 := gd x1 80 (if (rd σ 5 x1) = (-1 : Int32) then (some (0 : Int32)) else (gd x1 80 (if (rd σ 5 x1) < (gI σ 9) then (some (0 : Int32)) else (some (1 : Int32)))))
set_option maxHeartbeats 4000000 in
set_option maxRecDepth 100000 in
theorem c_X5_isFull (l : Launch) (G : EV)  (x1 : Int32) (σ : St) (r : Int32) (hE : f_X5_isFull x1 σ = some r) : MetI l G yX5_isFull wsX5_isFull rmX5_isFull [.ref (aD G 20), .int x1] (wC G σ) r (wC G σ) := by
  refine Met.of0 (Qf := PI G r (wC G σ)) (cc := cX5_isFull) (maxL := 2) (ret := (some .boolean)) (by decide) rfl (Nat.le_of_ble_eq_true rfl) ?_
  intro p e s m below meth c args A hx hb hr hts hown hlocks hml hin0 hA hS hP hK hD hX ls hl
  have hl : lv_has ls 2 [(0, .ref (aD G 20)), (1, .int x1)] := hl
  generalize hQ : MQ below (PI G r (wC G σ) A) args s 0 0 A = Q
  unfold f_X5_isFull at hE
  refine lv_aload_n hx hb dX5_isFull_0 rfl (lv_at hl 0 rfl) ?_
  refine va_get (ci := 5) (v := .ref (aD G 5)) (C := RX5) (T := TX5) (N := 8) hx hb hts (fun _ h => List.mem_cons_of_mem _ (List.mem_append_right _ h)) hown hK hP 20 rfl rfl 4 (by decide) (hts (.fieldLink RX5 24 "FillCells$Windows" "sums" "[I") (List.mem_of_getElem? (i := 1) rfl)) (fun _ h9 => h9) rfl dX5_isFull_1 ?_
  refine lv_iload_n hx hb dX5_isFull_4 rfl (lv_at hl 1 rfl) ?_
  obtain ⟨h_i, hE⟩ := gd_some hE
  refine ldC hx hb hK hP 5 (by decide) h_i dX5_isFull_5 ?_
  refine lv_iconst (v := (-1 : Int32)) hx hb dX5_isFull_6 (by decide) ?_
  refine lv_icmp_eq (tgt := 27) hx hb dX5_isFull_7 (by decide) (fun c_ => ?_) (fun c_ => ?_)
  · have hE := ip c_ hE
    refine lv_iconst (v := (0 : Int32)) hx hb dX5_isFull_27 (by decide) ?_
    rw [← hQ, ← Option.some.inj hE]
    exact rz (v := (0 : Int32)) hx hb hr hlocks hK hP hD hS rfl dX5_isFull_28
  · have hE := im c_ hE
    refine lv_aload_n hx hb dX5_isFull_10 rfl (lv_at hl 0 rfl) ?_
    refine va_get (ci := 5) (v := .ref (aD G 5)) (C := RX5) (T := TX5) (N := 8) hx hb hts (fun _ h => List.mem_cons_of_mem _ (List.mem_append_right _ h)) hown hK hP 20 rfl rfl 4 (by decide) (hts (.fieldLink RX5 24 "FillCells$Windows" "sums" "[I") (List.mem_of_getElem? (i := 1) rfl)) (fun _ h9 => h9) rfl dX5_isFull_11 ?_
    refine lv_iload_n hx hb dX5_isFull_14 rfl (lv_at hl 1 rfl) ?_
    obtain ⟨h_i, hE⟩ := gd_some hE
    refine ldC hx hb hK hP 5 (by decide) h_i dX5_isFull_15 ?_
    refine lv_aload_n hx hb dX5_isFull_16 rfl (lv_at hl 0 rfl) ?_
    refine va_get (ci := 5) (v := .int (gI σ 9)) (C := RX5) (T := TX5) (N := 8) hx hb hts (fun _ h => List.mem_cons_of_mem _ (List.mem_append_right _ h)) hown hK hP 20 rfl rfl 3 (by decide) (hts (.fieldLink RX5 21 "FillCells$Windows" "high" "I") (List.mem_of_getElem? (i := 2) rfl)) (fun _ h9 => h9) rfl dX5_isFull_17 ?_
    refine lv_icmp_lt (tgt := 27) hx hb dX5_isFull_20 (by decide) (fun c_ => ?_) (fun c_ => ?_)
    · have hE := ip c_ hE
      refine lv_iconst (v := (0 : Int32)) hx hb dX5_isFull_27 (by decide) ?_
      rw [← hQ, ← Option.some.inj hE]
      exact rz (v := (0 : Int32)) hx hb hr hlocks hK hP hD hS rfl dX5_isFull_28
    · have hE := im c_ hE
      refine lv_iconst (v := (1 : Int32)) hx hb dX5_isFull_23 (by decide) ?_
      refine lv_goto (tgt := 28) hx hb dX5_isFull_24 (by decide) ?_
      rw [← hQ, ← Option.some.inj hE]
      exact rz (v := (1 : Int32)) hx hb hr hlocks hK hP hD hS rfl dX5_isFull_28
abbrev rmX5_measure : Room := { frames := 2, cells := 0, slots := 0, locals := 47 }
def f_X5_measure_J71 (x2 : Int32) (σ : St) : Option (((St)) ⊕ (Int32 × St)) := bnd (f_X5_isFull x2 σ) (fun r6 => if r6 = 0 then (some (.inr ((x2 + (1 : Int32)), σ))) else (bnd (f_X5_spread 7 x2 (1 : Int32) σ) (fun r7 => some (.inr ((x2 + (1 : Int32)), r7)))))
def f_X5_measure_J53 (x2 : Int32) (σ : St) : Option (((St)) ⊕ (Int32 × St)) := bnd (f_X5_isThin x2 σ) (fun r5 => if r5 = 0 then (f_X5_measure_J71 x2 σ) else (bnd (f_X5_spread 6 x2 (1 : Int32) σ) (fun r8 => f_X5_measure_J71 x2 r8)))
def f_X5_measure_L26  (v26 : Int32 × St) : Option (((St)) ⊕ (Int32 × St)) := if (80 : Int32) ≤ v26.1 then (some (.inl (v26.2))) else (gd v26.1 80 (bnd (f_X5_lies v26.1 (sA v26.2 5 v26.1 (-1 : Int32))) (fun r4 => if r4 = 0 then (f_X5_measure_J53 v26.1 (sA v26.2 5 v26.1 (-1 : Int32))) else (bnd (f_X5_addUp v26.1 (sA v26.2 5 v26.1 (-1 : Int32))) (fun r9 => f_X5_measure_J53 v26.1 r9)))))
def f_X5_measure_J26 (x2 : Int32) (σ : St) : Option St := bnd (loopN (f_X5_measure_L26 ) 4096 (x2, σ)) (fun y26 => some y26)
def f_X5_measure (σ : St) : Option St := bnd (f_J7_fill_53178 6 (0 : Int32) σ) (fun r1 => bnd (f_J7_fill_53178 7 (0 : Int32) r1) (fun r2 => bnd (f_J7_fill_53178 8 (0 : Int32) r2) (fun r3 => f_X5_measure_J26 (0 : Int32) r3)))
set_option maxHeartbeats 4000000 in
set_option maxRecDepth 100000 in
theorem c_X5_measure (l : Launch) (G : EV)   (σ : St) (r : St) (hE : f_X5_measure σ = some r) : MetV l G yX5_measure wsX5_measure rmX5_measure [.ref (aD G 20), .ref (aD G 19)] (wC G σ) (wC G r) := by
  refine Met.of0 (Qf := PV G (wC G r)) (cc := cX5_measure) (maxL := 3) (ret := none) (by decide) rfl (Nat.le_of_ble_eq_true rfl) ?_
  intro p e s m below meth c args A hx hb hr hts hown hlocks hml hin0 hA hS hP hK hD hX ls hl
  have hl : lv_has ls 3 [(0, .ref (aD G 20)), (1, .ref (aD G 19))] := hl
  generalize hQ : MQ below (PV G (wC G r) A) args s 0 0 A = Q
  unfold f_X5_measure at hE
  have J_26 : ∀ (x2 : Int32) (σ : St) (H : Heap) (locs : List Loc) (ls : Array Slot), va_P G.1 vwCl (wC G σ) H → va_D A (wC G σ) → va_S A s.heap H locs → lv_has ls 3 [(0, .ref (aD G 20)), (1, .ref (aD G 19)), (2, .int x2)] → f_X5_measure_J26 x2 σ = some r → W p l e rmX5_measure s m args below meth c H locs 0 0 Q (F0 m 26 ls []) := by
    intro x2 σ H locs ls hP hD hS hl hE
    unfold f_X5_measure_J26 at hE
    obtain ⟨y26, hL, hE26⟩ := bnd_some hE
    refine loop_W (body := f_X5_measure_L26 ) (y := y26) (P := fun v26 => ∀ (H : Heap) (locs : List Loc) (ls : Array Slot), va_P G.1 vwCl (wC G v26.2) H → va_D A (wC G v26.2) → va_S A s.heap H locs → lv_has ls 3 [(0, .ref (aD G 20)), (1, .ref (aD G 19)), (2, .int v26.1)] → W p l e rmX5_measure s m args below meth c H locs 0 0 Q (F0 m 26 ls [])) ?_ _ _ hL H locs ls hP hD hS hl
    clear hP hD hS hl hE hL
    intro v26 t26 hE hN26 hY26
    intro H locs ls hP hD hS hl
    unfold f_X5_measure_L26 at hE
    have J_71 : ∀ (x2 : Int32) (σ : St) (H : Heap) (locs : List Loc) (ls : Array Slot), va_P G.1 vwCl (wC G σ) H → va_D A (wC G σ) → va_S A s.heap H locs → lv_has ls 3 [(0, .ref (aD G 20)), (1, .ref (aD G 19)), (2, .int x2)] → f_X5_measure_J71 x2 σ = some t26 → W p l e rmX5_measure s m args below meth c H locs 0 0 Q (F0 m 71 ls []) := by
      intro x2 σ H locs ls hP hD hS hl hE
      unfold f_X5_measure_J71 at hE
      refine lv_aload_n hx hb dX5_measure_71 rfl (lv_at hl 0 rfl) ?_
      refine lv_iload_n hx hb dX5_measure_72 rfl (lv_at hl 2 rfl) ?_
      obtain ⟨r6, hC, hE⟩ := bnd_some hE
      refine ci (va_runV (As := [.int x2]) (rest := []) ⟨hx, hb, hml, hown, hts⟩ (c_X5_isFull l G x2 σ r6 hC _) (cwV 1 hts gX5_measure_X5_isFull rfl rfl rfl (by decide +kernel) ⟨Nat.le_of_ble_eq_true rfl, Nat.le_of_ble_eq_true rfl⟩) (preV hK hP hD hS hA hX (va_recv hK hP (ci := 5) (q0 := 20) rfl rfl)) rfl rfl hl.1 rfl (lv_room (Nat.le_of_ble_eq_true rfl)) dX5_measure_73 ⟨Nat.le_of_ble_eq_true rfl, Nat.le_of_ble_eq_true rfl⟩) hD hS hA (fun H locs hP hD hS => ?_)
      refine lv_if_eq (tgt := 89) hx hb dX5_measure_76 (by decide) (fun c_ => ?_) (fun c_ => ?_)
      · have hE := ip c_ hE
        refine lv_iinc (v := (x2 + (1 : Int32))) (lv' := [(2, .int (x2 + (1 : Int32))), (0, .ref (aD G 20)), (1, .ref (aD G 19))]) hx hb dX5_measure_89 hl (k := 2) rfl rfl (by decide) rfl (fun ls hl => ?_)
        refine lv_goto (tgt := 26) hx hb dX5_measure_92 (by decide) ?_
        exact hN26 _ (Option.some.inj hE).symm _ _ _ hP hD hS (lv_sub hl [1, 2, 0] rfl)
      · have hE := im c_ hE
        refine lv_aload_n hx hb dX5_measure_79 rfl (lv_at hl 0 rfl) ?_
        refine lv_aload_n hx hb dX5_measure_80 rfl (lv_at hl 0 rfl) ?_
        refine va_get (ci := 5) (v := .ref (aD G 7)) (C := RX5) (T := TX5) (N := 8) hx hb hts (fun _ h => List.mem_cons_of_mem _ (List.mem_append_left _ (List.mem_append_right _ h))) hown hK hP 20 rfl rfl 6 (by decide) (hts (.fieldLink RX5 31 "FillCells$Windows" "fullOver" "[I") (List.mem_of_getElem? (i := 2) rfl)) (fun _ h9 => h9) rfl dX5_measure_81 ?_
        refine lv_iload_n hx hb dX5_measure_84 rfl (lv_at hl 2 rfl) ?_
        refine lv_iconst (v := (1 : Int32)) hx hb dX5_measure_85 (by decide) ?_
        obtain ⟨r7, hC, hE⟩ := bnd_some hE
        refine cv (va_runV (As := [.ref (aD G 7), .int x2, .int (1 : Int32)]) (rest := []) ⟨hx, hb, hml, hown, hts⟩ (c_X5_spread l G 7 (by decide) x2 (1 : Int32) σ r7 hC _) (cwV 3 hts gX5_measure_X5_spread rfl rfl rfl (by decide +kernel) ⟨Nat.le_of_ble_eq_true rfl, Nat.le_of_ble_eq_true rfl⟩) (preV hK hP hD hS hA hX (va_recv hK hP (ci := 5) (q0 := 20) rfl rfl)) rfl rfl hl.1 rfl (lv_room (Nat.le_of_ble_eq_true rfl)) dX5_measure_86 ⟨Nat.le_of_ble_eq_true rfl, Nat.le_of_ble_eq_true rfl⟩) hD hS hA (fun H locs hP hD hS => ?_)
        refine lv_iinc (v := (x2 + (1 : Int32))) (lv' := [(2, .int (x2 + (1 : Int32))), (0, .ref (aD G 20)), (1, .ref (aD G 19))]) hx hb dX5_measure_89 hl (k := 2) rfl rfl (by decide) rfl (fun ls hl => ?_)
        refine lv_goto (tgt := 26) hx hb dX5_measure_92 (by decide) ?_
        exact hN26 _ (Option.some.inj hE).symm _ _ _ hP hD hS (lv_sub hl [1, 2, 0] rfl)
    have J_53 : ∀ (x2 : Int32) (σ : St) (H : Heap) (locs : List Loc) (ls : Array Slot), va_P G.1 vwCl (wC G σ) H → va_D A (wC G σ) → va_S A s.heap H locs → lv_has ls 3 [(0, .ref (aD G 20)), (1, .ref (aD G 19)), (2, .int x2)] → f_X5_measure_J53 x2 σ = some t26 → W p l e rmX5_measure s m args below meth c H locs 0 0 Q (F0 m 53 ls []) := by
      intro x2 σ H locs ls hP hD hS hl hE
      unfold f_X5_measure_J53 at hE
      refine lv_aload_n hx hb dX5_measure_53 rfl (lv_at hl 0 rfl) ?_
      refine lv_iload_n hx hb dX5_measure_54 rfl (lv_at hl 2 rfl) ?_
      obtain ⟨r5, hC, hE⟩ := bnd_some hE
      refine ci (va_runV (As := [.int x2]) (rest := []) ⟨hx, hb, hml, hown, hts⟩ (c_X5_isThin l G x2 σ r5 hC _) (cwV 1 hts gX5_measure_X5_isThin rfl rfl rfl (by decide +kernel) ⟨Nat.le_of_ble_eq_true rfl, Nat.le_of_ble_eq_true rfl⟩) (preV hK hP hD hS hA hX (va_recv hK hP (ci := 5) (q0 := 20) rfl rfl)) rfl rfl hl.1 rfl (lv_room (Nat.le_of_ble_eq_true rfl)) dX5_measure_55 ⟨Nat.le_of_ble_eq_true rfl, Nat.le_of_ble_eq_true rfl⟩) hD hS hA (fun H locs hP hD hS => ?_)
      refine lv_if_eq (tgt := 71) hx hb dX5_measure_58 (by decide) (fun c_ => ?_) (fun c_ => ?_)
      · have hE := ip c_ hE
        exact J_71 x2 σ _ _ _ hP hD hS (lv_sub hl [0, 1, 2] rfl) hE
      · have hE := im c_ hE
        refine lv_aload_n hx hb dX5_measure_61 rfl (lv_at hl 0 rfl) ?_
        refine lv_aload_n hx hb dX5_measure_62 rfl (lv_at hl 0 rfl) ?_
        refine va_get (ci := 5) (v := .ref (aD G 6)) (C := RX5) (T := TX5) (N := 8) hx hb hts (fun _ h => List.mem_cons_of_mem _ (List.mem_append_left _ (List.mem_append_right _ h))) hown hK hP 20 rfl rfl 5 (by decide) (hts (.fieldLink RX5 28 "FillCells$Windows" "thinOver" "[I") (List.mem_of_getElem? (i := 1) rfl)) (fun _ h9 => h9) rfl dX5_measure_63 ?_
        refine lv_iload_n hx hb dX5_measure_66 rfl (lv_at hl 2 rfl) ?_
        refine lv_iconst (v := (1 : Int32)) hx hb dX5_measure_67 (by decide) ?_
        obtain ⟨r8, hC, hE⟩ := bnd_some hE
        refine cv (va_runV (As := [.ref (aD G 6), .int x2, .int (1 : Int32)]) (rest := []) ⟨hx, hb, hml, hown, hts⟩ (c_X5_spread l G 6 (by decide) x2 (1 : Int32) σ r8 hC _) (cwV 3 hts gX5_measure_X5_spread rfl rfl rfl (by decide +kernel) ⟨Nat.le_of_ble_eq_true rfl, Nat.le_of_ble_eq_true rfl⟩) (preV hK hP hD hS hA hX (va_recv hK hP (ci := 5) (q0 := 20) rfl rfl)) rfl rfl hl.1 rfl (lv_room (Nat.le_of_ble_eq_true rfl)) dX5_measure_68 ⟨Nat.le_of_ble_eq_true rfl, Nat.le_of_ble_eq_true rfl⟩) hD hS hA (fun H locs hP hD hS => ?_)
        exact J_71 x2 r8 _ _ _ hP hD hS (lv_sub hl [0, 1, 2] rfl) hE
    refine lv_iload_n hx hb dX5_measure_26 rfl (lv_at hl 2 rfl) ?_
    refine lv_bipush (v := (80 : Int32)) hx hb dX5_measure_27 (by decide) ?_
    refine lv_icmp_ge (tgt := 95) hx hb dX5_measure_29 (by decide) (fun c_ => ?_) (fun c_ => ?_)
    · have hE := ip c_ hE
      have e9 := hY26 _ (Option.some.inj hE).symm
      have hE := hE26
      rw [← e9] at hE
      rw [← hQ, ← Option.some.inj hE]
      exact rv hx hb hr hlocks hK hP hD hS dX5_measure_95
    · have hE := im c_ hE
      refine lv_aload_n hx hb dX5_measure_32 rfl (lv_at hl 0 rfl) ?_
      refine va_get (ci := 5) (v := .ref (aD G 5)) (C := RX5) (T := TX5) (N := 8) hx hb hts (fun _ h => List.mem_cons_of_mem _ (List.mem_append_left _ (List.mem_append_right _ h))) hown hK hP 20 rfl rfl 4 (by decide) (hts (.fieldLink RX5 24 "FillCells$Windows" "sums" "[I") (List.mem_of_getElem? (i := 4) rfl)) (fun _ h9 => h9) rfl dX5_measure_33 ?_
      refine lv_iload_n hx hb dX5_measure_36 rfl (lv_at hl 2 rfl) ?_
      refine lv_iconst (v := (-1 : Int32)) hx hb dX5_measure_37 (by decide) ?_
      obtain ⟨h_i, hE⟩ := gd_some hE
      refine stC hx hb hK hP hD hS 5 (by decide) h_i dX5_measure_38 (fun H locs hP hD hS => ?_)
      refine lv_aload_n hx hb dX5_measure_39 rfl (lv_at hl 0 rfl) ?_
      refine lv_iload_n hx hb dX5_measure_40 rfl (lv_at hl 2 rfl) ?_
      obtain ⟨r4, hC, hE⟩ := bnd_some hE
      refine ci (va_runV (As := [.int v26.1]) (rest := []) ⟨hx, hb, hml, hown, hts⟩ (c_X5_lies l G v26.1 (sA v26.2 5 v26.1 (-1 : Int32)) r4 hC _) (cwV 1 hts gX5_measure_X5_lies rfl rfl rfl (by decide +kernel) ⟨Nat.le_of_ble_eq_true rfl, Nat.le_of_ble_eq_true rfl⟩) (preV hK hP hD hS hA hX (va_recv hK hP (ci := 5) (q0 := 20) rfl rfl)) rfl rfl hl.1 rfl (lv_room (Nat.le_of_ble_eq_true rfl)) dX5_measure_41 ⟨Nat.le_of_ble_eq_true rfl, Nat.le_of_ble_eq_true rfl⟩) hD hS hA (fun H locs hP hD hS => ?_)
      refine lv_if_eq (tgt := 53) hx hb dX5_measure_44 (by decide) (fun c_ => ?_) (fun c_ => ?_)
      · have hE := ip c_ hE
        exact J_53 v26.1 (sA v26.2 5 v26.1 (-1 : Int32)) _ _ _ hP hD hS (lv_sub hl [0, 1, 2] rfl) hE
      · have hE := im c_ hE
        refine lv_aload_n hx hb dX5_measure_47 rfl (lv_at hl 0 rfl) ?_
        refine lv_aload_n hx hb dX5_measure_48 rfl (lv_at hl 1 rfl) ?_
        refine lv_iload_n hx hb dX5_measure_49 rfl (lv_at hl 2 rfl) ?_
        obtain ⟨r9, hC, hE⟩ := bnd_some hE
        refine cv (va_runV (As := [.ref (aD G 19), .int v26.1]) (rest := []) ⟨hx, hb, hml, hown, hts⟩ (c_X5_addUp l G v26.1 (sA v26.2 5 v26.1 (-1 : Int32)) r9 hC _) (cwV 2 hts gX5_measure_X5_addUp rfl rfl rfl (by decide +kernel) ⟨Nat.le_of_ble_eq_true rfl, Nat.le_of_ble_eq_true rfl⟩) (preV hK hP hD hS hA hX (va_recv hK hP (ci := 5) (q0 := 20) rfl rfl)) rfl rfl hl.1 rfl (lv_room (Nat.le_of_ble_eq_true rfl)) dX5_measure_50 ⟨Nat.le_of_ble_eq_true rfl, Nat.le_of_ble_eq_true rfl⟩) hD hS hA (fun H locs hP hD hS => ?_)
        exact J_53 v26.1 r9 _ _ _ hP hD hS (lv_sub hl [0, 1, 2] rfl) hE
  refine lv_aload_n hx hb dX5_measure_0 rfl (lv_at hl 0 rfl) ?_
  refine va_get (ci := 5) (v := .ref (aD G 6)) (C := RX5) (T := TX5) (N := 8) hx hb hts (fun _ h => List.mem_cons_of_mem _ (List.mem_append_left _ (List.mem_append_right _ h))) hown hK hP 20 rfl rfl 5 (by decide) (hts (.fieldLink RX5 28 "FillCells$Windows" "thinOver" "[I") (List.mem_of_getElem? (i := 1) rfl)) (fun _ h9 => h9) rfl dX5_measure_1 ?_
  refine lv_iconst (v := (0 : Int32)) hx hb dX5_measure_4 (by decide) ?_
  obtain ⟨r1, hC, hE⟩ := bnd_some hE
  refine cv (va_runS (As := [.ref (aD G 6), .int (0 : Int32)]) (rest := []) ⟨hx, hb, hml, hown, hts⟩ (c_J7_fill_53178 l G 6 (by decide) (0 : Int32) σ r1 hC _) (va_cwS 2 hts gX5_measure_J7_fill_53178 rfl rfl rfl (by decide +kernel) ⟨Nat.le_of_ble_eq_true rfl, Nat.le_of_ble_eq_true rfl⟩) (preS hK hP hD hS hA hX) rfl rfl hl.1 rfl (lv_room (Nat.le_of_ble_eq_true rfl)) dX5_measure_5 ⟨Nat.le_of_ble_eq_true rfl, Nat.le_of_ble_eq_true rfl⟩) hD hS hA (fun H locs hP hD hS => ?_)
  refine lv_aload_n hx hb dX5_measure_8 rfl (lv_at hl 0 rfl) ?_
  refine va_get (ci := 5) (v := .ref (aD G 7)) (C := RX5) (T := TX5) (N := 8) hx hb hts (fun _ h => List.mem_cons_of_mem _ (List.mem_append_left _ (List.mem_append_right _ h))) hown hK hP 20 rfl rfl 6 (by decide) (hts (.fieldLink RX5 31 "FillCells$Windows" "fullOver" "[I") (List.mem_of_getElem? (i := 2) rfl)) (fun _ h9 => h9) rfl dX5_measure_9 ?_
  refine lv_iconst (v := (0 : Int32)) hx hb dX5_measure_12 (by decide) ?_
  obtain ⟨r2, hC, hE⟩ := bnd_some hE
  refine cv (va_runS (As := [.ref (aD G 7), .int (0 : Int32)]) (rest := []) ⟨hx, hb, hml, hown, hts⟩ (c_J7_fill_53178 l G 7 (by decide) (0 : Int32) r1 r2 hC _) (va_cwS 2 hts gX5_measure_J7_fill_53178 rfl rfl rfl (by decide +kernel) ⟨Nat.le_of_ble_eq_true rfl, Nat.le_of_ble_eq_true rfl⟩) (preS hK hP hD hS hA hX) rfl rfl hl.1 rfl (lv_room (Nat.le_of_ble_eq_true rfl)) dX5_measure_13 ⟨Nat.le_of_ble_eq_true rfl, Nat.le_of_ble_eq_true rfl⟩) hD hS hA (fun H locs hP hD hS => ?_)
  refine lv_aload_n hx hb dX5_measure_16 rfl (lv_at hl 0 rfl) ?_
  refine va_get (ci := 5) (v := .ref (aD G 8)) (C := RX5) (T := TX5) (N := 8) hx hb hts (fun _ h => List.mem_cons_of_mem _ (List.mem_append_left _ (List.mem_append_right _ h))) hown hK hP 20 rfl rfl 7 (by decide) (hts (.fieldLink RX5 34 "FillCells$Windows" "shares" "[I") (List.mem_of_getElem? (i := 3) rfl)) (fun _ h9 => h9) rfl dX5_measure_17 ?_
  refine lv_iconst (v := (0 : Int32)) hx hb dX5_measure_20 (by decide) ?_
  obtain ⟨r3, hC, hE⟩ := bnd_some hE
  refine cv (va_runS (As := [.ref (aD G 8), .int (0 : Int32)]) (rest := []) ⟨hx, hb, hml, hown, hts⟩ (c_J7_fill_53178 l G 8 (by decide) (0 : Int32) r2 r3 hC _) (va_cwS 2 hts gX5_measure_J7_fill_53178 rfl rfl rfl (by decide +kernel) ⟨Nat.le_of_ble_eq_true rfl, Nat.le_of_ble_eq_true rfl⟩) (preS hK hP hD hS hA hX) rfl rfl hl.1 rfl (lv_room (Nat.le_of_ble_eq_true rfl)) dX5_measure_21 ⟨Nat.le_of_ble_eq_true rfl, Nat.le_of_ble_eq_true rfl⟩) hD hS hA (fun H locs hP hD hS => ?_)
  refine lv_iconst (v := (0 : Int32)) hx hb dX5_measure_24 (by decide) ?_
  refine lv_istore_n (lv' := [(2, .int (0 : Int32)), (0, .ref (aD G 20)), (1, .ref (aD G 19))]) hx hb dX5_measure_25 rfl hl (by decide) rfl (fun ls hl => ?_)
  exact J_26 (0 : Int32) r3 _ _ _ hP hD hS (lv_sub hl [1, 2, 0] rfl) hE
abbrev rmX5_bearTwins : Room := { frames := 0, cells := 0, slots := 0, locals := 0 }
def f_X5_bearTwins_L2 (x1 : Int32) (σ : St) (v2 : Int32) : Option (((Int32 ⊕ (Unit))) ⊕ (Int32)) := if (80 : Int32) ≤ v2 then (some (.inl (.inr ()))) else (gd (((80 : Int32) * x1) + v2) 320 (if (rd σ 8 (((80 : Int32) * x1) + v2)) ≤ 0 then (some (.inr ((v2 + (1 : Int32))))) else (gd v2 80 (if ((rd σ 5 v2) + (rd σ 8 (((80 : Int32) * x1) + v2))) ≤ (gI σ 9) then (some (.inr ((v2 + (1 : Int32))))) else (some (.inl (.inl (0 : Int32))))))))
def f_X5_bearTwins_J2 (x1 : Int32) (x2 : Int32) (σ : St) : Option Int32 := bnd (loopN (f_X5_bearTwins_L2 x1 σ) 4096 (x2)) (fun y2 => ear (fun q => q) y2 (fun y2 => some (1 : Int32)))
def f_X5_bearTwins (x1 : Int32) (σ : St) : Option Int32 := f_X5_bearTwins_J2 x1 (0 : Int32) σ
set_option maxHeartbeats 4000000 in
set_option maxRecDepth 100000 in
theorem c_X5_bearTwins (l : Launch) (G : EV)  (x1 : Int32) (σ : St) (r : Int32) (hE : f_X5_bearTwins x1 σ = some r) : MetI l G yX5_bearTwins wsX5_bearTwins rmX5_bearTwins [.ref (aD G 20), .int x1] (wC G σ) r (wC G σ) := by
  refine Met.of0 (Qf := PI G r (wC G σ)) (cc := cX5_bearTwins) (maxL := 4) (ret := (some .boolean)) (by decide) rfl (Nat.le_of_ble_eq_true rfl) ?_
  intro p e s m below meth c args A hx hb hr hts hown hlocks hml hin0 hA hS hP hK hD hX ls hl
  have hl : lv_has ls 4 [(0, .ref (aD G 20)), (1, .int x1)] := hl
  generalize hQ : MQ below (PI G r (wC G σ) A) args s 0 0 A = Q
  unfold f_X5_bearTwins at hE
  have J_2 : ∀ (x2 : Int32) (H : Heap) (locs : List Loc) (ls : Array Slot), va_P G.1 vwCl (wC G σ) H → va_D A (wC G σ) → va_S A s.heap H locs → lv_has ls 4 [(0, .ref (aD G 20)), (1, .int x1), (2, .int x2)] → f_X5_bearTwins_J2 x1 x2 σ = some r → W p l e rmX5_bearTwins s m args below meth c H locs 0 0 Q (F0 m 2 ls []) := by
    intro x2 H locs ls hP hD hS hl hE
    unfold f_X5_bearTwins_J2 at hE
    obtain ⟨y2, hL, hE2⟩ := bnd_some hE
    refine loop_W (body := f_X5_bearTwins_L2 x1 σ) (y := y2) (P := fun v2 => ∀ (H : Heap) (locs : List Loc) (ls : Array Slot), va_P G.1 vwCl (wC G σ) H → va_D A (wC G σ) → va_S A s.heap H locs → lv_has ls 4 [(0, .ref (aD G 20)), (1, .int x1), (2, .int v2)] → W p l e rmX5_bearTwins s m args below meth c H locs 0 0 Q (F0 m 2 ls [])) ?_ _ _ hL H locs ls hP hD hS hl
    clear hP hD hS hl hE hL
    intro v2 t2 hE hN2 hY2
    intro H locs ls hP hD hS hl
    unfold f_X5_bearTwins_L2 at hE
    refine lv_iload_n hx hb dX5_bearTwins_2 rfl (lv_at hl 2 rfl) ?_
    refine lv_bipush (v := (80 : Int32)) hx hb dX5_bearTwins_3 (by decide) ?_
    refine lv_icmp_ge (tgt := 47) hx hb dX5_bearTwins_5 (by decide) (fun c_ => ?_) (fun c_ => ?_)
    · have hE := ip c_ hE
      have e9 := hY2 _ (Option.some.inj hE).symm
      have hE := ear_r _ e9 hE2
      refine lv_iconst (v := (1 : Int32)) hx hb dX5_bearTwins_47 (by decide) ?_
      rw [← hQ, ← Option.some.inj hE]
      exact rz (v := (1 : Int32)) hx hb hr hlocks hK hP hD hS rfl dX5_bearTwins_48
    · have hE := im c_ hE
      refine lv_aload_n hx hb dX5_bearTwins_8 rfl (lv_at hl 0 rfl) ?_
      refine va_get (ci := 5) (v := .ref (aD G 8)) (C := RX5) (T := TX5) (N := 8) hx hb hts (fun _ h => List.mem_cons_of_mem _ (List.mem_append_right _ h)) hown hK hP 20 rfl rfl 7 (by decide) (hts (.fieldLink RX5 34 "FillCells$Windows" "shares" "[I") (List.mem_of_getElem? (i := 1) rfl)) (fun _ h9 => h9) rfl dX5_bearTwins_9 ?_
      refine lv_bipush (v := (80 : Int32)) hx hb dX5_bearTwins_12 (by decide) ?_
      refine lv_iload_n hx hb dX5_bearTwins_14 rfl (lv_at hl 1 rfl) ?_
      refine lv_imul hx hb dX5_bearTwins_15 ?_
      refine lv_iload_n hx hb dX5_bearTwins_16 rfl (lv_at hl 2 rfl) ?_
      refine lv_iadd hx hb dX5_bearTwins_17 ?_
      obtain ⟨h_i, hE⟩ := gd_some hE
      refine ldC hx hb hK hP 8 (by decide) h_i dX5_bearTwins_18 ?_
      refine lv_istore_n (lv' := [(3, .int (rd σ 8 (((80 : Int32) * x1) + v2))), (0, .ref (aD G 20)), (1, .int x1), (2, .int v2)]) hx hb dX5_bearTwins_19 rfl hl (by decide) rfl (fun ls hl => ?_)
      refine lv_iload_n hx hb dX5_bearTwins_20 rfl (lv_at hl 0 rfl) ?_
      refine lv_if_le (tgt := 41) hx hb dX5_bearTwins_21 (by decide) (fun c_ => ?_) (fun c_ => ?_)
      · have hE := ip c_ hE
        refine lv_iinc (v := (v2 + (1 : Int32))) (lv' := [(2, .int (v2 + (1 : Int32))), (3, .int (rd σ 8 (((80 : Int32) * x1) + v2))), (0, .ref (aD G 20)), (1, .int x1)]) hx hb dX5_bearTwins_41 hl (k := 3) rfl rfl (by decide) rfl (fun ls hl => ?_)
        refine lv_goto (tgt := 2) hx hb dX5_bearTwins_44 (by decide) ?_
        exact hN2 _ (Option.some.inj hE).symm _ _ _ hP hD hS (lv_sub hl [2, 3, 0] rfl)
      · have hE := im c_ hE
        refine lv_aload_n hx hb dX5_bearTwins_24 rfl (lv_at hl 1 rfl) ?_
        refine va_get (ci := 5) (v := .ref (aD G 5)) (C := RX5) (T := TX5) (N := 8) hx hb hts (fun _ h => List.mem_cons_of_mem _ (List.mem_append_right _ h)) hown hK hP 20 rfl rfl 4 (by decide) (hts (.fieldLink RX5 24 "FillCells$Windows" "sums" "[I") (List.mem_of_getElem? (i := 2) rfl)) (fun _ h9 => h9) rfl dX5_bearTwins_25 ?_
        refine lv_iload_n hx hb dX5_bearTwins_28 rfl (lv_at hl 3 rfl) ?_
        obtain ⟨h_i, hE⟩ := gd_some hE
        refine ldC hx hb hK hP 5 (by decide) h_i dX5_bearTwins_29 ?_
        refine lv_iload_n hx hb dX5_bearTwins_30 rfl (lv_at hl 0 rfl) ?_
        refine lv_iadd hx hb dX5_bearTwins_31 ?_
        refine lv_aload_n hx hb dX5_bearTwins_32 rfl (lv_at hl 1 rfl) ?_
        refine va_get (ci := 5) (v := .int (gI σ 9)) (C := RX5) (T := TX5) (N := 8) hx hb hts (fun _ h => List.mem_cons_of_mem _ (List.mem_append_right _ h)) hown hK hP 20 rfl rfl 3 (by decide) (hts (.fieldLink RX5 21 "FillCells$Windows" "high" "I") (List.mem_of_getElem? (i := 3) rfl)) (fun _ h9 => h9) rfl dX5_bearTwins_33 ?_
        refine lv_icmp_le (tgt := 41) hx hb dX5_bearTwins_36 (by decide) (fun c_ => ?_) (fun c_ => ?_)
        · have hE := ip c_ hE
          refine lv_iinc (v := (v2 + (1 : Int32))) (lv' := [(2, .int (v2 + (1 : Int32))), (3, .int (rd σ 8 (((80 : Int32) * x1) + v2))), (0, .ref (aD G 20)), (1, .int x1)]) hx hb dX5_bearTwins_41 hl (k := 3) rfl rfl (by decide) rfl (fun ls hl => ?_)
          refine lv_goto (tgt := 2) hx hb dX5_bearTwins_44 (by decide) ?_
          exact hN2 _ (Option.some.inj hE).symm _ _ _ hP hD hS (lv_sub hl [2, 3, 0] rfl)
        · have hE := im c_ hE
          refine lv_iconst (v := (0 : Int32)) hx hb dX5_bearTwins_39 (by decide) ?_
          have hE := ear_l _ (hY2 _ (Option.some.inj hE).symm) hE2
          rw [← hQ, ← Option.some.inj hE]
          exact rz (v := (0 : Int32)) hx hb hr hlocks hK hP hD hS rfl dX5_bearTwins_40
  refine lv_iconst (v := (0 : Int32)) hx hb dX5_bearTwins_0 (by decide) ?_
  refine lv_istore_n (lv' := [(2, .int (0 : Int32)), (0, .ref (aD G 20)), (1, .int x1)]) hx hb dX5_bearTwins_1 rfl hl (by decide) rfl (fun ls hl => ?_)
  exact J_2 (0 : Int32) _ _ _ hP hD hS (lv_sub hl [1, 2, 0] rfl) hE
abbrev rmX5_atLeast : Room := { frames := 0, cells := 0, slots := 0, locals := 0 }
def f_X5_atLeast_L4 (σ : St) (v4 : Int32 × Int32) : Option (((Int32)) ⊕ (Int32 × Int32)) := if (80 : Int32) ≤ v4.2 then (some (.inl (v4.1))) else (gd v4.2 80 (if (rd σ 5 v4.2) = (-1 : Int32) then (some (.inr (v4.1, (v4.2 + (1 : Int32))))) else (gd v4.2 80 (gd v4.1 80 (if (rd σ 5 v4.1) ≤ (rd σ 5 v4.2) then (some (.inr (v4.1, (v4.2 + (1 : Int32))))) else (some (.inr (v4.2, (v4.2 + (1 : Int32))))))))))
def f_X5_atLeast_J4 (x1 : Int32) (x2 : Int32) (σ : St) : Option Int32 := bnd (loopN (f_X5_atLeast_L4 σ) 4096 (x1, x2)) (fun y4 => some y4)
def f_X5_atLeast (σ : St) : Option Int32 := f_X5_atLeast_J4 (0 : Int32) (1 : Int32) σ
set_option maxHeartbeats 4000000 in
set_option maxRecDepth 100000 in
theorem c_X5_atLeast (l : Launch) (G : EV)   (σ : St) (r : Int32) (hE : f_X5_atLeast σ = some r) : MetI l G yX5_atLeast wsX5_atLeast rmX5_atLeast [.ref (aD G 20)] (wC G σ) r (wC G σ) := by
  refine Met.of0 (Qf := PI G r (wC G σ)) (cc := cX5_atLeast) (maxL := 3) (ret := (some .int)) (by decide) rfl (Nat.le_of_ble_eq_true rfl) ?_
  intro p e s m below meth c args A hx hb hr hts hown hlocks hml hin0 hA hS hP hK hD hX ls hl
  have hl : lv_has ls 3 [(0, .ref (aD G 20))] := hl
  generalize hQ : MQ below (PI G r (wC G σ) A) args s 0 0 A = Q
  unfold f_X5_atLeast at hE
  have J_4 : ∀ (x1 : Int32) (x2 : Int32) (H : Heap) (locs : List Loc) (ls : Array Slot), va_P G.1 vwCl (wC G σ) H → va_D A (wC G σ) → va_S A s.heap H locs → lv_has ls 3 [(0, .ref (aD G 20)), (1, .int x1), (2, .int x2)] → f_X5_atLeast_J4 x1 x2 σ = some r → W p l e rmX5_atLeast s m args below meth c H locs 0 0 Q (F0 m 4 ls []) := by
    intro x1 x2 H locs ls hP hD hS hl hE
    unfold f_X5_atLeast_J4 at hE
    obtain ⟨y4, hL, hE4⟩ := bnd_some hE
    refine loop_W (body := f_X5_atLeast_L4 σ) (y := y4) (P := fun v4 => ∀ (H : Heap) (locs : List Loc) (ls : Array Slot), va_P G.1 vwCl (wC G σ) H → va_D A (wC G σ) → va_S A s.heap H locs → lv_has ls 3 [(0, .ref (aD G 20)), (1, .int v4.1), (2, .int v4.2)] → W p l e rmX5_atLeast s m args below meth c H locs 0 0 Q (F0 m 4 ls [])) ?_ _ _ hL H locs ls hP hD hS hl
    clear hP hD hS hl hE hL
    intro v4 t4 hE hN4 hY4
    intro H locs ls hP hD hS hl
    unfold f_X5_atLeast_L4 at hE
    refine lv_iload_n hx hb dX5_atLeast_4 rfl (lv_at hl 2 rfl) ?_
    refine lv_bipush (v := (80 : Int32)) hx hb dX5_atLeast_5 (by decide) ?_
    refine lv_icmp_ge (tgt := 43) hx hb dX5_atLeast_7 (by decide) (fun c_ => ?_) (fun c_ => ?_)
    · have hE := ip c_ hE
      have e9 := hY4 _ (Option.some.inj hE).symm
      have hE := hE4
      rw [← e9] at hE
      refine lv_iload_n hx hb dX5_atLeast_43 rfl (lv_at hl 1 rfl) ?_
      rw [← hQ, ← Option.some.inj hE]
      exact ri hx hb hr hlocks hK hP hD hS dX5_atLeast_44
    · have hE := im c_ hE
      refine lv_aload_n hx hb dX5_atLeast_10 rfl (lv_at hl 0 rfl) ?_
      refine va_get (ci := 5) (v := .ref (aD G 5)) (C := RX5) (T := TX5) (N := 8) hx hb hts (fun _ h => List.mem_cons_of_mem _ (List.mem_append_right _ h)) hown hK hP 20 rfl rfl 4 (by decide) (hts (.fieldLink RX5 24 "FillCells$Windows" "sums" "[I") (List.mem_of_getElem? (i := 1) rfl)) (fun _ h9 => h9) rfl dX5_atLeast_11 ?_
      refine lv_iload_n hx hb dX5_atLeast_14 rfl (lv_at hl 2 rfl) ?_
      obtain ⟨h_i, hE⟩ := gd_some hE
      refine ldC hx hb hK hP 5 (by decide) h_i dX5_atLeast_15 ?_
      refine lv_iconst (v := (-1 : Int32)) hx hb dX5_atLeast_16 (by decide) ?_
      refine lv_icmp_eq (tgt := 37) hx hb dX5_atLeast_17 (by decide) (fun c_ => ?_) (fun c_ => ?_)
      · have hE := ip c_ hE
        refine lv_iinc (v := (v4.2 + (1 : Int32))) (lv' := [(2, .int (v4.2 + (1 : Int32))), (0, .ref (aD G 20)), (1, .int v4.1)]) hx hb dX5_atLeast_37 hl (k := 2) rfl rfl (by decide) rfl (fun ls hl => ?_)
        refine lv_goto (tgt := 4) hx hb dX5_atLeast_40 (by decide) ?_
        exact hN4 _ (Option.some.inj hE).symm _ _ _ hP hD hS (lv_sub hl [1, 2, 0] rfl)
      · have hE := im c_ hE
        refine lv_aload_n hx hb dX5_atLeast_20 rfl (lv_at hl 0 rfl) ?_
        refine va_get (ci := 5) (v := .ref (aD G 5)) (C := RX5) (T := TX5) (N := 8) hx hb hts (fun _ h => List.mem_cons_of_mem _ (List.mem_append_right _ h)) hown hK hP 20 rfl rfl 4 (by decide) (hts (.fieldLink RX5 24 "FillCells$Windows" "sums" "[I") (List.mem_of_getElem? (i := 1) rfl)) (fun _ h9 => h9) rfl dX5_atLeast_21 ?_
        refine lv_iload_n hx hb dX5_atLeast_24 rfl (lv_at hl 2 rfl) ?_
        obtain ⟨h_i, hE⟩ := gd_some hE
        refine ldC hx hb hK hP 5 (by decide) h_i dX5_atLeast_25 ?_
        refine lv_aload_n hx hb dX5_atLeast_26 rfl (lv_at hl 0 rfl) ?_
        refine va_get (ci := 5) (v := .ref (aD G 5)) (C := RX5) (T := TX5) (N := 8) hx hb hts (fun _ h => List.mem_cons_of_mem _ (List.mem_append_right _ h)) hown hK hP 20 rfl rfl 4 (by decide) (hts (.fieldLink RX5 24 "FillCells$Windows" "sums" "[I") (List.mem_of_getElem? (i := 1) rfl)) (fun _ h9 => h9) rfl dX5_atLeast_27 ?_
        refine lv_iload_n hx hb dX5_atLeast_30 rfl (lv_at hl 1 rfl) ?_
        obtain ⟨h_i, hE⟩ := gd_some hE
        refine ldC hx hb hK hP 5 (by decide) h_i dX5_atLeast_31 ?_
        refine lv_icmp_ge (tgt := 37) hx hb dX5_atLeast_32 (by decide) (fun c_ => ?_) (fun c_ => ?_)
        · have hE := ip c_ hE
          refine lv_iinc (v := (v4.2 + (1 : Int32))) (lv' := [(2, .int (v4.2 + (1 : Int32))), (0, .ref (aD G 20)), (1, .int v4.1)]) hx hb dX5_atLeast_37 hl (k := 2) rfl rfl (by decide) rfl (fun ls hl => ?_)
          refine lv_goto (tgt := 4) hx hb dX5_atLeast_40 (by decide) ?_
          exact hN4 _ (Option.some.inj hE).symm _ _ _ hP hD hS (lv_sub hl [1, 2, 0] rfl)
        · have hE := im c_ hE
          refine lv_iload_n hx hb dX5_atLeast_35 rfl (lv_at hl 2 rfl) ?_
          refine lv_istore_n (lv' := [(1, .int v4.2), (0, .ref (aD G 20)), (2, .int v4.2)]) hx hb dX5_atLeast_36 rfl hl (by decide) rfl (fun ls hl => ?_)
          refine lv_iinc (v := (v4.2 + (1 : Int32))) (lv' := [(2, .int (v4.2 + (1 : Int32))), (1, .int v4.2), (0, .ref (aD G 20))]) hx hb dX5_atLeast_37 hl (k := 2) rfl rfl (by decide) rfl (fun ls hl => ?_)
          refine lv_goto (tgt := 4) hx hb dX5_atLeast_40 (by decide) ?_
          exact hN4 _ (Option.some.inj hE).symm _ _ _ hP hD hS (lv_sub hl [2, 1, 0] rfl)
  refine lv_iconst (v := (0 : Int32)) hx hb dX5_atLeast_0 (by decide) ?_
  refine lv_istore_n (lv' := [(1, .int (0 : Int32)), (0, .ref (aD G 20))]) hx hb dX5_atLeast_1 rfl hl (by decide) rfl (fun ls hl => ?_)
  refine lv_iconst (v := (1 : Int32)) hx hb dX5_atLeast_2 (by decide) ?_
  refine lv_istore_n (lv' := [(2, .int (1 : Int32)), (1, .int (0 : Int32)), (0, .ref (aD G 20))]) hx hb dX5_atLeast_3 rfl hl (by decide) rfl (fun ls hl => ?_)
  exact J_4 (0 : Int32) (1 : Int32) _ _ _ hP hD hS (lv_sub hl [2, 1, 0] rfl) hE
abbrev rmX5_has : Room := { frames := 0, cells := 0, slots := 0, locals := 0 }

def f_X5_has (x1 x2 : Int32) (σ : St) : Option Int32 := if ((x2 / (10 : Int32)) - (x1 / (10 : Int32))) < 0 then (some (0 : Int32)) else (if (gI σ 6) ≤ ((x2 / (10 : Int32)) - (x1 / (10 : Int32))) then (some (0 : Int32)) else (if ((jrem x2 (10 : Int32)) - (jrem x1 (10 : Int32))) < 0 then (some (0 : Int32)) else (if (gI σ 7) ≤ ((jrem x2 (10 : Int32)) - (jrem x1 (10 : Int32))) then (some (0 : Int32)) else (some (1 : Int32)))))
set_option maxHeartbeats 4000000 in
set_option maxRecDepth 100000 in
theorem c_X5_has (l : Launch) (G : EV)  (x1 x2 : Int32) (σ : St) (r : Int32) (hE : f_X5_has x1 x2 σ = some r) : MetI l G yX5_has wsX5_has rmX5_has [.ref (aD G 20), .int x1, .int x2] (wC G σ) r (wC G σ) := by
  refine Met.of0 (Qf := PI G r (wC G σ)) (cc := cX5_has) (maxL := 5) (ret := (some .boolean)) (by decide) rfl (Nat.le_of_ble_eq_true rfl) ?_
  intro p e s m below meth c args A hx hb hr hts hown hlocks hml hin0 hA hS hP hK hD hX ls hl
  have hl : lv_has ls 5 [(0, .ref (aD G 20)), (1, .int x1), (2, .int x2)] := hl
  generalize hQ : MQ below (PI G r (wC G σ) A) args s 0 0 A = Q
  unfold f_X5_has at hE
  refine lv_iload_n hx hb dX5_has_0 rfl (lv_at hl 2 rfl) ?_
  refine lv_bipush (v := (10 : Int32)) hx hb dX5_has_1 (by decide) ?_
  refine lv_idiv hx hb dX5_has_3 (by decide) ?_
  refine lv_iload_n hx hb dX5_has_4 rfl (lv_at hl 1 rfl) ?_
  refine lv_bipush (v := (10 : Int32)) hx hb dX5_has_5 (by decide) ?_
  refine lv_idiv hx hb dX5_has_7 (by decide) ?_
  refine lv_isub hx hb dX5_has_8 ?_
  refine lv_istore_n (lv' := [(3, .int ((x2 / (10 : Int32)) - (x1 / (10 : Int32)))), (0, .ref (aD G 20)), (1, .int x1), (2, .int x2)]) hx hb dX5_has_9 rfl hl (by decide) rfl (fun ls hl => ?_)
  refine lv_iload_n hx hb dX5_has_10 rfl (lv_at hl 3 rfl) ?_
  refine lv_bipush (v := (10 : Int32)) hx hb dX5_has_11 (by decide) ?_
  refine lv_irem hx hb dX5_has_13 (by decide) ?_
  refine lv_iload_n hx hb dX5_has_14 rfl (lv_at hl 2 rfl) ?_
  refine lv_bipush (v := (10 : Int32)) hx hb dX5_has_15 (by decide) ?_
  refine lv_irem hx hb dX5_has_17 (by decide) ?_
  refine lv_isub hx hb dX5_has_18 ?_
  refine lv_istore (lv' := [(4, .int ((jrem x2 (10 : Int32)) - (jrem x1 (10 : Int32)))), (3, .int ((x2 / (10 : Int32)) - (x1 / (10 : Int32)))), (0, .ref (aD G 20)), (1, .int x1), (2, .int x2)]) hx hb dX5_has_19 hl (by decide) rfl (fun ls hl => ?_)
  refine lv_iload_n hx hb dX5_has_21 rfl (lv_at hl 1 rfl) ?_
  refine lv_if_lt (tgt := 51) hx hb dX5_has_22 (by decide) (fun c_ => ?_) (fun c_ => ?_)
  · have hE := ip c_ hE
    refine lv_iconst (v := (0 : Int32)) hx hb dX5_has_51 (by decide) ?_
    rw [← hQ, ← Option.some.inj hE]
    exact rz (v := (0 : Int32)) hx hb hr hlocks hK hP hD hS rfl dX5_has_52
  · have hE := im c_ hE
    refine lv_iload_n hx hb dX5_has_25 rfl (lv_at hl 1 rfl) ?_
    refine lv_aload_n hx hb dX5_has_26 rfl (lv_at hl 2 rfl) ?_
    refine va_get (ci := 5) (v := .int (gI σ 6)) (C := RX5) (T := TX5) (N := 8) hx hb hts (fun _ h => List.mem_cons_of_mem _ (List.mem_append_right _ h)) hown hK hP 20 rfl rfl 0 (by decide) (hts (.fieldLink RX5 9 "FillCells$Windows" "height" "I") (List.mem_of_getElem? (i := 1) rfl)) (fun _ h9 => h9) rfl dX5_has_27 ?_
    refine lv_icmp_ge (tgt := 51) hx hb dX5_has_30 (by decide) (fun c_ => ?_) (fun c_ => ?_)
    · have hE := ip c_ hE
      refine lv_iconst (v := (0 : Int32)) hx hb dX5_has_51 (by decide) ?_
      rw [← hQ, ← Option.some.inj hE]
      exact rz (v := (0 : Int32)) hx hb hr hlocks hK hP hD hS rfl dX5_has_52
    · have hE := im c_ hE
      refine lv_iload hx hb dX5_has_33 (lv_at hl 0 rfl) ?_
      refine lv_if_lt (tgt := 51) hx hb dX5_has_35 (by decide) (fun c_ => ?_) (fun c_ => ?_)
      · have hE := ip c_ hE
        refine lv_iconst (v := (0 : Int32)) hx hb dX5_has_51 (by decide) ?_
        rw [← hQ, ← Option.some.inj hE]
        exact rz (v := (0 : Int32)) hx hb hr hlocks hK hP hD hS rfl dX5_has_52
      · have hE := im c_ hE
        refine lv_iload hx hb dX5_has_38 (lv_at hl 0 rfl) ?_
        refine lv_aload_n hx hb dX5_has_40 rfl (lv_at hl 2 rfl) ?_
        refine va_get (ci := 5) (v := .int (gI σ 7)) (C := RX5) (T := TX5) (N := 8) hx hb hts (fun _ h => List.mem_cons_of_mem _ (List.mem_append_right _ h)) hown hK hP 20 rfl rfl 1 (by decide) (hts (.fieldLink RX5 15 "FillCells$Windows" "width" "I") (List.mem_of_getElem? (i := 2) rfl)) (fun _ h9 => h9) rfl dX5_has_41 ?_
        refine lv_icmp_ge (tgt := 51) hx hb dX5_has_44 (by decide) (fun c_ => ?_) (fun c_ => ?_)
        · have hE := ip c_ hE
          refine lv_iconst (v := (0 : Int32)) hx hb dX5_has_51 (by decide) ?_
          rw [← hQ, ← Option.some.inj hE]
          exact rz (v := (0 : Int32)) hx hb hr hlocks hK hP hD hS rfl dX5_has_52
        · have hE := im c_ hE
          refine lv_iconst (v := (1 : Int32)) hx hb dX5_has_47 (by decide) ?_
          refine lv_goto (tgt := 52) hx hb dX5_has_48 (by decide) ?_
          rw [← hQ, ← Option.some.inj hE]
          exact rz (v := (1 : Int32)) hx hb hr hlocks hK hP hD hS rfl dX5_has_52
abbrev rmX5_shiftOne : Room := { frames := 1, cells := 0, slots := 0, locals := 25 }
def f_X5_shiftOne_J76 (t0 : Int32) (t1 : Int32) (σ : St) : Option St := bnd (f_X5_spread 7 t1 t0 σ) (fun r5 => some r5)
def f_X5_shiftOne_J50 (x1 : Int32) (x4 : Int32) (σ : St) : Option St := bnd (f_X5_isFull x1 σ) (fun r4 => if x4 = r4 then (some σ) else (if x4 = 0 then (f_X5_shiftOne_J76 (1 : Int32) x1 σ) else (f_X5_shiftOne_J76 (-1 : Int32) x1 σ)))
def f_X5_shiftOne_J47 (x1 : Int32) (x4 : Int32) (t0 : Int32) (t1 : Int32) (σ : St) : Option St := bnd (f_X5_spread 6 t1 t0 σ) (fun r6 => f_X5_shiftOne_J50 x1 x4 r6)
def f_X5_shiftOne (x1 x2 : Int32) (σ : St) : Option St := bnd (f_X5_isThin x1 σ) (fun r1 => bnd (f_X5_isFull x1 σ) (fun r2 => gd x1 80 (gd x1 80 (bnd (f_X5_isThin x1 (sA σ 5 x1 ((rd σ 5 x1) + x2))) (fun r3 => if r1 = r3 then (f_X5_shiftOne_J50 x1 r2 (sA σ 5 x1 ((rd σ 5 x1) + x2))) else (if r1 = 0 then (f_X5_shiftOne_J47 x1 r2 (1 : Int32) x1 (sA σ 5 x1 ((rd σ 5 x1) + x2))) else (f_X5_shiftOne_J47 x1 r2 (-1 : Int32) x1 (sA σ 5 x1 ((rd σ 5 x1) + x2)))))))))
set_option maxHeartbeats 4000000 in
set_option maxRecDepth 100000 in
theorem c_X5_shiftOne (l : Launch) (G : EV)  (x1 x2 : Int32) (σ : St) (r : St) (hE : f_X5_shiftOne x1 x2 σ = some r) : MetV l G yX5_shiftOne wsX5_shiftOne rmX5_shiftOne [.ref (aD G 20), .int x1, .int x2] (wC G σ) (wC G r) := by
  refine Met.of0 (Qf := PV G (wC G r)) (cc := cX5_shiftOne) (maxL := 5) (ret := none) (by decide) rfl (Nat.le_of_ble_eq_true rfl) ?_
  intro p e s m below meth c args A hx hb hr hts hown hlocks hml hin0 hA hS hP hK hD hX ls hl
  have hl : lv_has ls 5 [(0, .ref (aD G 20)), (1, .int x1), (2, .int x2)] := hl
  generalize hQ : MQ below (PV G (wC G r) A) args s 0 0 A = Q
  unfold f_X5_shiftOne at hE
  have J_76 : ∀ (t0 : Int32) (t1 : Int32) (σ : St) (H : Heap) (locs : List Loc) (ls : Array Slot), va_P G.1 vwCl (wC G σ) H → va_D A (wC G σ) → va_S A s.heap H locs → lv_has ls 5 [] → f_X5_shiftOne_J76 t0 t1 σ = some r → W p l e rmX5_shiftOne s m args below meth c H locs 0 0 Q (F0 m 76 ls [.int t0, .int t1, .ref (aD G 7), .ref (aD G 20)]) := by
    intro t0 t1 σ H locs ls hP hD hS hl hE
    unfold f_X5_shiftOne_J76 at hE
    obtain ⟨r5, hC, hE⟩ := bnd_some hE
    refine cv (va_runV (As := [.ref (aD G 7), .int t1, .int t0]) (rest := []) ⟨hx, hb, hml, hown, hts⟩ (c_X5_spread l G 7 (by decide) t1 t0 σ r5 hC _) (cwV 3 hts gX5_shiftOne_X5_spread rfl rfl rfl (by decide +kernel) ⟨Nat.le_of_ble_eq_true rfl, Nat.le_of_ble_eq_true rfl⟩) (preV hK hP hD hS hA hX (va_recv hK hP (ci := 5) (q0 := 20) rfl rfl)) rfl rfl hl.1 rfl (lv_room (Nat.le_of_ble_eq_true rfl)) dX5_shiftOne_76 ⟨Nat.le_of_ble_eq_true rfl, Nat.le_of_ble_eq_true rfl⟩) hD hS hA (fun H locs hP hD hS => ?_)
    rw [← hQ, ← Option.some.inj hE]
    exact rv hx hb hr hlocks hK hP hD hS dX5_shiftOne_79
  have J_50 : ∀ (x4 : Int32) (σ : St) (H : Heap) (locs : List Loc) (ls : Array Slot), va_P G.1 vwCl (wC G σ) H → va_D A (wC G σ) → va_S A s.heap H locs → lv_has ls 5 [(0, .ref (aD G 20)), (1, .int x1), (4, .int x4)] → f_X5_shiftOne_J50 x1 x4 σ = some r → W p l e rmX5_shiftOne s m args below meth c H locs 0 0 Q (F0 m 50 ls []) := by
    intro x4 σ H locs ls hP hD hS hl hE
    unfold f_X5_shiftOne_J50 at hE
    refine lv_iload hx hb dX5_shiftOne_50 (lv_at hl 2 rfl) ?_
    refine lv_aload_n hx hb dX5_shiftOne_52 rfl (lv_at hl 0 rfl) ?_
    refine lv_iload_n hx hb dX5_shiftOne_53 rfl (lv_at hl 1 rfl) ?_
    obtain ⟨r4, hC, hE⟩ := bnd_some hE
    refine ci (va_runV (As := [.int x1]) (rest := [.int x4]) ⟨hx, hb, hml, hown, hts⟩ (c_X5_isFull l G x1 σ r4 hC _) (cwV 1 hts gX5_shiftOne_X5_isFull rfl rfl rfl (by decide +kernel) ⟨Nat.le_of_ble_eq_true rfl, Nat.le_of_ble_eq_true rfl⟩) (preV hK hP hD hS hA hX (va_recv hK hP (ci := 5) (q0 := 20) rfl rfl)) rfl rfl hl.1 rfl (lv_room (Nat.le_of_ble_eq_true rfl)) dX5_shiftOne_54 ⟨Nat.le_of_ble_eq_true rfl, Nat.le_of_ble_eq_true rfl⟩) hD hS hA (fun H locs hP hD hS => ?_)
    refine lv_icmp_eq (tgt := 79) hx hb dX5_shiftOne_57 (by decide) (fun c_ => ?_) (fun c_ => ?_)
    · have hE := ip c_ hE
      rw [← hQ, ← Option.some.inj hE]
      exact rv hx hb hr hlocks hK hP hD hS dX5_shiftOne_79
    · have hE := im c_ hE
      refine lv_aload_n hx hb dX5_shiftOne_60 rfl (lv_at hl 0 rfl) ?_
      refine lv_aload_n hx hb dX5_shiftOne_61 rfl (lv_at hl 0 rfl) ?_
      refine va_get (ci := 5) (v := .ref (aD G 7)) (C := RX5) (T := TX5) (N := 8) hx hb hts (fun _ h => List.mem_cons_of_mem _ (List.mem_append_right _ h)) hown hK hP 20 rfl rfl 6 (by decide) (hts (.fieldLink RX5 31 "FillCells$Windows" "fullOver" "[I") (List.mem_of_getElem? (i := 3) rfl)) (fun _ h9 => h9) rfl dX5_shiftOne_62 ?_
      refine lv_iload_n hx hb dX5_shiftOne_65 rfl (lv_at hl 1 rfl) ?_
      refine lv_iload hx hb dX5_shiftOne_66 (lv_at hl 2 rfl) ?_
      refine lv_if_eq (tgt := 75) hx hb dX5_shiftOne_68 (by decide) (fun c_ => ?_) (fun c_ => ?_)
      · have hE := ip c_ hE
        refine lv_iconst (v := (1 : Int32)) hx hb dX5_shiftOne_75 (by decide) ?_
        exact J_76 (1 : Int32) x1 σ _ _ _ hP hD hS (lv_sub hl [] rfl) hE
      · have hE := im c_ hE
        refine lv_iconst (v := (-1 : Int32)) hx hb dX5_shiftOne_71 (by decide) ?_
        refine lv_goto (tgt := 76) hx hb dX5_shiftOne_72 (by decide) ?_
        exact J_76 (-1 : Int32) x1 σ _ _ _ hP hD hS (lv_sub hl [] rfl) hE
  have J_47 : ∀ (x4 : Int32) (t0 : Int32) (t1 : Int32) (σ : St) (H : Heap) (locs : List Loc) (ls : Array Slot), va_P G.1 vwCl (wC G σ) H → va_D A (wC G σ) → va_S A s.heap H locs → lv_has ls 5 [(0, .ref (aD G 20)), (1, .int x1), (4, .int x4)] → f_X5_shiftOne_J47 x1 x4 t0 t1 σ = some r → W p l e rmX5_shiftOne s m args below meth c H locs 0 0 Q (F0 m 47 ls [.int t0, .int t1, .ref (aD G 6), .ref (aD G 20)]) := by
    intro x4 t0 t1 σ H locs ls hP hD hS hl hE
    unfold f_X5_shiftOne_J47 at hE
    obtain ⟨r6, hC, hE⟩ := bnd_some hE
    refine cv (va_runV (As := [.ref (aD G 6), .int t1, .int t0]) (rest := []) ⟨hx, hb, hml, hown, hts⟩ (c_X5_spread l G 6 (by decide) t1 t0 σ r6 hC _) (cwV 3 hts gX5_shiftOne_X5_spread rfl rfl rfl (by decide +kernel) ⟨Nat.le_of_ble_eq_true rfl, Nat.le_of_ble_eq_true rfl⟩) (preV hK hP hD hS hA hX (va_recv hK hP (ci := 5) (q0 := 20) rfl rfl)) rfl rfl hl.1 rfl (lv_room (Nat.le_of_ble_eq_true rfl)) dX5_shiftOne_47 ⟨Nat.le_of_ble_eq_true rfl, Nat.le_of_ble_eq_true rfl⟩) hD hS hA (fun H locs hP hD hS => ?_)
    exact J_50 x4 r6 _ _ _ hP hD hS (lv_sub hl [0, 1, 2] rfl) hE
  refine lv_aload_n hx hb dX5_shiftOne_0 rfl (lv_at hl 0 rfl) ?_
  refine lv_iload_n hx hb dX5_shiftOne_1 rfl (lv_at hl 1 rfl) ?_
  obtain ⟨r1, hC, hE⟩ := bnd_some hE
  refine ci (va_runV (As := [.int x1]) (rest := []) ⟨hx, hb, hml, hown, hts⟩ (c_X5_isThin l G x1 σ r1 hC _) (cwV 1 hts gX5_shiftOne_X5_isThin rfl rfl rfl (by decide +kernel) ⟨Nat.le_of_ble_eq_true rfl, Nat.le_of_ble_eq_true rfl⟩) (preV hK hP hD hS hA hX (va_recv hK hP (ci := 5) (q0 := 20) rfl rfl)) rfl rfl hl.1 rfl (lv_room (Nat.le_of_ble_eq_true rfl)) dX5_shiftOne_2 ⟨Nat.le_of_ble_eq_true rfl, Nat.le_of_ble_eq_true rfl⟩) hD hS hA (fun H locs hP hD hS => ?_)
  refine lv_istore_n (lv' := [(3, .int r1), (0, .ref (aD G 20)), (1, .int x1), (2, .int x2)]) hx hb dX5_shiftOne_5 rfl hl (by decide) rfl (fun ls hl => ?_)
  refine lv_aload_n hx hb dX5_shiftOne_6 rfl (lv_at hl 1 rfl) ?_
  refine lv_iload_n hx hb dX5_shiftOne_7 rfl (lv_at hl 2 rfl) ?_
  obtain ⟨r2, hC, hE⟩ := bnd_some hE
  refine ci (va_runV (As := [.int x1]) (rest := []) ⟨hx, hb, hml, hown, hts⟩ (c_X5_isFull l G x1 σ r2 hC _) (cwV 1 hts gX5_shiftOne_X5_isFull rfl rfl rfl (by decide +kernel) ⟨Nat.le_of_ble_eq_true rfl, Nat.le_of_ble_eq_true rfl⟩) (preV hK hP hD hS hA hX (va_recv hK hP (ci := 5) (q0 := 20) rfl rfl)) rfl rfl hl.1 rfl (lv_room (Nat.le_of_ble_eq_true rfl)) dX5_shiftOne_8 ⟨Nat.le_of_ble_eq_true rfl, Nat.le_of_ble_eq_true rfl⟩) hD hS hA (fun H locs hP hD hS => ?_)
  refine lv_istore (lv' := [(4, .int r2), (3, .int r1), (0, .ref (aD G 20)), (1, .int x1), (2, .int x2)]) hx hb dX5_shiftOne_11 hl (by decide) rfl (fun ls hl => ?_)
  refine lv_aload_n hx hb dX5_shiftOne_13 rfl (lv_at hl 2 rfl) ?_
  refine va_get (ci := 5) (v := .ref (aD G 5)) (C := RX5) (T := TX5) (N := 8) hx hb hts (fun _ h => List.mem_cons_of_mem _ (List.mem_append_right _ h)) hown hK hP 20 rfl rfl 4 (by decide) (hts (.fieldLink RX5 24 "FillCells$Windows" "sums" "[I") (List.mem_of_getElem? (i := 1) rfl)) (fun _ h9 => h9) rfl dX5_shiftOne_14 ?_
  refine lv_iload_n hx hb dX5_shiftOne_17 rfl (lv_at hl 3 rfl) ?_
  refine lv_dup2_11 hx hb dX5_shiftOne_18 rfl rfl ?_
  obtain ⟨h_i, hE⟩ := gd_some hE
  refine ldC hx hb hK hP 5 (by decide) h_i dX5_shiftOne_19 ?_
  refine lv_iload_n hx hb dX5_shiftOne_20 rfl (lv_at hl 4 rfl) ?_
  refine lv_iadd hx hb dX5_shiftOne_21 ?_
  obtain ⟨h_i, hE⟩ := gd_some hE
  refine stC hx hb hK hP hD hS 5 (by decide) h_i dX5_shiftOne_22 (fun H locs hP hD hS => ?_)
  refine lv_iload_n hx hb dX5_shiftOne_23 rfl (lv_at hl 1 rfl) ?_
  refine lv_aload_n hx hb dX5_shiftOne_24 rfl (lv_at hl 2 rfl) ?_
  refine lv_iload_n hx hb dX5_shiftOne_25 rfl (lv_at hl 3 rfl) ?_
  obtain ⟨r3, hC, hE⟩ := bnd_some hE
  refine ci (va_runV (As := [.int x1]) (rest := [.int r1]) ⟨hx, hb, hml, hown, hts⟩ (c_X5_isThin l G x1 (sA σ 5 x1 ((rd σ 5 x1) + x2)) r3 hC _) (cwV 1 hts gX5_shiftOne_X5_isThin rfl rfl rfl (by decide +kernel) ⟨Nat.le_of_ble_eq_true rfl, Nat.le_of_ble_eq_true rfl⟩) (preV hK hP hD hS hA hX (va_recv hK hP (ci := 5) (q0 := 20) rfl rfl)) rfl rfl hl.1 rfl (lv_room (Nat.le_of_ble_eq_true rfl)) dX5_shiftOne_26 ⟨Nat.le_of_ble_eq_true rfl, Nat.le_of_ble_eq_true rfl⟩) hD hS hA (fun H locs hP hD hS => ?_)
  refine lv_icmp_eq (tgt := 50) hx hb dX5_shiftOne_29 (by decide) (fun c_ => ?_) (fun c_ => ?_)
  · have hE := ip c_ hE
    exact J_50 r2 (sA σ 5 x1 ((rd σ 5 x1) + x2)) _ _ _ hP hD hS (lv_sub hl [2, 3, 0] rfl) hE
  · have hE := im c_ hE
    refine lv_aload_n hx hb dX5_shiftOne_32 rfl (lv_at hl 2 rfl) ?_
    refine lv_aload_n hx hb dX5_shiftOne_33 rfl (lv_at hl 2 rfl) ?_
    refine va_get (ci := 5) (v := .ref (aD G 6)) (C := RX5) (T := TX5) (N := 8) hx hb hts (fun _ h => List.mem_cons_of_mem _ (List.mem_append_right _ h)) hown hK hP 20 rfl rfl 5 (by decide) (hts (.fieldLink RX5 28 "FillCells$Windows" "thinOver" "[I") (List.mem_of_getElem? (i := 2) rfl)) (fun _ h9 => h9) rfl dX5_shiftOne_34 ?_
    refine lv_iload_n hx hb dX5_shiftOne_37 rfl (lv_at hl 3 rfl) ?_
    refine lv_iload_n hx hb dX5_shiftOne_38 rfl (lv_at hl 1 rfl) ?_
    refine lv_if_eq (tgt := 46) hx hb dX5_shiftOne_39 (by decide) (fun c_ => ?_) (fun c_ => ?_)
    · have hE := ip c_ hE
      refine lv_iconst (v := (1 : Int32)) hx hb dX5_shiftOne_46 (by decide) ?_
      exact J_47 r2 (1 : Int32) x1 (sA σ 5 x1 ((rd σ 5 x1) + x2)) _ _ _ hP hD hS (lv_sub hl [2, 3, 0] rfl) hE
    · have hE := im c_ hE
      refine lv_iconst (v := (-1 : Int32)) hx hb dX5_shiftOne_42 (by decide) ?_
      refine lv_goto (tgt := 47) hx hb dX5_shiftOne_43 (by decide) ?_
      exact J_47 r2 (-1 : Int32) x1 (sA σ 5 x1 ((rd σ 5 x1) + x2)) _ _ _ hP hD hS (lv_sub hl [2, 3, 0] rfl) hE
abbrev rmX5_shift : Room := { frames := 2, cells := 0, slots := 0, locals := 49 }
def f_X5_shift_J100 (x2 : Int32) (x4 : Int32) (x5 : Int32) (x6 : Int32) (x7 : Int32) (σ : St) : Option (((St)) ⊕ (Int32 × St)) := some (.inr ((x7 + (1 : Int32)), σ))
def f_X5_shift_L74 (x2 : Int32) (x4 : Int32) (x5 : Int32) (x6 : Int32) (x7 : Int32) (v74 : Int32 × St) : Option (((St)) ⊕ (Int32 × St)) := if x6 < v74.1 then (some (.inl (v74.2))) else (bnd (f_X5_shiftOne (((10 : Int32) * x7) + v74.1) x2 v74.2) (fun r1 => some (.inr ((v74.1 + (1 : Int32)), r1))))
def f_X5_shift_J74 (x2 : Int32) (x4 : Int32) (x5 : Int32) (x6 : Int32) (x7 : Int32) (x8 : Int32) (σ : St) : Option (((St)) ⊕ (Int32 × St)) := bnd (loopN (f_X5_shift_L74 x2 x4 x5 x6 x7) 4096 (x8, σ)) (fun y74 => f_X5_shift_J100 x2 x4 x5 x6 x7 y74)
def f_X5_shift_L52 (x2 : Int32) (x4 : Int32) (x5 : Int32) (x6 : Int32) (v52 : Int32 × St) : Option (((St)) ⊕ (Int32 × St)) := if x5 < v52.1 then (some (.inl (v52.2))) else (f_X5_shift_J74 x2 x4 x5 x6 v52.1 (jmax (0 : Int32) ((x4 - (gI v52.2 7)) + (1 : Int32))) v52.2)
def f_X5_shift_J52 (x2 : Int32) (x4 : Int32) (x5 : Int32) (x6 : Int32) (x7 : Int32) (σ : St) : Option St := bnd (loopN (f_X5_shift_L52 x2 x4 x5 x6) 4096 (x7, σ)) (fun y52 => some y52)
def f_X5_shift (x1 x2 : Int32) (σ : St) : Option St := f_X5_shift_J52 x2 (jrem x1 (10 : Int32)) (jmin (x1 / (10 : Int32)) ((8 : Int32) - (gI σ 6))) (jmin (jrem x1 (10 : Int32)) ((10 : Int32) - (gI σ 7))) (jmax (0 : Int32) (((x1 / (10 : Int32)) - (gI σ 6)) + (1 : Int32))) σ
set_option maxHeartbeats 4000000 in
set_option maxRecDepth 100000 in
theorem c_X5_shift (l : Launch) (G : EV)  (x1 x2 : Int32) (σ : St) (r : St) (hE : f_X5_shift x1 x2 σ = some r) : MetV l G yX5_shift wsX5_shift rmX5_shift [.ref (aD G 20), .int x1, .int x2] (wC G σ) (wC G r) := by
  refine Met.of0 (Qf := PV G (wC G r)) (cc := cX5_shift) (maxL := 9) (ret := none) (by decide) rfl (Nat.le_of_ble_eq_true rfl) ?_
  intro p e s m below meth c args A hx hb hr hts hown hlocks hml hin0 hA hS hP hK hD hX ls hl
  have hl : lv_has ls 9 [(0, .ref (aD G 20)), (1, .int x1), (2, .int x2)] := hl
  generalize hQ : MQ below (PV G (wC G r) A) args s 0 0 A = Q
  unfold f_X5_shift at hE
  have J_52 : ∀ (x4 : Int32) (x5 : Int32) (x6 : Int32) (x7 : Int32) (σ : St) (H : Heap) (locs : List Loc) (ls : Array Slot), va_P G.1 vwCl (wC G σ) H → va_D A (wC G σ) → va_S A s.heap H locs → lv_has ls 9 [(0, .ref (aD G 20)), (2, .int x2), (4, .int x4), (5, .int x5), (6, .int x6), (7, .int x7)] → f_X5_shift_J52 x2 x4 x5 x6 x7 σ = some r → W p l e rmX5_shift s m args below meth c H locs 0 0 Q (F0 m 52 ls []) := by
    intro x4 x5 x6 x7 σ H locs ls hP hD hS hl hE
    unfold f_X5_shift_J52 at hE
    obtain ⟨y52, hL, hE52⟩ := bnd_some hE
    refine loop_W (body := f_X5_shift_L52 x2 x4 x5 x6) (y := y52) (P := fun v52 => ∀ (H : Heap) (locs : List Loc) (ls : Array Slot), va_P G.1 vwCl (wC G v52.2) H → va_D A (wC G v52.2) → va_S A s.heap H locs → lv_has ls 9 [(0, .ref (aD G 20)), (2, .int x2), (4, .int x4), (5, .int x5), (6, .int x6), (7, .int v52.1)] → W p l e rmX5_shift s m args below meth c H locs 0 0 Q (F0 m 52 ls [])) ?_ _ _ hL H locs ls hP hD hS hl
    clear hP hD hS hl hE hL
    intro v52 t52 hE hN52 hY52
    intro H locs ls hP hD hS hl
    unfold f_X5_shift_L52 at hE
    have J_100 : ∀ (x7 : Int32) (σ : St) (H : Heap) (locs : List Loc) (ls : Array Slot), va_P G.1 vwCl (wC G σ) H → va_D A (wC G σ) → va_S A s.heap H locs → lv_has ls 9 [(0, .ref (aD G 20)), (2, .int x2), (4, .int x4), (5, .int x5), (6, .int x6), (7, .int x7)] → f_X5_shift_J100 x2 x4 x5 x6 x7 σ = some t52 → W p l e rmX5_shift s m args below meth c H locs 0 0 Q (F0 m 100 ls []) := by
      intro x7 σ H locs ls hP hD hS hl hE
      unfold f_X5_shift_J100 at hE
      refine lv_iinc (v := (x7 + (1 : Int32))) (lv' := [(7, .int (x7 + (1 : Int32))), (0, .ref (aD G 20)), (2, .int x2), (4, .int x4), (5, .int x5), (6, .int x6)]) hx hb dX5_shift_100 hl (k := 5) rfl rfl (by decide) rfl (fun ls hl => ?_)
      refine lv_goto (tgt := 52) hx hb dX5_shift_103 (by decide) ?_
      exact hN52 _ (Option.some.inj hE).symm _ _ _ hP hD hS (lv_sub hl [1, 2, 3, 4, 5, 0] rfl)
    have J_74 : ∀ (x7 : Int32) (x8 : Int32) (σ : St) (H : Heap) (locs : List Loc) (ls : Array Slot), va_P G.1 vwCl (wC G σ) H → va_D A (wC G σ) → va_S A s.heap H locs → lv_has ls 9 [(0, .ref (aD G 20)), (2, .int x2), (4, .int x4), (5, .int x5), (6, .int x6), (7, .int x7), (8, .int x8)] → f_X5_shift_J74 x2 x4 x5 x6 x7 x8 σ = some t52 → W p l e rmX5_shift s m args below meth c H locs 0 0 Q (F0 m 74 ls []) := by
      intro x7 x8 σ H locs ls hP hD hS hl hE
      unfold f_X5_shift_J74 at hE
      obtain ⟨y74, hL, hE74⟩ := bnd_some hE
      refine loop_W (body := f_X5_shift_L74 x2 x4 x5 x6 x7) (y := y74) (P := fun v74 => ∀ (H : Heap) (locs : List Loc) (ls : Array Slot), va_P G.1 vwCl (wC G v74.2) H → va_D A (wC G v74.2) → va_S A s.heap H locs → lv_has ls 9 [(0, .ref (aD G 20)), (2, .int x2), (4, .int x4), (5, .int x5), (6, .int x6), (7, .int x7), (8, .int v74.1)] → W p l e rmX5_shift s m args below meth c H locs 0 0 Q (F0 m 74 ls [])) ?_ _ _ hL H locs ls hP hD hS hl
      clear hP hD hS hl hE hL
      intro v74 t74 hE hN74 hY74
      intro H locs ls hP hD hS hl
      unfold f_X5_shift_L74 at hE
      refine lv_iload hx hb dX5_shift_74 (lv_at hl 6 rfl) ?_
      refine lv_iload hx hb dX5_shift_76 (lv_at hl 4 rfl) ?_
      refine lv_icmp_gt (tgt := 100) hx hb dX5_shift_78 (by decide) (fun c_ => ?_) (fun c_ => ?_)
      · have hE := ip c_ hE
        have e9 := hY74 _ (Option.some.inj hE).symm
        have hE := hE74
        rw [← e9] at hE
        exact J_100 x7 v74.2 _ _ _ hP hD hS (lv_sub hl [0, 1, 2, 3, 4, 5] rfl) hE
      · have hE := im c_ hE
        refine lv_aload_n hx hb dX5_shift_81 rfl (lv_at hl 0 rfl) ?_
        refine lv_bipush (v := (10 : Int32)) hx hb dX5_shift_82 (by decide) ?_
        refine lv_iload hx hb dX5_shift_84 (lv_at hl 5 rfl) ?_
        refine lv_imul hx hb dX5_shift_86 ?_
        refine lv_iload hx hb dX5_shift_87 (lv_at hl 6 rfl) ?_
        refine lv_iadd hx hb dX5_shift_89 ?_
        refine lv_iload_n hx hb dX5_shift_90 rfl (lv_at hl 1 rfl) ?_
        obtain ⟨r1, hC, hE⟩ := bnd_some hE
        refine cv (va_runV (As := [.int (((10 : Int32) * x7) + v74.1), .int x2]) (rest := []) ⟨hx, hb, hml, hown, hts⟩ (c_X5_shiftOne l G (((10 : Int32) * x7) + v74.1) x2 v74.2 r1 hC _) (cwV 2 hts gX5_shift_X5_shiftOne rfl rfl rfl (by decide +kernel) ⟨Nat.le_of_ble_eq_true rfl, Nat.le_of_ble_eq_true rfl⟩) (preV hK hP hD hS hA hX (va_recv hK hP (ci := 5) (q0 := 20) rfl rfl)) rfl rfl hl.1 rfl (lv_room (Nat.le_of_ble_eq_true rfl)) dX5_shift_91 ⟨Nat.le_of_ble_eq_true rfl, Nat.le_of_ble_eq_true rfl⟩) hD hS hA (fun H locs hP hD hS => ?_)
        refine lv_iinc (v := (v74.1 + (1 : Int32))) (lv' := [(8, .int (v74.1 + (1 : Int32))), (0, .ref (aD G 20)), (2, .int x2), (4, .int x4), (5, .int x5), (6, .int x6), (7, .int x7)]) hx hb dX5_shift_94 hl (k := 6) rfl rfl (by decide) rfl (fun ls hl => ?_)
        refine lv_goto (tgt := 74) hx hb dX5_shift_97 (by decide) ?_
        exact hN74 _ (Option.some.inj hE).symm _ _ _ hP hD hS (lv_sub hl [1, 2, 3, 4, 5, 6, 0] rfl)
    refine lv_iload hx hb dX5_shift_52 (lv_at hl 5 rfl) ?_
    refine lv_iload hx hb dX5_shift_54 (lv_at hl 3 rfl) ?_
    refine lv_icmp_gt (tgt := 106) hx hb dX5_shift_56 (by decide) (fun c_ => ?_) (fun c_ => ?_)
    · have hE := ip c_ hE
      have e9 := hY52 _ (Option.some.inj hE).symm
      have hE := hE52
      rw [← e9] at hE
      rw [← hQ, ← Option.some.inj hE]
      exact rv hx hb hr hlocks hK hP hD hS dX5_shift_106
    · have hE := im c_ hE
      refine lv_iconst (v := (0 : Int32)) hx hb dX5_shift_59 (by decide) ?_
      refine lv_iload hx hb dX5_shift_60 (lv_at hl 2 rfl) ?_
      refine lv_aload_n hx hb dX5_shift_62 rfl (lv_at hl 0 rfl) ?_
      refine va_get (ci := 5) (v := .int (gI v52.2 7)) (C := RX5) (T := TX5) (N := 8) hx hb hts (fun _ h => List.mem_cons_of_mem _ (List.mem_append_right _ h)) hown hK hP 20 rfl rfl 1 (by decide) (hts (.fieldLink RX5 15 "FillCells$Windows" "width" "I") (List.mem_of_getElem? (i := 6) rfl)) (fun _ h9 => h9) rfl dX5_shift_63 ?_
      refine lv_isub hx hb dX5_shift_66 ?_
      refine lv_iconst (v := (1 : Int32)) hx hb dX5_shift_67 (by decide) ?_
      refine lv_iadd hx hb dX5_shift_68 ?_
      refine va_mmax hx hb (hml.trans hl.1.symm) hown (hts (.methodLink RX5 80 Lib.Math.max.name) (List.mem_of_getElem? (i := 7) rfl)) (hts (.static Lib.Math.max.name) (List.mem_of_getElem? (i := 8) rfl)) (hts (.initialized "java/lang/Math") (List.mem_of_getElem? (i := 4) rfl)) (hts (.code Lib.Math.max.name Lib.Math.max.code 2 (some .int)) (List.mem_of_getElem? (i := 9) rfl)) (Nat.le_of_ble_eq_true rfl) (Nat.le_of_ble_eq_true rfl) (Nat.le_of_ble_eq_true rfl) (Nat.le_of_ble_eq_true rfl) dX5_shift_69 ?_
      refine lv_istore (lv' := [(8, .int (jmax (0 : Int32) ((x4 - (gI v52.2 7)) + (1 : Int32)))), (0, .ref (aD G 20)), (2, .int x2), (4, .int x4), (5, .int x5), (6, .int x6), (7, .int v52.1)]) hx hb dX5_shift_72 hl (by decide) rfl (fun ls hl => ?_)
      exact J_74 v52.1 (jmax (0 : Int32) ((x4 - (gI v52.2 7)) + (1 : Int32))) v52.2 _ _ _ hP hD hS (lv_sub hl [1, 2, 3, 4, 5, 6, 0] rfl) hE
  refine lv_iload_n hx hb dX5_shift_0 rfl (lv_at hl 1 rfl) ?_
  refine lv_bipush (v := (10 : Int32)) hx hb dX5_shift_1 (by decide) ?_
  refine lv_idiv hx hb dX5_shift_3 (by decide) ?_
  refine lv_istore_n (lv' := [(3, .int (x1 / (10 : Int32))), (0, .ref (aD G 20)), (1, .int x1), (2, .int x2)]) hx hb dX5_shift_4 rfl hl (by decide) rfl (fun ls hl => ?_)
  refine lv_iload_n hx hb dX5_shift_5 rfl (lv_at hl 2 rfl) ?_
  refine lv_bipush (v := (10 : Int32)) hx hb dX5_shift_6 (by decide) ?_
  refine lv_irem hx hb dX5_shift_8 (by decide) ?_
  refine lv_istore (lv' := [(4, .int (jrem x1 (10 : Int32))), (3, .int (x1 / (10 : Int32))), (0, .ref (aD G 20)), (1, .int x1), (2, .int x2)]) hx hb dX5_shift_9 hl (by decide) rfl (fun ls hl => ?_)
  refine lv_iload_n hx hb dX5_shift_11 rfl (lv_at hl 1 rfl) ?_
  refine lv_bipush (v := (8 : Int32)) hx hb dX5_shift_12 (by decide) ?_
  refine lv_aload_n hx hb dX5_shift_14 rfl (lv_at hl 2 rfl) ?_
  refine va_get (ci := 5) (v := .int (gI σ 6)) (C := RX5) (T := TX5) (N := 8) hx hb hts (fun _ h => List.mem_cons_of_mem _ (List.mem_append_right _ h)) hown hK hP 20 rfl rfl 0 (by decide) (hts (.fieldLink RX5 9 "FillCells$Windows" "height" "I") (List.mem_of_getElem? (i := 1) rfl)) (fun _ h9 => h9) rfl dX5_shift_15 ?_
  refine lv_isub hx hb dX5_shift_18 ?_
  refine va_mmin hx hb (hml.trans hl.1.symm) hown (hts (.methodLink RX5 74 Lib.Math.min.name) (List.mem_of_getElem? (i := 2) rfl)) (hts (.static Lib.Math.min.name) (List.mem_of_getElem? (i := 3) rfl)) (hts (.initialized "java/lang/Math") (List.mem_of_getElem? (i := 4) rfl)) (hts (.code Lib.Math.min.name Lib.Math.min.code 2 (some .int)) (List.mem_of_getElem? (i := 5) rfl)) (Nat.le_of_ble_eq_true rfl) (Nat.le_of_ble_eq_true rfl) (Nat.le_of_ble_eq_true rfl) (Nat.le_of_ble_eq_true rfl) dX5_shift_19 ?_
  refine lv_istore (lv' := [(5, .int (jmin (x1 / (10 : Int32)) ((8 : Int32) - (gI σ 6)))), (4, .int (jrem x1 (10 : Int32))), (3, .int (x1 / (10 : Int32))), (0, .ref (aD G 20)), (1, .int x1), (2, .int x2)]) hx hb dX5_shift_22 hl (by decide) rfl (fun ls hl => ?_)
  refine lv_iload hx hb dX5_shift_24 (lv_at hl 1 rfl) ?_
  refine lv_bipush (v := (10 : Int32)) hx hb dX5_shift_26 (by decide) ?_
  refine lv_aload_n hx hb dX5_shift_28 rfl (lv_at hl 3 rfl) ?_
  refine va_get (ci := 5) (v := .int (gI σ 7)) (C := RX5) (T := TX5) (N := 8) hx hb hts (fun _ h => List.mem_cons_of_mem _ (List.mem_append_right _ h)) hown hK hP 20 rfl rfl 1 (by decide) (hts (.fieldLink RX5 15 "FillCells$Windows" "width" "I") (List.mem_of_getElem? (i := 6) rfl)) (fun _ h9 => h9) rfl dX5_shift_29 ?_
  refine lv_isub hx hb dX5_shift_32 ?_
  refine va_mmin hx hb (hml.trans hl.1.symm) hown (hts (.methodLink RX5 74 Lib.Math.min.name) (List.mem_of_getElem? (i := 2) rfl)) (hts (.static Lib.Math.min.name) (List.mem_of_getElem? (i := 3) rfl)) (hts (.initialized "java/lang/Math") (List.mem_of_getElem? (i := 4) rfl)) (hts (.code Lib.Math.min.name Lib.Math.min.code 2 (some .int)) (List.mem_of_getElem? (i := 5) rfl)) (Nat.le_of_ble_eq_true rfl) (Nat.le_of_ble_eq_true rfl) (Nat.le_of_ble_eq_true rfl) (Nat.le_of_ble_eq_true rfl) dX5_shift_33 ?_
  refine lv_istore (lv' := [(6, .int (jmin (jrem x1 (10 : Int32)) ((10 : Int32) - (gI σ 7)))), (5, .int (jmin (x1 / (10 : Int32)) ((8 : Int32) - (gI σ 6)))), (4, .int (jrem x1 (10 : Int32))), (3, .int (x1 / (10 : Int32))), (0, .ref (aD G 20)), (1, .int x1), (2, .int x2)]) hx hb dX5_shift_36 hl (by decide) rfl (fun ls hl => ?_)
  refine lv_iconst (v := (0 : Int32)) hx hb dX5_shift_38 (by decide) ?_
  refine lv_iload_n hx hb dX5_shift_39 rfl (lv_at hl 3 rfl) ?_
  refine lv_aload_n hx hb dX5_shift_40 rfl (lv_at hl 4 rfl) ?_
  refine va_get (ci := 5) (v := .int (gI σ 6)) (C := RX5) (T := TX5) (N := 8) hx hb hts (fun _ h => List.mem_cons_of_mem _ (List.mem_append_right _ h)) hown hK hP 20 rfl rfl 0 (by decide) (hts (.fieldLink RX5 9 "FillCells$Windows" "height" "I") (List.mem_of_getElem? (i := 1) rfl)) (fun _ h9 => h9) rfl dX5_shift_41 ?_
  refine lv_isub hx hb dX5_shift_44 ?_
  refine lv_iconst (v := (1 : Int32)) hx hb dX5_shift_45 (by decide) ?_
  refine lv_iadd hx hb dX5_shift_46 ?_
  refine va_mmax hx hb (hml.trans hl.1.symm) hown (hts (.methodLink RX5 80 Lib.Math.max.name) (List.mem_of_getElem? (i := 7) rfl)) (hts (.static Lib.Math.max.name) (List.mem_of_getElem? (i := 8) rfl)) (hts (.initialized "java/lang/Math") (List.mem_of_getElem? (i := 4) rfl)) (hts (.code Lib.Math.max.name Lib.Math.max.code 2 (some .int)) (List.mem_of_getElem? (i := 9) rfl)) (Nat.le_of_ble_eq_true rfl) (Nat.le_of_ble_eq_true rfl) (Nat.le_of_ble_eq_true rfl) (Nat.le_of_ble_eq_true rfl) dX5_shift_47 ?_
  refine lv_istore (lv' := [(7, .int (jmax (0 : Int32) (((x1 / (10 : Int32)) - (gI σ 6)) + (1 : Int32)))), (6, .int (jmin (jrem x1 (10 : Int32)) ((10 : Int32) - (gI σ 7)))), (5, .int (jmin (x1 / (10 : Int32)) ((8 : Int32) - (gI σ 6)))), (4, .int (jrem x1 (10 : Int32))), (3, .int (x1 / (10 : Int32))), (0, .ref (aD G 20)), (1, .int x1), (2, .int x2)]) hx hb dX5_shift_50 hl (by decide) rfl (fun ls hl => ?_)
  exact J_52 (jrem x1 (10 : Int32)) (jmin (x1 / (10 : Int32)) ((8 : Int32) - (gI σ 6))) (jmin (jrem x1 (10 : Int32)) ((10 : Int32) - (gI σ 7))) (jmax (0 : Int32) (((x1 / (10 : Int32)) - (gI σ 6)) + (1 : Int32))) σ _ _ _ hP hD hS (lv_sub hl [5, 7, 3, 2, 1, 0] rfl) hE
abbrev rmX5_share : Room := { frames := 1, cells := 0, slots := 0, locals := 24 }

def f_X5_share (x1 x2 x3 : Int32) (σ : St) : Option Int32 := if x3 = 0 then (bnd (f_X5_has x1 x2 σ) (fun r1 => if r1 = 0 then (some (0 : Int32)) else (some (1 : Int32)))) else (gd (((80 : Int32) * x3) + x1) 320 (some (rd σ 8 (((80 : Int32) * x3) + x1))))
set_option maxHeartbeats 4000000 in
set_option maxRecDepth 100000 in
theorem c_X5_share (l : Launch) (G : EV)  (x1 x2 x3 : Int32) (σ : St) (r : Int32) (hE : f_X5_share x1 x2 x3 σ = some r) : MetI l G yX5_share wsX5_share rmX5_share [.ref (aD G 20), .int x1, .int x2, .int x3] (wC G σ) r (wC G σ) := by
  refine Met.of0 (Qf := PI G r (wC G σ)) (cc := cX5_share) (maxL := 4) (ret := (some .int)) (by decide) rfl (Nat.le_of_ble_eq_true rfl) ?_
  intro p e s m below meth c args A hx hb hr hts hown hlocks hml hin0 hA hS hP hK hD hX ls hl
  have hl : lv_has ls 4 [(0, .ref (aD G 20)), (1, .int x1), (2, .int x2), (3, .int x3)] := hl
  generalize hQ : MQ below (PI G r (wC G σ) A) args s 0 0 A = Q
  unfold f_X5_share at hE
  refine lv_iload_n hx hb dX5_share_0 rfl (lv_at hl 3 rfl) ?_
  refine lv_if_ne (tgt := 19) hx hb dX5_share_1 (by decide) (fun c_ => ?_) (fun c_ => ?_)
  · have hE := im c_ hE
    refine lv_aload_n hx hb dX5_share_19 rfl (lv_at hl 0 rfl) ?_
    refine va_get (ci := 5) (v := .ref (aD G 8)) (C := RX5) (T := TX5) (N := 8) hx hb hts (fun _ h => List.mem_cons_of_mem _ (List.mem_append_right _ h)) hown hK hP 20 rfl rfl 7 (by decide) (hts (.fieldLink RX5 34 "FillCells$Windows" "shares" "[I") (List.mem_of_getElem? (i := 1) rfl)) (fun _ h9 => h9) rfl dX5_share_20 ?_
    refine lv_bipush (v := (80 : Int32)) hx hb dX5_share_23 (by decide) ?_
    refine lv_iload_n hx hb dX5_share_25 rfl (lv_at hl 3 rfl) ?_
    refine lv_imul hx hb dX5_share_26 ?_
    refine lv_iload_n hx hb dX5_share_27 rfl (lv_at hl 1 rfl) ?_
    refine lv_iadd hx hb dX5_share_28 ?_
    obtain ⟨h_i, hE⟩ := gd_some hE
    refine ldC hx hb hK hP 8 (by decide) h_i dX5_share_29 ?_
    rw [← hQ, ← Option.some.inj hE]
    exact ri hx hb hr hlocks hK hP hD hS dX5_share_30
  · have hE := ip c_ hE
    refine lv_aload_n hx hb dX5_share_4 rfl (lv_at hl 0 rfl) ?_
    refine lv_iload_n hx hb dX5_share_5 rfl (lv_at hl 1 rfl) ?_
    refine lv_iload_n hx hb dX5_share_6 rfl (lv_at hl 2 rfl) ?_
    obtain ⟨r1, hC, hE⟩ := bnd_some hE
    refine ci (va_runV (As := [.int x1, .int x2]) (rest := []) ⟨hx, hb, hml, hown, hts⟩ (c_X5_has l G x1 x2 σ r1 hC _) (cwV 2 hts gX5_share_X5_has rfl rfl rfl (by decide +kernel) ⟨Nat.le_of_ble_eq_true rfl, Nat.le_of_ble_eq_true rfl⟩) (preV hK hP hD hS hA hX (va_recv hK hP (ci := 5) (q0 := 20) rfl rfl)) rfl rfl hl.1 rfl (lv_room (Nat.le_of_ble_eq_true rfl)) dX5_share_7 ⟨Nat.le_of_ble_eq_true rfl, Nat.le_of_ble_eq_true rfl⟩) hD hS hA (fun H locs hP hD hS => ?_)
    refine lv_if_eq (tgt := 17) hx hb dX5_share_10 (by decide) (fun c_ => ?_) (fun c_ => ?_)
    · have hE := ip c_ hE
      refine lv_iconst (v := (0 : Int32)) hx hb dX5_share_17 (by decide) ?_
      rw [← hQ, ← Option.some.inj hE]
      exact ri hx hb hr hlocks hK hP hD hS dX5_share_18
    · have hE := im c_ hE
      refine lv_iconst (v := (1 : Int32)) hx hb dX5_share_13 (by decide) ?_
      refine lv_goto (tgt := 18) hx hb dX5_share_14 (by decide) ?_
      rw [← hQ, ← Option.some.inj hE]
      exact ri hx hb hr hlocks hK hP hD hS dX5_share_18
abbrev rmX5_slack : Room := { frames := 2, cells := 0, slots := 0, locals := 47 }
def f_X5_slack_L6 (x1 : Int32) (x2 : Int32) (σ : St) (v6 : Int32 × Int32) : Option (((Int32)) ⊕ (Int32 × Int32)) := if (80 : Int32) ≤ v6.2 then (some (.inl (v6.1))) else (gd v6.2 80 (if (rd σ 5 v6.2) = (-1 : Int32) then (some (.inr (v6.1, (v6.2 + (1 : Int32))))) else (gd v6.2 80 (if (rd σ 5 v6.2) < (gI σ 8) then (some (.inr (v6.1, (v6.2 + (1 : Int32))))) else (bnd (f_X5_share v6.2 x1 x2 σ) (fun r1 => if r1 ≤ 0 then (some (.inr (v6.1, (v6.2 + (1 : Int32))))) else (gd v6.2 80 (dz r1 (some (.inr ((jmin v6.1 (((rd σ 5 v6.2) - (gI σ 8)) / r1)), (v6.2 + (1 : Int32)))))))))))))
def f_X5_slack_J6 (x1 : Int32) (x2 : Int32) (x3 : Int32) (x4 : Int32) (σ : St) : Option Int32 := bnd (loopN (f_X5_slack_L6 x1 x2 σ) 4096 (x3, x4)) (fun y6 => some y6)
def f_X5_slack (x1 x2 : Int32) (σ : St) : Option Int32 := f_X5_slack_J6 x1 x2 (9 : Int32) (0 : Int32) σ
set_option maxHeartbeats 4000000 in
set_option maxRecDepth 100000 in
theorem c_X5_slack (l : Launch) (G : EV)  (x1 x2 : Int32) (σ : St) (r : Int32) (hE : f_X5_slack x1 x2 σ = some r) : MetI l G yX5_slack wsX5_slack rmX5_slack [.ref (aD G 20), .int x1, .int x2] (wC G σ) r (wC G σ) := by
  refine Met.of0 (Qf := PI G r (wC G σ)) (cc := cX5_slack) (maxL := 6) (ret := (some .int)) (by decide) rfl (Nat.le_of_ble_eq_true rfl) ?_
  intro p e s m below meth c args A hx hb hr hts hown hlocks hml hin0 hA hS hP hK hD hX ls hl
  have hl : lv_has ls 6 [(0, .ref (aD G 20)), (1, .int x1), (2, .int x2)] := hl
  generalize hQ : MQ below (PI G r (wC G σ) A) args s 0 0 A = Q
  unfold f_X5_slack at hE
  have J_6 : ∀ (x3 : Int32) (x4 : Int32) (H : Heap) (locs : List Loc) (ls : Array Slot), va_P G.1 vwCl (wC G σ) H → va_D A (wC G σ) → va_S A s.heap H locs → lv_has ls 6 [(0, .ref (aD G 20)), (1, .int x1), (2, .int x2), (3, .int x3), (4, .int x4)] → f_X5_slack_J6 x1 x2 x3 x4 σ = some r → W p l e rmX5_slack s m args below meth c H locs 0 0 Q (F0 m 6 ls []) := by
    intro x3 x4 H locs ls hP hD hS hl hE
    unfold f_X5_slack_J6 at hE
    obtain ⟨y6, hL, hE6⟩ := bnd_some hE
    refine loop_W (body := f_X5_slack_L6 x1 x2 σ) (y := y6) (P := fun v6 => ∀ (H : Heap) (locs : List Loc) (ls : Array Slot), va_P G.1 vwCl (wC G σ) H → va_D A (wC G σ) → va_S A s.heap H locs → lv_has ls 6 [(0, .ref (aD G 20)), (1, .int x1), (2, .int x2), (3, .int v6.1), (4, .int v6.2)] → W p l e rmX5_slack s m args below meth c H locs 0 0 Q (F0 m 6 ls [])) ?_ _ _ hL H locs ls hP hD hS hl
    clear hP hD hS hl hE hL
    intro v6 t6 hE hN6 hY6
    intro H locs ls hP hD hS hl
    unfold f_X5_slack_L6 at hE
    refine lv_iload hx hb dX5_slack_6 (lv_at hl 4 rfl) ?_
    refine lv_bipush (v := (80 : Int32)) hx hb dX5_slack_8 (by decide) ?_
    refine lv_icmp_ge (tgt := 79) hx hb dX5_slack_10 (by decide) (fun c_ => ?_) (fun c_ => ?_)
    · have hE := ip c_ hE
      have e9 := hY6 _ (Option.some.inj hE).symm
      have hE := hE6
      rw [← e9] at hE
      refine lv_iload_n hx hb dX5_slack_79 rfl (lv_at hl 3 rfl) ?_
      rw [← hQ, ← Option.some.inj hE]
      exact ri hx hb hr hlocks hK hP hD hS dX5_slack_80
    · have hE := im c_ hE
      refine lv_aload_n hx hb dX5_slack_13 rfl (lv_at hl 0 rfl) ?_
      refine va_get (ci := 5) (v := .ref (aD G 5)) (C := RX5) (T := TX5) (N := 8) hx hb hts (fun _ h => List.mem_cons_of_mem _ (List.mem_append_right _ h)) hown hK hP 20 rfl rfl 4 (by decide) (hts (.fieldLink RX5 24 "FillCells$Windows" "sums" "[I") (List.mem_of_getElem? (i := 1) rfl)) (fun _ h9 => h9) rfl dX5_slack_14 ?_
      refine lv_iload hx hb dX5_slack_17 (lv_at hl 4 rfl) ?_
      obtain ⟨h_i, hE⟩ := gd_some hE
      refine ldC hx hb hK hP 5 (by decide) h_i dX5_slack_19 ?_
      refine lv_iconst (v := (-1 : Int32)) hx hb dX5_slack_20 (by decide) ?_
      refine lv_icmp_eq (tgt := 73) hx hb dX5_slack_21 (by decide) (fun c_ => ?_) (fun c_ => ?_)
      · have hE := ip c_ hE
        refine lv_iinc (v := (v6.2 + (1 : Int32))) (lv' := [(4, .int (v6.2 + (1 : Int32))), (0, .ref (aD G 20)), (1, .int x1), (2, .int x2), (3, .int v6.1)]) hx hb dX5_slack_73 hl (k := 4) rfl rfl (by decide) rfl (fun ls hl => ?_)
        refine lv_goto (tgt := 6) hx hb dX5_slack_76 (by decide) ?_
        exact hN6 _ (Option.some.inj hE).symm _ _ _ hP hD hS (lv_sub hl [1, 2, 3, 4, 0] rfl)
      · have hE := im c_ hE
        refine lv_aload_n hx hb dX5_slack_24 rfl (lv_at hl 0 rfl) ?_
        refine va_get (ci := 5) (v := .ref (aD G 5)) (C := RX5) (T := TX5) (N := 8) hx hb hts (fun _ h => List.mem_cons_of_mem _ (List.mem_append_right _ h)) hown hK hP 20 rfl rfl 4 (by decide) (hts (.fieldLink RX5 24 "FillCells$Windows" "sums" "[I") (List.mem_of_getElem? (i := 1) rfl)) (fun _ h9 => h9) rfl dX5_slack_25 ?_
        refine lv_iload hx hb dX5_slack_28 (lv_at hl 4 rfl) ?_
        obtain ⟨h_i, hE⟩ := gd_some hE
        refine ldC hx hb hK hP 5 (by decide) h_i dX5_slack_30 ?_
        refine lv_aload_n hx hb dX5_slack_31 rfl (lv_at hl 0 rfl) ?_
        refine va_get (ci := 5) (v := .int (gI σ 8)) (C := RX5) (T := TX5) (N := 8) hx hb hts (fun _ h => List.mem_cons_of_mem _ (List.mem_append_right _ h)) hown hK hP 20 rfl rfl 2 (by decide) (hts (.fieldLink RX5 18 "FillCells$Windows" "low" "I") (List.mem_of_getElem? (i := 2) rfl)) (fun _ h9 => h9) rfl dX5_slack_32 ?_
        refine lv_icmp_lt (tgt := 73) hx hb dX5_slack_35 (by decide) (fun c_ => ?_) (fun c_ => ?_)
        · have hE := ip c_ hE
          refine lv_iinc (v := (v6.2 + (1 : Int32))) (lv' := [(4, .int (v6.2 + (1 : Int32))), (0, .ref (aD G 20)), (1, .int x1), (2, .int x2), (3, .int v6.1)]) hx hb dX5_slack_73 hl (k := 4) rfl rfl (by decide) rfl (fun ls hl => ?_)
          refine lv_goto (tgt := 6) hx hb dX5_slack_76 (by decide) ?_
          exact hN6 _ (Option.some.inj hE).symm _ _ _ hP hD hS (lv_sub hl [1, 2, 3, 4, 0] rfl)
        · have hE := im c_ hE
          refine lv_aload_n hx hb dX5_slack_38 rfl (lv_at hl 0 rfl) ?_
          refine lv_iload hx hb dX5_slack_39 (lv_at hl 4 rfl) ?_
          refine lv_iload_n hx hb dX5_slack_41 rfl (lv_at hl 1 rfl) ?_
          refine lv_iload_n hx hb dX5_slack_42 rfl (lv_at hl 2 rfl) ?_
          obtain ⟨r1, hC, hE⟩ := bnd_some hE
          refine ci (va_runV (As := [.int v6.2, .int x1, .int x2]) (rest := []) ⟨hx, hb, hml, hown, hts⟩ (c_X5_share l G v6.2 x1 x2 σ r1 hC _) (cwV 3 hts gX5_slack_X5_share rfl rfl rfl (by decide +kernel) ⟨Nat.le_of_ble_eq_true rfl, Nat.le_of_ble_eq_true rfl⟩) (preV hK hP hD hS hA hX (va_recv hK hP (ci := 5) (q0 := 20) rfl rfl)) rfl rfl hl.1 rfl (lv_room (Nat.le_of_ble_eq_true rfl)) dX5_slack_43 ⟨Nat.le_of_ble_eq_true rfl, Nat.le_of_ble_eq_true rfl⟩) hD hS hA (fun H locs hP hD hS => ?_)
          refine lv_istore (lv' := [(5, .int r1), (0, .ref (aD G 20)), (1, .int x1), (2, .int x2), (3, .int v6.1), (4, .int v6.2)]) hx hb dX5_slack_46 hl (by decide) rfl (fun ls hl => ?_)
          refine lv_iload hx hb dX5_slack_48 (lv_at hl 0 rfl) ?_
          refine lv_if_le (tgt := 73) hx hb dX5_slack_50 (by decide) (fun c_ => ?_) (fun c_ => ?_)
          · have hE := ip c_ hE
            refine lv_iinc (v := (v6.2 + (1 : Int32))) (lv' := [(4, .int (v6.2 + (1 : Int32))), (5, .int r1), (0, .ref (aD G 20)), (1, .int x1), (2, .int x2), (3, .int v6.1)]) hx hb dX5_slack_73 hl (k := 5) rfl rfl (by decide) rfl (fun ls hl => ?_)
            refine lv_goto (tgt := 6) hx hb dX5_slack_76 (by decide) ?_
            exact hN6 _ (Option.some.inj hE).symm _ _ _ hP hD hS (lv_sub hl [2, 3, 4, 5, 0] rfl)
          · have hE := im c_ hE
            refine lv_iload_n hx hb dX5_slack_53 rfl (lv_at hl 4 rfl) ?_
            refine lv_aload_n hx hb dX5_slack_54 rfl (lv_at hl 1 rfl) ?_
            refine va_get (ci := 5) (v := .ref (aD G 5)) (C := RX5) (T := TX5) (N := 8) hx hb hts (fun _ h => List.mem_cons_of_mem _ (List.mem_append_right _ h)) hown hK hP 20 rfl rfl 4 (by decide) (hts (.fieldLink RX5 24 "FillCells$Windows" "sums" "[I") (List.mem_of_getElem? (i := 1) rfl)) (fun _ h9 => h9) rfl dX5_slack_55 ?_
            refine lv_iload hx hb dX5_slack_58 (lv_at hl 5 rfl) ?_
            obtain ⟨h_i, hE⟩ := gd_some hE
            refine ldC hx hb hK hP 5 (by decide) h_i dX5_slack_60 ?_
            refine lv_aload_n hx hb dX5_slack_61 rfl (lv_at hl 1 rfl) ?_
            refine va_get (ci := 5) (v := .int (gI σ 8)) (C := RX5) (T := TX5) (N := 8) hx hb hts (fun _ h => List.mem_cons_of_mem _ (List.mem_append_right _ h)) hown hK hP 20 rfl rfl 2 (by decide) (hts (.fieldLink RX5 18 "FillCells$Windows" "low" "I") (List.mem_of_getElem? (i := 2) rfl)) (fun _ h9 => h9) rfl dX5_slack_62 ?_
            refine lv_isub hx hb dX5_slack_65 ?_
            refine lv_iload hx hb dX5_slack_66 (lv_at hl 0 rfl) ?_
            obtain ⟨h_z, hE⟩ := dz_some hE
            refine lv_idiv hx hb dX5_slack_68 h_z ?_
            refine va_mmin hx hb (hml.trans hl.1.symm) hown (hts (.methodLink RX5 74 Lib.Math.min.name) (List.mem_of_getElem? (i := 3) rfl)) (hts (.static Lib.Math.min.name) (List.mem_of_getElem? (i := 4) rfl)) (hts (.initialized "java/lang/Math") (List.mem_of_getElem? (i := 5) rfl)) (hts (.code Lib.Math.min.name Lib.Math.min.code 2 (some .int)) (List.mem_of_getElem? (i := 6) rfl)) (Nat.le_of_ble_eq_true rfl) (Nat.le_of_ble_eq_true rfl) (Nat.le_of_ble_eq_true rfl) (Nat.le_of_ble_eq_true rfl) dX5_slack_69 ?_
            refine lv_istore_n (lv' := [(3, .int (jmin v6.1 (((rd σ 5 v6.2) - (gI σ 8)) / r1))), (5, .int r1), (0, .ref (aD G 20)), (1, .int x1), (2, .int x2), (4, .int v6.2)]) hx hb dX5_slack_72 rfl hl (by decide) rfl (fun ls hl => ?_)
            refine lv_iinc (v := (v6.2 + (1 : Int32))) (lv' := [(4, .int (v6.2 + (1 : Int32))), (3, .int (jmin v6.1 (((rd σ 5 v6.2) - (gI σ 8)) / r1))), (5, .int r1), (0, .ref (aD G 20)), (1, .int x1), (2, .int x2)]) hx hb dX5_slack_73 hl (k := 5) rfl rfl (by decide) rfl (fun ls hl => ?_)
            refine lv_goto (tgt := 6) hx hb dX5_slack_76 (by decide) ?_
            exact hN6 _ (Option.some.inj hE).symm _ _ _ hP hD hS (lv_sub hl [3, 4, 5, 1, 0] rfl)
  refine lv_bipush (v := (9 : Int32)) hx hb dX5_slack_0 (by decide) ?_
  refine lv_istore_n (lv' := [(3, .int (9 : Int32)), (0, .ref (aD G 20)), (1, .int x1), (2, .int x2)]) hx hb dX5_slack_2 rfl hl (by decide) rfl (fun ls hl => ?_)
  refine lv_iconst (v := (0 : Int32)) hx hb dX5_slack_3 (by decide) ?_
  refine lv_istore (lv' := [(4, .int (0 : Int32)), (3, .int (9 : Int32)), (0, .ref (aD G 20)), (1, .int x1), (2, .int x2)]) hx hb dX5_slack_4 hl (by decide) rfl (fun ls hl => ?_)
  exact J_6 (9 : Int32) (0 : Int32) _ _ _ hP hD hS (lv_sub hl [2, 3, 4, 1, 0] rfl) hE
abbrev rmX5_countThin : Room := { frames := 1, cells := 0, slots := 0, locals := 21 }
def f_X5_countThin_L4 (σ : St) (v4 : Int32 × Int32) : Option (((Int32)) ⊕ (Int32 × Int32)) := if (80 : Int32) ≤ v4.2 then (some (.inl (v4.1))) else (bnd (f_X5_isThin v4.2 σ) (fun r1 => if r1 = 0 then (some (.inr (v4.1, (v4.2 + (1 : Int32))))) else (some (.inr ((v4.1 + (1 : Int32)), (v4.2 + (1 : Int32)))))))
def f_X5_countThin_J4 (x1 : Int32) (x2 : Int32) (σ : St) : Option Int32 := bnd (loopN (f_X5_countThin_L4 σ) 4096 (x1, x2)) (fun y4 => some y4)
def f_X5_countThin (σ : St) : Option Int32 := f_X5_countThin_J4 (0 : Int32) (0 : Int32) σ
set_option maxHeartbeats 4000000 in
set_option maxRecDepth 100000 in
theorem c_X5_countThin (l : Launch) (G : EV)   (σ : St) (r : Int32) (hE : f_X5_countThin σ = some r) : MetI l G yX5_countThin wsX5_countThin rmX5_countThin [.ref (aD G 20)] (wC G σ) r (wC G σ) := by
  refine Met.of0 (Qf := PI G r (wC G σ)) (cc := cX5_countThin) (maxL := 3) (ret := (some .int)) (by decide) rfl (Nat.le_of_ble_eq_true rfl) ?_
  intro p e s m below meth c args A hx hb hr hts hown hlocks hml hin0 hA hS hP hK hD hX ls hl
  have hl : lv_has ls 3 [(0, .ref (aD G 20))] := hl
  generalize hQ : MQ below (PI G r (wC G σ) A) args s 0 0 A = Q
  unfold f_X5_countThin at hE
  have J_4 : ∀ (x1 : Int32) (x2 : Int32) (H : Heap) (locs : List Loc) (ls : Array Slot), va_P G.1 vwCl (wC G σ) H → va_D A (wC G σ) → va_S A s.heap H locs → lv_has ls 3 [(0, .ref (aD G 20)), (1, .int x1), (2, .int x2)] → f_X5_countThin_J4 x1 x2 σ = some r → W p l e rmX5_countThin s m args below meth c H locs 0 0 Q (F0 m 4 ls []) := by
    intro x1 x2 H locs ls hP hD hS hl hE
    unfold f_X5_countThin_J4 at hE
    obtain ⟨y4, hL, hE4⟩ := bnd_some hE
    refine loop_W (body := f_X5_countThin_L4 σ) (y := y4) (P := fun v4 => ∀ (H : Heap) (locs : List Loc) (ls : Array Slot), va_P G.1 vwCl (wC G σ) H → va_D A (wC G σ) → va_S A s.heap H locs → lv_has ls 3 [(0, .ref (aD G 20)), (1, .int v4.1), (2, .int v4.2)] → W p l e rmX5_countThin s m args below meth c H locs 0 0 Q (F0 m 4 ls [])) ?_ _ _ hL H locs ls hP hD hS hl
    clear hP hD hS hl hE hL
    intro v4 t4 hE hN4 hY4
    intro H locs ls hP hD hS hl
    unfold f_X5_countThin_L4 at hE
    refine lv_iload_n hx hb dX5_countThin_4 rfl (lv_at hl 2 rfl) ?_
    refine lv_bipush (v := (80 : Int32)) hx hb dX5_countThin_5 (by decide) ?_
    refine lv_icmp_ge (tgt := 27) hx hb dX5_countThin_7 (by decide) (fun c_ => ?_) (fun c_ => ?_)
    · have hE := ip c_ hE
      have e9 := hY4 _ (Option.some.inj hE).symm
      have hE := hE4
      rw [← e9] at hE
      refine lv_iload_n hx hb dX5_countThin_27 rfl (lv_at hl 1 rfl) ?_
      rw [← hQ, ← Option.some.inj hE]
      exact ri hx hb hr hlocks hK hP hD hS dX5_countThin_28
    · have hE := im c_ hE
      refine lv_aload_n hx hb dX5_countThin_10 rfl (lv_at hl 0 rfl) ?_
      refine lv_iload_n hx hb dX5_countThin_11 rfl (lv_at hl 2 rfl) ?_
      obtain ⟨r1, hC, hE⟩ := bnd_some hE
      refine ci (va_runV (As := [.int v4.2]) (rest := []) ⟨hx, hb, hml, hown, hts⟩ (c_X5_isThin l G v4.2 σ r1 hC _) (cwV 1 hts gX5_countThin_X5_isThin rfl rfl rfl (by decide +kernel) ⟨Nat.le_of_ble_eq_true rfl, Nat.le_of_ble_eq_true rfl⟩) (preV hK hP hD hS hA hX (va_recv hK hP (ci := 5) (q0 := 20) rfl rfl)) rfl rfl hl.1 rfl (lv_room (Nat.le_of_ble_eq_true rfl)) dX5_countThin_12 ⟨Nat.le_of_ble_eq_true rfl, Nat.le_of_ble_eq_true rfl⟩) hD hS hA (fun H locs hP hD hS => ?_)
      refine lv_if_eq (tgt := 21) hx hb dX5_countThin_15 (by decide) (fun c_ => ?_) (fun c_ => ?_)
      · have hE := ip c_ hE
        refine lv_iinc (v := (v4.2 + (1 : Int32))) (lv' := [(2, .int (v4.2 + (1 : Int32))), (0, .ref (aD G 20)), (1, .int v4.1)]) hx hb dX5_countThin_21 hl (k := 2) rfl rfl (by decide) rfl (fun ls hl => ?_)
        refine lv_goto (tgt := 4) hx hb dX5_countThin_24 (by decide) ?_
        exact hN4 _ (Option.some.inj hE).symm _ _ _ hP hD hS (lv_sub hl [1, 2, 0] rfl)
      · have hE := im c_ hE
        refine lv_iinc (v := (v4.1 + (1 : Int32))) (lv' := [(1, .int (v4.1 + (1 : Int32))), (0, .ref (aD G 20)), (2, .int v4.2)]) hx hb dX5_countThin_18 hl (k := 1) rfl rfl (by decide) rfl (fun ls hl => ?_)
        refine lv_iinc (v := (v4.2 + (1 : Int32))) (lv' := [(2, .int (v4.2 + (1 : Int32))), (1, .int (v4.1 + (1 : Int32))), (0, .ref (aD G 20))]) hx hb dX5_countThin_21 hl (k := 2) rfl rfl (by decide) rfl (fun ls hl => ?_)
        refine lv_goto (tgt := 4) hx hb dX5_countThin_24 (by decide) ?_
        exact hN4 _ (Option.some.inj hE).symm _ _ _ hP hD hS (lv_sub hl [2, 1, 0] rfl)
  refine lv_iconst (v := (0 : Int32)) hx hb dX5_countThin_0 (by decide) ?_
  refine lv_istore_n (lv' := [(1, .int (0 : Int32)), (0, .ref (aD G 20))]) hx hb dX5_countThin_1 rfl hl (by decide) rfl (fun ls hl => ?_)
  refine lv_iconst (v := (0 : Int32)) hx hb dX5_countThin_2 (by decide) ?_
  refine lv_istore_n (lv' := [(2, .int (0 : Int32)), (1, .int (0 : Int32)), (0, .ref (aD G 20))]) hx hb dX5_countThin_3 rfl hl (by decide) rfl (fun ls hl => ?_)
  exact J_4 (0 : Int32) (0 : Int32) _ _ _ hP hD hS (lv_sub hl [2, 1, 0] rfl) hE
abbrev rmX5_count : Room := { frames := 0, cells := 0, slots := 0, locals := 0 }

def f_X5_count (σ : St) : Option Int32 := some ((((8 : Int32) - (gI σ 6)) + (1 : Int32)) * (((10 : Int32) - (gI σ 7)) + (1 : Int32)))
set_option maxHeartbeats 4000000 in
set_option maxRecDepth 100000 in
theorem c_X5_count (l : Launch) (G : EV)   (σ : St) (r : Int32) (hE : f_X5_count σ = some r) : MetI l G yX5_count wsX5_count rmX5_count [.ref (aD G 20)] (wC G σ) r (wC G σ) := by
  refine Met.of0 (Qf := PI G r (wC G σ)) (cc := cX5_count) (maxL := 1) (ret := (some .int)) (by decide) rfl (Nat.le_of_ble_eq_true rfl) ?_
  intro p e s m below meth c args A hx hb hr hts hown hlocks hml hin0 hA hS hP hK hD hX ls hl
  have hl : lv_has ls 1 [(0, .ref (aD G 20))] := hl
  generalize hQ : MQ below (PI G r (wC G σ) A) args s 0 0 A = Q
  unfold f_X5_count at hE
  refine lv_bipush (v := (8 : Int32)) hx hb dX5_count_0 (by decide) ?_
  refine lv_aload_n hx hb dX5_count_2 rfl (lv_at hl 0 rfl) ?_
  refine va_get (ci := 5) (v := .int (gI σ 6)) (C := RX5) (T := TX5) (N := 8) hx hb hts (fun _ h => List.mem_cons_of_mem _ (List.mem_append_right _ h)) hown hK hP 20 rfl rfl 0 (by decide) (hts (.fieldLink RX5 9 "FillCells$Windows" "height" "I") (List.mem_of_getElem? (i := 1) rfl)) (fun _ h9 => h9) rfl dX5_count_3 ?_
  refine lv_isub hx hb dX5_count_6 ?_
  refine lv_iconst (v := (1 : Int32)) hx hb dX5_count_7 (by decide) ?_
  refine lv_iadd hx hb dX5_count_8 ?_
  refine lv_bipush (v := (10 : Int32)) hx hb dX5_count_9 (by decide) ?_
  refine lv_aload_n hx hb dX5_count_11 rfl (lv_at hl 0 rfl) ?_
  refine va_get (ci := 5) (v := .int (gI σ 7)) (C := RX5) (T := TX5) (N := 8) hx hb hts (fun _ h => List.mem_cons_of_mem _ (List.mem_append_right _ h)) hown hK hP 20 rfl rfl 1 (by decide) (hts (.fieldLink RX5 15 "FillCells$Windows" "width" "I") (List.mem_of_getElem? (i := 2) rfl)) (fun _ h9 => h9) rfl dX5_count_12 ?_
  refine lv_isub hx hb dX5_count_15 ?_
  refine lv_iconst (v := (1 : Int32)) hx hb dX5_count_16 (by decide) ?_
  refine lv_iadd hx hb dX5_count_17 ?_
  refine lv_imul hx hb dX5_count_18 ?_
  rw [← hQ, ← Option.some.inj hE]
  exact ri hx hb hr hlocks hK hP hD hS dX5_count_19
abbrev rmX5_countThick : Room := { frames := 0, cells := 0, slots := 0, locals := 0 }
def f_X5_countThick_L4 (σ : St) (v4 : Int32 × Int32) : Option (((Int32)) ⊕ (Int32 × Int32)) := if (80 : Int32) ≤ v4.2 then (some (.inl (v4.1))) else (gd v4.2 80 (if (rd σ 5 v4.2) ≤ (gI σ 9) then (some (.inr (v4.1, (v4.2 + (1 : Int32))))) else (some (.inr ((v4.1 + (1 : Int32)), (v4.2 + (1 : Int32)))))))
def f_X5_countThick_J4 (x1 : Int32) (x2 : Int32) (σ : St) : Option Int32 := bnd (loopN (f_X5_countThick_L4 σ) 4096 (x1, x2)) (fun y4 => some y4)
def f_X5_countThick (σ : St) : Option Int32 := f_X5_countThick_J4 (0 : Int32) (0 : Int32) σ
set_option maxHeartbeats 4000000 in
set_option maxRecDepth 100000 in
theorem c_X5_countThick (l : Launch) (G : EV)   (σ : St) (r : Int32) (hE : f_X5_countThick σ = some r) : MetI l G yX5_countThick wsX5_countThick rmX5_countThick [.ref (aD G 20)] (wC G σ) r (wC G σ) := by
  refine Met.of0 (Qf := PI G r (wC G σ)) (cc := cX5_countThick) (maxL := 3) (ret := (some .int)) (by decide) rfl (Nat.le_of_ble_eq_true rfl) ?_
  intro p e s m below meth c args A hx hb hr hts hown hlocks hml hin0 hA hS hP hK hD hX ls hl
  have hl : lv_has ls 3 [(0, .ref (aD G 20))] := hl
  generalize hQ : MQ below (PI G r (wC G σ) A) args s 0 0 A = Q
  unfold f_X5_countThick at hE
  have J_4 : ∀ (x1 : Int32) (x2 : Int32) (H : Heap) (locs : List Loc) (ls : Array Slot), va_P G.1 vwCl (wC G σ) H → va_D A (wC G σ) → va_S A s.heap H locs → lv_has ls 3 [(0, .ref (aD G 20)), (1, .int x1), (2, .int x2)] → f_X5_countThick_J4 x1 x2 σ = some r → W p l e rmX5_countThick s m args below meth c H locs 0 0 Q (F0 m 4 ls []) := by
    intro x1 x2 H locs ls hP hD hS hl hE
    unfold f_X5_countThick_J4 at hE
    obtain ⟨y4, hL, hE4⟩ := bnd_some hE
    refine loop_W (body := f_X5_countThick_L4 σ) (y := y4) (P := fun v4 => ∀ (H : Heap) (locs : List Loc) (ls : Array Slot), va_P G.1 vwCl (wC G σ) H → va_D A (wC G σ) → va_S A s.heap H locs → lv_has ls 3 [(0, .ref (aD G 20)), (1, .int v4.1), (2, .int v4.2)] → W p l e rmX5_countThick s m args below meth c H locs 0 0 Q (F0 m 4 ls [])) ?_ _ _ hL H locs ls hP hD hS hl
    clear hP hD hS hl hE hL
    intro v4 t4 hE hN4 hY4
    intro H locs ls hP hD hS hl
    unfold f_X5_countThick_L4 at hE
    refine lv_iload_n hx hb dX5_countThick_4 rfl (lv_at hl 2 rfl) ?_
    refine lv_bipush (v := (80 : Int32)) hx hb dX5_countThick_5 (by decide) ?_
    refine lv_icmp_ge (tgt := 32) hx hb dX5_countThick_7 (by decide) (fun c_ => ?_) (fun c_ => ?_)
    · have hE := ip c_ hE
      have e9 := hY4 _ (Option.some.inj hE).symm
      have hE := hE4
      rw [← e9] at hE
      refine lv_iload_n hx hb dX5_countThick_32 rfl (lv_at hl 1 rfl) ?_
      rw [← hQ, ← Option.some.inj hE]
      exact ri hx hb hr hlocks hK hP hD hS dX5_countThick_33
    · have hE := im c_ hE
      refine lv_aload_n hx hb dX5_countThick_10 rfl (lv_at hl 0 rfl) ?_
      refine va_get (ci := 5) (v := .ref (aD G 5)) (C := RX5) (T := TX5) (N := 8) hx hb hts (fun _ h => List.mem_cons_of_mem _ (List.mem_append_right _ h)) hown hK hP 20 rfl rfl 4 (by decide) (hts (.fieldLink RX5 24 "FillCells$Windows" "sums" "[I") (List.mem_of_getElem? (i := 1) rfl)) (fun _ h9 => h9) rfl dX5_countThick_11 ?_
      refine lv_iload_n hx hb dX5_countThick_14 rfl (lv_at hl 2 rfl) ?_
      obtain ⟨h_i, hE⟩ := gd_some hE
      refine ldC hx hb hK hP 5 (by decide) h_i dX5_countThick_15 ?_
      refine lv_aload_n hx hb dX5_countThick_16 rfl (lv_at hl 0 rfl) ?_
      refine va_get (ci := 5) (v := .int (gI σ 9)) (C := RX5) (T := TX5) (N := 8) hx hb hts (fun _ h => List.mem_cons_of_mem _ (List.mem_append_right _ h)) hown hK hP 20 rfl rfl 3 (by decide) (hts (.fieldLink RX5 21 "FillCells$Windows" "high" "I") (List.mem_of_getElem? (i := 2) rfl)) (fun _ h9 => h9) rfl dX5_countThick_17 ?_
      refine lv_icmp_le (tgt := 26) hx hb dX5_countThick_20 (by decide) (fun c_ => ?_) (fun c_ => ?_)
      · have hE := ip c_ hE
        refine lv_iinc (v := (v4.2 + (1 : Int32))) (lv' := [(2, .int (v4.2 + (1 : Int32))), (0, .ref (aD G 20)), (1, .int v4.1)]) hx hb dX5_countThick_26 hl (k := 2) rfl rfl (by decide) rfl (fun ls hl => ?_)
        refine lv_goto (tgt := 4) hx hb dX5_countThick_29 (by decide) ?_
        exact hN4 _ (Option.some.inj hE).symm _ _ _ hP hD hS (lv_sub hl [1, 2, 0] rfl)
      · have hE := im c_ hE
        refine lv_iinc (v := (v4.1 + (1 : Int32))) (lv' := [(1, .int (v4.1 + (1 : Int32))), (0, .ref (aD G 20)), (2, .int v4.2)]) hx hb dX5_countThick_23 hl (k := 1) rfl rfl (by decide) rfl (fun ls hl => ?_)
        refine lv_iinc (v := (v4.2 + (1 : Int32))) (lv' := [(2, .int (v4.2 + (1 : Int32))), (1, .int (v4.1 + (1 : Int32))), (0, .ref (aD G 20))]) hx hb dX5_countThick_26 hl (k := 2) rfl rfl (by decide) rfl (fun ls hl => ?_)
        refine lv_goto (tgt := 4) hx hb dX5_countThick_29 (by decide) ?_
        exact hN4 _ (Option.some.inj hE).symm _ _ _ hP hD hS (lv_sub hl [2, 1, 0] rfl)
  refine lv_iconst (v := (0 : Int32)) hx hb dX5_countThick_0 (by decide) ?_
  refine lv_istore_n (lv' := [(1, .int (0 : Int32)), (0, .ref (aD G 20))]) hx hb dX5_countThick_1 rfl hl (by decide) rfl (fun ls hl => ?_)
  refine lv_iconst (v := (0 : Int32)) hx hb dX5_countThick_2 (by decide) ?_
  refine lv_istore_n (lv' := [(2, .int (0 : Int32)), (1, .int (0 : Int32)), (0, .ref (aD G 20))]) hx hb dX5_countThick_3 rfl hl (by decide) rfl (fun ls hl => ?_)
  exact J_4 (0 : Int32) (0 : Int32) _ _ _ hP hD hS (lv_sub hl [2, 1, 0] rfl) hE
abbrev rmX5_countOf : Room := { frames := 0, cells := 0, slots := 0, locals := 0 }
def f_X5_countOf_L4 (x1 : Int32) (σ : St) (v4 : Int32 × Int32) : Option (((Int32)) ⊕ (Int32 × Int32)) := if (80 : Int32) ≤ v4.2 then (some (.inl (v4.1))) else (gd v4.2 80 (if (rd σ 5 v4.2) = x1 then (some (.inr ((v4.1 + (1 : Int32)), (v4.2 + (1 : Int32))))) else (some (.inr (v4.1, (v4.2 + (1 : Int32)))))))
def f_X5_countOf_J4 (x1 : Int32) (x2 : Int32) (x3 : Int32) (σ : St) : Option Int32 := bnd (loopN (f_X5_countOf_L4 x1 σ) 4096 (x2, x3)) (fun y4 => some y4)
def f_X5_countOf (x1 : Int32) (σ : St) : Option Int32 := f_X5_countOf_J4 x1 (0 : Int32) (0 : Int32) σ
set_option maxHeartbeats 4000000 in
set_option maxRecDepth 100000 in
theorem c_X5_countOf (l : Launch) (G : EV)  (x1 : Int32) (σ : St) (r : Int32) (hE : f_X5_countOf x1 σ = some r) : MetI l G yX5_countOf wsX5_countOf rmX5_countOf [.ref (aD G 20), .int x1] (wC G σ) r (wC G σ) := by
  refine Met.of0 (Qf := PI G r (wC G σ)) (cc := cX5_countOf) (maxL := 4) (ret := (some .int)) (by decide) rfl (Nat.le_of_ble_eq_true rfl) ?_
  intro p e s m below meth c args A hx hb hr hts hown hlocks hml hin0 hA hS hP hK hD hX ls hl
  have hl : lv_has ls 4 [(0, .ref (aD G 20)), (1, .int x1)] := hl
  generalize hQ : MQ below (PI G r (wC G σ) A) args s 0 0 A = Q
  unfold f_X5_countOf at hE
  have J_4 : ∀ (x2 : Int32) (x3 : Int32) (H : Heap) (locs : List Loc) (ls : Array Slot), va_P G.1 vwCl (wC G σ) H → va_D A (wC G σ) → va_S A s.heap H locs → lv_has ls 4 [(0, .ref (aD G 20)), (1, .int x1), (2, .int x2), (3, .int x3)] → f_X5_countOf_J4 x1 x2 x3 σ = some r → W p l e rmX5_countOf s m args below meth c H locs 0 0 Q (F0 m 4 ls []) := by
    intro x2 x3 H locs ls hP hD hS hl hE
    unfold f_X5_countOf_J4 at hE
    obtain ⟨y4, hL, hE4⟩ := bnd_some hE
    refine loop_W (body := f_X5_countOf_L4 x1 σ) (y := y4) (P := fun v4 => ∀ (H : Heap) (locs : List Loc) (ls : Array Slot), va_P G.1 vwCl (wC G σ) H → va_D A (wC G σ) → va_S A s.heap H locs → lv_has ls 4 [(0, .ref (aD G 20)), (1, .int x1), (2, .int v4.1), (3, .int v4.2)] → W p l e rmX5_countOf s m args below meth c H locs 0 0 Q (F0 m 4 ls [])) ?_ _ _ hL H locs ls hP hD hS hl
    clear hP hD hS hl hE hL
    intro v4 t4 hE hN4 hY4
    intro H locs ls hP hD hS hl
    unfold f_X5_countOf_L4 at hE
    refine lv_iload_n hx hb dX5_countOf_4 rfl (lv_at hl 3 rfl) ?_
    refine lv_bipush (v := (80 : Int32)) hx hb dX5_countOf_5 (by decide) ?_
    refine lv_icmp_ge (tgt := 29) hx hb dX5_countOf_7 (by decide) (fun c_ => ?_) (fun c_ => ?_)
    · have hE := ip c_ hE
      have e9 := hY4 _ (Option.some.inj hE).symm
      have hE := hE4
      rw [← e9] at hE
      refine lv_iload_n hx hb dX5_countOf_29 rfl (lv_at hl 2 rfl) ?_
      rw [← hQ, ← Option.some.inj hE]
      exact ri hx hb hr hlocks hK hP hD hS dX5_countOf_30
    · have hE := im c_ hE
      refine lv_aload_n hx hb dX5_countOf_10 rfl (lv_at hl 0 rfl) ?_
      refine va_get (ci := 5) (v := .ref (aD G 5)) (C := RX5) (T := TX5) (N := 8) hx hb hts (fun _ h => List.mem_cons_of_mem _ (List.mem_append_right _ h)) hown hK hP 20 rfl rfl 4 (by decide) (hts (.fieldLink RX5 24 "FillCells$Windows" "sums" "[I") (List.mem_of_getElem? (i := 1) rfl)) (fun _ h9 => h9) rfl dX5_countOf_11 ?_
      refine lv_iload_n hx hb dX5_countOf_14 rfl (lv_at hl 3 rfl) ?_
      obtain ⟨h_i, hE⟩ := gd_some hE
      refine ldC hx hb hK hP 5 (by decide) h_i dX5_countOf_15 ?_
      refine lv_iload_n hx hb dX5_countOf_16 rfl (lv_at hl 1 rfl) ?_
      refine lv_icmp_ne (tgt := 23) hx hb dX5_countOf_17 (by decide) (fun c_ => ?_) (fun c_ => ?_)
      · have hE := im c_ hE
        refine lv_iinc (v := (v4.2 + (1 : Int32))) (lv' := [(3, .int (v4.2 + (1 : Int32))), (0, .ref (aD G 20)), (1, .int x1), (2, .int v4.1)]) hx hb dX5_countOf_23 hl (k := 3) rfl rfl (by decide) rfl (fun ls hl => ?_)
        refine lv_goto (tgt := 4) hx hb dX5_countOf_26 (by decide) ?_
        exact hN4 _ (Option.some.inj hE).symm _ _ _ hP hD hS (lv_sub hl [1, 2, 3, 0] rfl)
      · have hE := ip c_ hE
        refine lv_iinc (v := (v4.1 + (1 : Int32))) (lv' := [(2, .int (v4.1 + (1 : Int32))), (0, .ref (aD G 20)), (1, .int x1), (3, .int v4.2)]) hx hb dX5_countOf_20 hl (k := 2) rfl rfl (by decide) rfl (fun ls hl => ?_)
        refine lv_iinc (v := (v4.2 + (1 : Int32))) (lv' := [(3, .int (v4.2 + (1 : Int32))), (2, .int (v4.1 + (1 : Int32))), (0, .ref (aD G 20)), (1, .int x1)]) hx hb dX5_countOf_23 hl (k := 3) rfl rfl (by decide) rfl (fun ls hl => ?_)
        refine lv_goto (tgt := 4) hx hb dX5_countOf_26 (by decide) ?_
        exact hN4 _ (Option.some.inj hE).symm _ _ _ hP hD hS (lv_sub hl [2, 3, 1, 0] rfl)
  refine lv_iconst (v := (0 : Int32)) hx hb dX5_countOf_0 (by decide) ?_
  refine lv_istore_n (lv' := [(2, .int (0 : Int32)), (0, .ref (aD G 20)), (1, .int x1)]) hx hb dX5_countOf_1 rfl hl (by decide) rfl (fun ls hl => ?_)
  refine lv_iconst (v := (0 : Int32)) hx hb dX5_countOf_2 (by decide) ?_
  refine lv_istore_n (lv' := [(3, .int (0 : Int32)), (2, .int (0 : Int32)), (0, .ref (aD G 20)), (1, .int x1)]) hx hb dX5_countOf_3 rfl hl (by decide) rfl (fun ls hl => ?_)
  exact J_4 (0 : Int32) (0 : Int32) _ _ _ hP hD hS (lv_sub hl [2, 3, 1, 0] rfl) hE
abbrev rmX5_sumAbove : Room := { frames := 0, cells := 0, slots := 0, locals := 0 }
def f_X5_sumAbove_J35 (x1 : Int32) (x3 : Int32) (σ : St) : Option (((Int32)) ⊕ (Int32 × Int32)) := gd x3 80 (some (.inr ((rd σ 5 x3), (x3 + (1 : Int32)))))
def f_X5_sumAbove_L4 (x1 : Int32) (σ : St) (v4 : Int32 × Int32) : Option (((Int32)) ⊕ (Int32 × Int32)) := if (80 : Int32) ≤ v4.2 then (some (.inl (v4.1))) else (gd v4.2 80 (if (rd σ 5 v4.2) ≤ x1 then (some (.inr (v4.1, (v4.2 + (1 : Int32))))) else (if v4.1 = (-1 : Int32) then (f_X5_sumAbove_J35 x1 v4.2 σ) else (gd v4.2 80 (if v4.1 ≤ (rd σ 5 v4.2) then (some (.inr (v4.1, (v4.2 + (1 : Int32))))) else (f_X5_sumAbove_J35 x1 v4.2 σ))))))
def f_X5_sumAbove_J4 (x1 : Int32) (x2 : Int32) (x3 : Int32) (σ : St) : Option Int32 := bnd (loopN (f_X5_sumAbove_L4 x1 σ) 4096 (x2, x3)) (fun y4 => some y4)
def f_X5_sumAbove (x1 : Int32) (σ : St) : Option Int32 := f_X5_sumAbove_J4 x1 (-1 : Int32) (0 : Int32) σ
set_option maxHeartbeats 4000000 in
set_option maxRecDepth 100000 in
theorem c_X5_sumAbove (l : Launch) (G : EV)  (x1 : Int32) (σ : St) (r : Int32) (hE : f_X5_sumAbove x1 σ = some r) : MetI l G yX5_sumAbove wsX5_sumAbove rmX5_sumAbove [.ref (aD G 20), .int x1] (wC G σ) r (wC G σ) := by
  refine Met.of0 (Qf := PI G r (wC G σ)) (cc := cX5_sumAbove) (maxL := 4) (ret := (some .int)) (by decide) rfl (Nat.le_of_ble_eq_true rfl) ?_
  intro p e s m below meth c args A hx hb hr hts hown hlocks hml hin0 hA hS hP hK hD hX ls hl
  have hl : lv_has ls 4 [(0, .ref (aD G 20)), (1, .int x1)] := hl
  generalize hQ : MQ below (PI G r (wC G σ) A) args s 0 0 A = Q
  unfold f_X5_sumAbove at hE
  have J_4 : ∀ (x2 : Int32) (x3 : Int32) (H : Heap) (locs : List Loc) (ls : Array Slot), va_P G.1 vwCl (wC G σ) H → va_D A (wC G σ) → va_S A s.heap H locs → lv_has ls 4 [(0, .ref (aD G 20)), (1, .int x1), (2, .int x2), (3, .int x3)] → f_X5_sumAbove_J4 x1 x2 x3 σ = some r → W p l e rmX5_sumAbove s m args below meth c H locs 0 0 Q (F0 m 4 ls []) := by
    intro x2 x3 H locs ls hP hD hS hl hE
    unfold f_X5_sumAbove_J4 at hE
    obtain ⟨y4, hL, hE4⟩ := bnd_some hE
    refine loop_W (body := f_X5_sumAbove_L4 x1 σ) (y := y4) (P := fun v4 => ∀ (H : Heap) (locs : List Loc) (ls : Array Slot), va_P G.1 vwCl (wC G σ) H → va_D A (wC G σ) → va_S A s.heap H locs → lv_has ls 4 [(0, .ref (aD G 20)), (1, .int x1), (2, .int v4.1), (3, .int v4.2)] → W p l e rmX5_sumAbove s m args below meth c H locs 0 0 Q (F0 m 4 ls [])) ?_ _ _ hL H locs ls hP hD hS hl
    clear hP hD hS hl hE hL
    intro v4 t4 hE hN4 hY4
    intro H locs ls hP hD hS hl
    unfold f_X5_sumAbove_L4 at hE
    have J_35 : ∀ (x3 : Int32) (H : Heap) (locs : List Loc) (ls : Array Slot), va_P G.1 vwCl (wC G σ) H → va_D A (wC G σ) → va_S A s.heap H locs → lv_has ls 4 [(0, .ref (aD G 20)), (1, .int x1), (3, .int x3)] → f_X5_sumAbove_J35 x1 x3 σ = some t4 → W p l e rmX5_sumAbove s m args below meth c H locs 0 0 Q (F0 m 35 ls []) := by
      intro x3 H locs ls hP hD hS hl hE
      unfold f_X5_sumAbove_J35 at hE
      refine lv_aload_n hx hb dX5_sumAbove_35 rfl (lv_at hl 0 rfl) ?_
      refine va_get (ci := 5) (v := .ref (aD G 5)) (C := RX5) (T := TX5) (N := 8) hx hb hts (fun _ h => List.mem_cons_of_mem _ (List.mem_append_right _ h)) hown hK hP 20 rfl rfl 4 (by decide) (hts (.fieldLink RX5 24 "FillCells$Windows" "sums" "[I") (List.mem_of_getElem? (i := 1) rfl)) (fun _ h9 => h9) rfl dX5_sumAbove_36 ?_
      refine lv_iload_n hx hb dX5_sumAbove_39 rfl (lv_at hl 2 rfl) ?_
      obtain ⟨h_i, hE⟩ := gd_some hE
      refine ldC hx hb hK hP 5 (by decide) h_i dX5_sumAbove_40 ?_
      refine lv_istore_n (lv' := [(2, .int (rd σ 5 x3)), (0, .ref (aD G 20)), (1, .int x1), (3, .int x3)]) hx hb dX5_sumAbove_41 rfl hl (by decide) rfl (fun ls hl => ?_)
      refine lv_iinc (v := (x3 + (1 : Int32))) (lv' := [(3, .int (x3 + (1 : Int32))), (2, .int (rd σ 5 x3)), (0, .ref (aD G 20)), (1, .int x1)]) hx hb dX5_sumAbove_42 hl (k := 3) rfl rfl (by decide) rfl (fun ls hl => ?_)
      refine lv_goto (tgt := 4) hx hb dX5_sumAbove_45 (by decide) ?_
      exact hN4 _ (Option.some.inj hE).symm _ _ _ hP hD hS (lv_sub hl [2, 3, 1, 0] rfl)
    refine lv_iload_n hx hb dX5_sumAbove_4 rfl (lv_at hl 3 rfl) ?_
    refine lv_bipush (v := (80 : Int32)) hx hb dX5_sumAbove_5 (by decide) ?_
    refine lv_icmp_ge (tgt := 48) hx hb dX5_sumAbove_7 (by decide) (fun c_ => ?_) (fun c_ => ?_)
    · have hE := ip c_ hE
      have e9 := hY4 _ (Option.some.inj hE).symm
      have hE := hE4
      rw [← e9] at hE
      refine lv_iload_n hx hb dX5_sumAbove_48 rfl (lv_at hl 2 rfl) ?_
      rw [← hQ, ← Option.some.inj hE]
      exact ri hx hb hr hlocks hK hP hD hS dX5_sumAbove_49
    · have hE := im c_ hE
      refine lv_aload_n hx hb dX5_sumAbove_10 rfl (lv_at hl 0 rfl) ?_
      refine va_get (ci := 5) (v := .ref (aD G 5)) (C := RX5) (T := TX5) (N := 8) hx hb hts (fun _ h => List.mem_cons_of_mem _ (List.mem_append_right _ h)) hown hK hP 20 rfl rfl 4 (by decide) (hts (.fieldLink RX5 24 "FillCells$Windows" "sums" "[I") (List.mem_of_getElem? (i := 1) rfl)) (fun _ h9 => h9) rfl dX5_sumAbove_11 ?_
      refine lv_iload_n hx hb dX5_sumAbove_14 rfl (lv_at hl 3 rfl) ?_
      obtain ⟨h_i, hE⟩ := gd_some hE
      refine ldC hx hb hK hP 5 (by decide) h_i dX5_sumAbove_15 ?_
      refine lv_iload_n hx hb dX5_sumAbove_16 rfl (lv_at hl 1 rfl) ?_
      refine lv_icmp_le (tgt := 42) hx hb dX5_sumAbove_17 (by decide) (fun c_ => ?_) (fun c_ => ?_)
      · have hE := ip c_ hE
        refine lv_iinc (v := (v4.2 + (1 : Int32))) (lv' := [(3, .int (v4.2 + (1 : Int32))), (0, .ref (aD G 20)), (1, .int x1), (2, .int v4.1)]) hx hb dX5_sumAbove_42 hl (k := 3) rfl rfl (by decide) rfl (fun ls hl => ?_)
        refine lv_goto (tgt := 4) hx hb dX5_sumAbove_45 (by decide) ?_
        exact hN4 _ (Option.some.inj hE).symm _ _ _ hP hD hS (lv_sub hl [1, 2, 3, 0] rfl)
      · have hE := im c_ hE
        refine lv_iload_n hx hb dX5_sumAbove_20 rfl (lv_at hl 2 rfl) ?_
        refine lv_iconst (v := (-1 : Int32)) hx hb dX5_sumAbove_21 (by decide) ?_
        refine lv_icmp_eq (tgt := 35) hx hb dX5_sumAbove_22 (by decide) (fun c_ => ?_) (fun c_ => ?_)
        · have hE := ip c_ hE
          exact J_35 v4.2 _ _ _ hP hD hS (lv_sub hl [0, 1, 3] rfl) hE
        · have hE := im c_ hE
          refine lv_aload_n hx hb dX5_sumAbove_25 rfl (lv_at hl 0 rfl) ?_
          refine va_get (ci := 5) (v := .ref (aD G 5)) (C := RX5) (T := TX5) (N := 8) hx hb hts (fun _ h => List.mem_cons_of_mem _ (List.mem_append_right _ h)) hown hK hP 20 rfl rfl 4 (by decide) (hts (.fieldLink RX5 24 "FillCells$Windows" "sums" "[I") (List.mem_of_getElem? (i := 1) rfl)) (fun _ h9 => h9) rfl dX5_sumAbove_26 ?_
          refine lv_iload_n hx hb dX5_sumAbove_29 rfl (lv_at hl 3 rfl) ?_
          obtain ⟨h_i, hE⟩ := gd_some hE
          refine ldC hx hb hK hP 5 (by decide) h_i dX5_sumAbove_30 ?_
          refine lv_iload_n hx hb dX5_sumAbove_31 rfl (lv_at hl 2 rfl) ?_
          refine lv_icmp_ge (tgt := 42) hx hb dX5_sumAbove_32 (by decide) (fun c_ => ?_) (fun c_ => ?_)
          · have hE := ip c_ hE
            refine lv_iinc (v := (v4.2 + (1 : Int32))) (lv' := [(3, .int (v4.2 + (1 : Int32))), (0, .ref (aD G 20)), (1, .int x1), (2, .int v4.1)]) hx hb dX5_sumAbove_42 hl (k := 3) rfl rfl (by decide) rfl (fun ls hl => ?_)
            refine lv_goto (tgt := 4) hx hb dX5_sumAbove_45 (by decide) ?_
            exact hN4 _ (Option.some.inj hE).symm _ _ _ hP hD hS (lv_sub hl [1, 2, 3, 0] rfl)
          · have hE := im c_ hE
            exact J_35 v4.2 _ _ _ hP hD hS (lv_sub hl [0, 1, 3] rfl) hE
  refine lv_iconst (v := (-1 : Int32)) hx hb dX5_sumAbove_0 (by decide) ?_
  refine lv_istore_n (lv' := [(2, .int (-1 : Int32)), (0, .ref (aD G 20)), (1, .int x1)]) hx hb dX5_sumAbove_1 rfl hl (by decide) rfl (fun ls hl => ?_)
  refine lv_iconst (v := (0 : Int32)) hx hb dX5_sumAbove_2 (by decide) ?_
  refine lv_istore_n (lv' := [(3, .int (0 : Int32)), (2, .int (-1 : Int32)), (0, .ref (aD G 20)), (1, .int x1)]) hx hb dX5_sumAbove_3 rfl hl (by decide) rfl (fun ls hl => ?_)
  exact J_4 (-1 : Int32) (0 : Int32) _ _ _ hP hD hS (lv_sub hl [2, 3, 1, 0] rfl) hE
abbrev rmX5_countUnlike : Room := { frames := 1, cells := 0, slots := 0, locals := 23 }
def f_X5_countUnlike_L8 (σ : St) (v8 : Int32 × Int32) : Option (((Int32)) ⊕ (Int32 × Int32)) := if (80 : Int32) ≤ v8.1 then (some (.inl (v8.1))) else (if v8.2 = (-1 : Int32) then (some (.inl (v8.1))) else (bnd (f_X5_sumAbove v8.2 σ) (fun r2 => some (.inr ((v8.1 + (1 : Int32)), r2)))))
def f_X5_countUnlike_J8 (x1 : Int32) (x2 : Int32) (σ : St) : Option Int32 := bnd (loopN (f_X5_countUnlike_L8 σ) 4096 (x1, x2)) (fun y8 => some y8)
def f_X5_countUnlike (σ : St) : Option Int32 := bnd (f_X5_sumAbove (-1 : Int32) σ) (fun r1 => f_X5_countUnlike_J8 (0 : Int32) r1 σ)
set_option maxHeartbeats 4000000 in
set_option maxRecDepth 100000 in
theorem c_X5_countUnlike (l : Launch) (G : EV)   (σ : St) (r : Int32) (hE : f_X5_countUnlike σ = some r) : MetI l G yX5_countUnlike wsX5_countUnlike rmX5_countUnlike [.ref (aD G 20)] (wC G σ) r (wC G σ) := by
  refine Met.of0 (Qf := PI G r (wC G σ)) (cc := cX5_countUnlike) (maxL := 3) (ret := (some .int)) (by decide) rfl (Nat.le_of_ble_eq_true rfl) ?_
  intro p e s m below meth c args A hx hb hr hts hown hlocks hml hin0 hA hS hP hK hD hX ls hl
  have hl : lv_has ls 3 [(0, .ref (aD G 20))] := hl
  generalize hQ : MQ below (PI G r (wC G σ) A) args s 0 0 A = Q
  unfold f_X5_countUnlike at hE
  have J_8 : ∀ (x1 : Int32) (x2 : Int32) (H : Heap) (locs : List Loc) (ls : Array Slot), va_P G.1 vwCl (wC G σ) H → va_D A (wC G σ) → va_S A s.heap H locs → lv_has ls 3 [(0, .ref (aD G 20)), (1, .int x1), (2, .int x2)] → f_X5_countUnlike_J8 x1 x2 σ = some r → W p l e rmX5_countUnlike s m args below meth c H locs 0 0 Q (F0 m 8 ls []) := by
    intro x1 x2 H locs ls hP hD hS hl hE
    unfold f_X5_countUnlike_J8 at hE
    obtain ⟨y8, hL, hE8⟩ := bnd_some hE
    refine loop_W (body := f_X5_countUnlike_L8 σ) (y := y8) (P := fun v8 => ∀ (H : Heap) (locs : List Loc) (ls : Array Slot), va_P G.1 vwCl (wC G σ) H → va_D A (wC G σ) → va_S A s.heap H locs → lv_has ls 3 [(0, .ref (aD G 20)), (1, .int v8.1), (2, .int v8.2)] → W p l e rmX5_countUnlike s m args below meth c H locs 0 0 Q (F0 m 8 ls [])) ?_ _ _ hL H locs ls hP hD hS hl
    clear hP hD hS hl hE hL
    intro v8 t8 hE hN8 hY8
    intro H locs ls hP hD hS hl
    unfold f_X5_countUnlike_L8 at hE
    refine lv_iload_n hx hb dX5_countUnlike_8 rfl (lv_at hl 1 rfl) ?_
    refine lv_bipush (v := (80 : Int32)) hx hb dX5_countUnlike_9 (by decide) ?_
    refine lv_icmp_ge (tgt := 31) hx hb dX5_countUnlike_11 (by decide) (fun c_ => ?_) (fun c_ => ?_)
    · have hE := ip c_ hE
      have e9 := hY8 _ (Option.some.inj hE).symm
      have hE := hE8
      rw [← e9] at hE
      refine lv_iload_n hx hb dX5_countUnlike_31 rfl (lv_at hl 1 rfl) ?_
      rw [← hQ, ← Option.some.inj hE]
      exact ri hx hb hr hlocks hK hP hD hS dX5_countUnlike_32
    · have hE := im c_ hE
      refine lv_iload_n hx hb dX5_countUnlike_14 rfl (lv_at hl 2 rfl) ?_
      refine lv_iconst (v := (-1 : Int32)) hx hb dX5_countUnlike_15 (by decide) ?_
      refine lv_icmp_eq (tgt := 31) hx hb dX5_countUnlike_16 (by decide) (fun c_ => ?_) (fun c_ => ?_)
      · have hE := ip c_ hE
        have e9 := hY8 _ (Option.some.inj hE).symm
        have hE := hE8
        rw [← e9] at hE
        refine lv_iload_n hx hb dX5_countUnlike_31 rfl (lv_at hl 1 rfl) ?_
        rw [← hQ, ← Option.some.inj hE]
        exact ri hx hb hr hlocks hK hP hD hS dX5_countUnlike_32
      · have hE := im c_ hE
        refine lv_iinc (v := (v8.1 + (1 : Int32))) (lv' := [(1, .int (v8.1 + (1 : Int32))), (0, .ref (aD G 20)), (2, .int v8.2)]) hx hb dX5_countUnlike_19 hl (k := 1) rfl rfl (by decide) rfl (fun ls hl => ?_)
        refine lv_aload_n hx hb dX5_countUnlike_22 rfl (lv_at hl 1 rfl) ?_
        refine lv_iload_n hx hb dX5_countUnlike_23 rfl (lv_at hl 2 rfl) ?_
        obtain ⟨r2, hC, hE⟩ := bnd_some hE
        refine ci (va_runV (As := [.int v8.2]) (rest := []) ⟨hx, hb, hml, hown, hts⟩ (c_X5_sumAbove l G v8.2 σ r2 hC _) (cwV 1 hts gX5_countUnlike_X5_sumAbove rfl rfl rfl (by decide +kernel) ⟨Nat.le_of_ble_eq_true rfl, Nat.le_of_ble_eq_true rfl⟩) (preV hK hP hD hS hA hX (va_recv hK hP (ci := 5) (q0 := 20) rfl rfl)) rfl rfl hl.1 rfl (lv_room (Nat.le_of_ble_eq_true rfl)) dX5_countUnlike_24 ⟨Nat.le_of_ble_eq_true rfl, Nat.le_of_ble_eq_true rfl⟩) hD hS hA (fun H locs hP hD hS => ?_)
        refine lv_istore_n (lv' := [(2, .int r2), (1, .int (v8.1 + (1 : Int32))), (0, .ref (aD G 20))]) hx hb dX5_countUnlike_27 rfl hl (by decide) rfl (fun ls hl => ?_)
        refine lv_goto (tgt := 8) hx hb dX5_countUnlike_28 (by decide) ?_
        exact hN8 _ (Option.some.inj hE).symm _ _ _ hP hD hS (lv_sub hl [2, 1, 0] rfl)
  refine lv_iconst (v := (0 : Int32)) hx hb dX5_countUnlike_0 (by decide) ?_
  refine lv_istore_n (lv' := [(1, .int (0 : Int32)), (0, .ref (aD G 20))]) hx hb dX5_countUnlike_1 rfl hl (by decide) rfl (fun ls hl => ?_)
  refine lv_aload_n hx hb dX5_countUnlike_2 rfl (lv_at hl 1 rfl) ?_
  refine lv_iconst (v := (-1 : Int32)) hx hb dX5_countUnlike_3 (by decide) ?_
  obtain ⟨r1, hC, hE⟩ := bnd_some hE
  refine ci (va_runV (As := [.int (-1 : Int32)]) (rest := []) ⟨hx, hb, hml, hown, hts⟩ (c_X5_sumAbove l G (-1 : Int32) σ r1 hC _) (cwV 1 hts gX5_countUnlike_X5_sumAbove rfl rfl rfl (by decide +kernel) ⟨Nat.le_of_ble_eq_true rfl, Nat.le_of_ble_eq_true rfl⟩) (preV hK hP hD hS hA hX (va_recv hK hP (ci := 5) (q0 := 20) rfl rfl)) rfl rfl hl.1 rfl (lv_room (Nat.le_of_ble_eq_true rfl)) dX5_countUnlike_4 ⟨Nat.le_of_ble_eq_true rfl, Nat.le_of_ble_eq_true rfl⟩) hD hS hA (fun H locs hP hD hS => ?_)
  refine lv_istore_n (lv' := [(2, .int r1), (1, .int (0 : Int32)), (0, .ref (aD G 20))]) hx hb dX5_countUnlike_7 rfl hl (by decide) rfl (fun ls hl => ?_)
  exact J_8 (0 : Int32) r1 _ _ _ hP hD hS (lv_sub hl [2, 1, 0] rfl) hE
abbrev rmX5_unlikeSum : Room := { frames := 1, cells := 0, slots := 0, locals := 23 }
def f_X5_unlikeSum_L16 (x1 : Int32) (σ : St) (v16 : Int32 × Int32) : Option (((Int32)) ⊕ (Int32 × Int32)) := if x1 ≤ v16.2 then (some (.inl (v16.1))) else (if v16.1 = (-1 : Int32) then (some (.inl (v16.1))) else (bnd (f_X5_sumAbove v16.1 σ) (fun r2 => some (.inr (r2, (v16.2 + (1 : Int32)))))))
def f_X5_unlikeSum_J16 (x1 : Int32) (x2 : Int32) (x3 : Int32) (σ : St) : Option Int32 := bnd (loopN (f_X5_unlikeSum_L16 x1 σ) 4096 (x2, x3)) (fun y16 => some y16)
def f_X5_unlikeSum (x1 : Int32) (σ : St) : Option Int32 := if x1 < (80 : Int32) then (bnd (f_X5_sumAbove (-1 : Int32) σ) (fun r1 => f_X5_unlikeSum_J16 x1 r1 (0 : Int32) σ)) else (some (-1 : Int32))
set_option maxHeartbeats 4000000 in
set_option maxRecDepth 100000 in
theorem c_X5_unlikeSum (l : Launch) (G : EV)  (x1 : Int32) (σ : St) (r : Int32) (hE : f_X5_unlikeSum x1 σ = some r) : MetI l G yX5_unlikeSum wsX5_unlikeSum rmX5_unlikeSum [.ref (aD G 20), .int x1] (wC G σ) r (wC G σ) := by
  refine Met.of0 (Qf := PI G r (wC G σ)) (cc := cX5_unlikeSum) (maxL := 4) (ret := (some .int)) (by decide) rfl (Nat.le_of_ble_eq_true rfl) ?_
  intro p e s m below meth c args A hx hb hr hts hown hlocks hml hin0 hA hS hP hK hD hX ls hl
  have hl : lv_has ls 4 [(0, .ref (aD G 20)), (1, .int x1)] := hl
  generalize hQ : MQ below (PI G r (wC G σ) A) args s 0 0 A = Q
  unfold f_X5_unlikeSum at hE
  have J_16 : ∀ (x2 : Int32) (x3 : Int32) (H : Heap) (locs : List Loc) (ls : Array Slot), va_P G.1 vwCl (wC G σ) H → va_D A (wC G σ) → va_S A s.heap H locs → lv_has ls 4 [(0, .ref (aD G 20)), (1, .int x1), (2, .int x2), (3, .int x3)] → f_X5_unlikeSum_J16 x1 x2 x3 σ = some r → W p l e rmX5_unlikeSum s m args below meth c H locs 0 0 Q (F0 m 16 ls []) := by
    intro x2 x3 H locs ls hP hD hS hl hE
    unfold f_X5_unlikeSum_J16 at hE
    obtain ⟨y16, hL, hE16⟩ := bnd_some hE
    refine loop_W (body := f_X5_unlikeSum_L16 x1 σ) (y := y16) (P := fun v16 => ∀ (H : Heap) (locs : List Loc) (ls : Array Slot), va_P G.1 vwCl (wC G σ) H → va_D A (wC G σ) → va_S A s.heap H locs → lv_has ls 4 [(0, .ref (aD G 20)), (1, .int x1), (2, .int v16.1), (3, .int v16.2)] → W p l e rmX5_unlikeSum s m args below meth c H locs 0 0 Q (F0 m 16 ls [])) ?_ _ _ hL H locs ls hP hD hS hl
    clear hP hD hS hl hE hL
    intro v16 t16 hE hN16 hY16
    intro H locs ls hP hD hS hl
    unfold f_X5_unlikeSum_L16 at hE
    refine lv_iload_n hx hb dX5_unlikeSum_16 rfl (lv_at hl 3 rfl) ?_
    refine lv_iload_n hx hb dX5_unlikeSum_17 rfl (lv_at hl 1 rfl) ?_
    refine lv_icmp_ge (tgt := 38) hx hb dX5_unlikeSum_18 (by decide) (fun c_ => ?_) (fun c_ => ?_)
    · have hE := ip c_ hE
      have e9 := hY16 _ (Option.some.inj hE).symm
      have hE := hE16
      rw [← e9] at hE
      refine lv_iload_n hx hb dX5_unlikeSum_38 rfl (lv_at hl 2 rfl) ?_
      rw [← hQ, ← Option.some.inj hE]
      exact ri hx hb hr hlocks hK hP hD hS dX5_unlikeSum_39
    · have hE := im c_ hE
      refine lv_iload_n hx hb dX5_unlikeSum_21 rfl (lv_at hl 2 rfl) ?_
      refine lv_iconst (v := (-1 : Int32)) hx hb dX5_unlikeSum_22 (by decide) ?_
      refine lv_icmp_eq (tgt := 38) hx hb dX5_unlikeSum_23 (by decide) (fun c_ => ?_) (fun c_ => ?_)
      · have hE := ip c_ hE
        have e9 := hY16 _ (Option.some.inj hE).symm
        have hE := hE16
        rw [← e9] at hE
        refine lv_iload_n hx hb dX5_unlikeSum_38 rfl (lv_at hl 2 rfl) ?_
        rw [← hQ, ← Option.some.inj hE]
        exact ri hx hb hr hlocks hK hP hD hS dX5_unlikeSum_39
      · have hE := im c_ hE
        refine lv_aload_n hx hb dX5_unlikeSum_26 rfl (lv_at hl 0 rfl) ?_
        refine lv_iload_n hx hb dX5_unlikeSum_27 rfl (lv_at hl 2 rfl) ?_
        obtain ⟨r2, hC, hE⟩ := bnd_some hE
        refine ci (va_runV (As := [.int v16.1]) (rest := []) ⟨hx, hb, hml, hown, hts⟩ (c_X5_sumAbove l G v16.1 σ r2 hC _) (cwV 1 hts gX5_unlikeSum_X5_sumAbove rfl rfl rfl (by decide +kernel) ⟨Nat.le_of_ble_eq_true rfl, Nat.le_of_ble_eq_true rfl⟩) (preV hK hP hD hS hA hX (va_recv hK hP (ci := 5) (q0 := 20) rfl rfl)) rfl rfl hl.1 rfl (lv_room (Nat.le_of_ble_eq_true rfl)) dX5_unlikeSum_28 ⟨Nat.le_of_ble_eq_true rfl, Nat.le_of_ble_eq_true rfl⟩) hD hS hA (fun H locs hP hD hS => ?_)
        refine lv_istore_n (lv' := [(2, .int r2), (0, .ref (aD G 20)), (1, .int x1), (3, .int v16.2)]) hx hb dX5_unlikeSum_31 rfl hl (by decide) rfl (fun ls hl => ?_)
        refine lv_iinc (v := (v16.2 + (1 : Int32))) (lv' := [(3, .int (v16.2 + (1 : Int32))), (2, .int r2), (0, .ref (aD G 20)), (1, .int x1)]) hx hb dX5_unlikeSum_32 hl (k := 3) rfl rfl (by decide) rfl (fun ls hl => ?_)
        refine lv_goto (tgt := 16) hx hb dX5_unlikeSum_35 (by decide) ?_
        exact hN16 _ (Option.some.inj hE).symm _ _ _ hP hD hS (lv_sub hl [2, 3, 1, 0] rfl)
  refine lv_iload_n hx hb dX5_unlikeSum_0 rfl (lv_at hl 1 rfl) ?_
  refine lv_bipush (v := (80 : Int32)) hx hb dX5_unlikeSum_1 (by decide) ?_
  refine lv_icmp_lt (tgt := 8) hx hb dX5_unlikeSum_3 (by decide) (fun c_ => ?_) (fun c_ => ?_)
  · have hE := ip c_ hE
    refine lv_aload_n hx hb dX5_unlikeSum_8 rfl (lv_at hl 0 rfl) ?_
    refine lv_iconst (v := (-1 : Int32)) hx hb dX5_unlikeSum_9 (by decide) ?_
    obtain ⟨r1, hC, hE⟩ := bnd_some hE
    refine ci (va_runV (As := [.int (-1 : Int32)]) (rest := []) ⟨hx, hb, hml, hown, hts⟩ (c_X5_sumAbove l G (-1 : Int32) σ r1 hC _) (cwV 1 hts gX5_unlikeSum_X5_sumAbove rfl rfl rfl (by decide +kernel) ⟨Nat.le_of_ble_eq_true rfl, Nat.le_of_ble_eq_true rfl⟩) (preV hK hP hD hS hA hX (va_recv hK hP (ci := 5) (q0 := 20) rfl rfl)) rfl rfl hl.1 rfl (lv_room (Nat.le_of_ble_eq_true rfl)) dX5_unlikeSum_10 ⟨Nat.le_of_ble_eq_true rfl, Nat.le_of_ble_eq_true rfl⟩) hD hS hA (fun H locs hP hD hS => ?_)
    refine lv_istore_n (lv' := [(2, .int r1), (0, .ref (aD G 20)), (1, .int x1)]) hx hb dX5_unlikeSum_13 rfl hl (by decide) rfl (fun ls hl => ?_)
    refine lv_iconst (v := (0 : Int32)) hx hb dX5_unlikeSum_14 (by decide) ?_
    refine lv_istore_n (lv' := [(3, .int (0 : Int32)), (2, .int r1), (0, .ref (aD G 20)), (1, .int x1)]) hx hb dX5_unlikeSum_15 rfl hl (by decide) rfl (fun ls hl => ?_)
    exact J_16 r1 (0 : Int32) _ _ _ hP hD hS (lv_sub hl [2, 3, 1, 0] rfl) hE
  · have hE := im c_ hE
    refine lv_iconst (v := (-1 : Int32)) hx hb dX5_unlikeSum_6 (by decide) ?_
    rw [← hQ, ← Option.some.inj hE]
    exact ri hx hb hr hlocks hK hP hD hS dX5_unlikeSum_7
abbrev rmX5_likeOne : Room := { frames := 0, cells := 0, slots := 0, locals := 0 }
def f_X5_likeOne_L5 (x1 : Int32) (σ : St) (v5 : Int32 × Int32) : Option (((Int32 ⊕ (Unit))) ⊕ (Int32 × Int32)) := if (80 : Int32) ≤ v5.2 then (some (.inl (.inr ()))) else (gd v5.2 80 (if (rd σ 5 v5.2) = x1 then (if v5.1 = 0 then (some (.inl (.inl v5.2))) else (some (.inr ((v5.1 + (-1 : Int32)), (v5.2 + (1 : Int32)))))) else (some (.inr (v5.1, (v5.2 + (1 : Int32)))))))
def f_X5_likeOne_J5 (x1 : Int32) (x3 : Int32) (x4 : Int32) (σ : St) : Option Int32 := bnd (loopN (f_X5_likeOne_L5 x1 σ) 4096 (x3, x4)) (fun y5 => ear (fun q => q) y5 (fun y5 => some (-1 : Int32)))
def f_X5_likeOne (x1 x2 : Int32) (σ : St) : Option Int32 := f_X5_likeOne_J5 x1 x2 (0 : Int32) σ
set_option maxHeartbeats 4000000 in
set_option maxRecDepth 100000 in
theorem c_X5_likeOne (l : Launch) (G : EV)  (x1 x2 : Int32) (σ : St) (r : Int32) (hE : f_X5_likeOne x1 x2 σ = some r) : MetI l G yX5_likeOne wsX5_likeOne rmX5_likeOne [.ref (aD G 20), .int x1, .int x2] (wC G σ) r (wC G σ) := by
  refine Met.of0 (Qf := PI G r (wC G σ)) (cc := cX5_likeOne) (maxL := 5) (ret := (some .int)) (by decide) rfl (Nat.le_of_ble_eq_true rfl) ?_
  intro p e s m below meth c args A hx hb hr hts hown hlocks hml hin0 hA hS hP hK hD hX ls hl
  have hl : lv_has ls 5 [(0, .ref (aD G 20)), (1, .int x1), (2, .int x2)] := hl
  generalize hQ : MQ below (PI G r (wC G σ) A) args s 0 0 A = Q
  unfold f_X5_likeOne at hE
  have J_5 : ∀ (x3 : Int32) (x4 : Int32) (H : Heap) (locs : List Loc) (ls : Array Slot), va_P G.1 vwCl (wC G σ) H → va_D A (wC G σ) → va_S A s.heap H locs → lv_has ls 5 [(0, .ref (aD G 20)), (1, .int x1), (3, .int x3), (4, .int x4)] → f_X5_likeOne_J5 x1 x3 x4 σ = some r → W p l e rmX5_likeOne s m args below meth c H locs 0 0 Q (F0 m 5 ls []) := by
    intro x3 x4 H locs ls hP hD hS hl hE
    unfold f_X5_likeOne_J5 at hE
    obtain ⟨y5, hL, hE5⟩ := bnd_some hE
    refine loop_W (body := f_X5_likeOne_L5 x1 σ) (y := y5) (P := fun v5 => ∀ (H : Heap) (locs : List Loc) (ls : Array Slot), va_P G.1 vwCl (wC G σ) H → va_D A (wC G σ) → va_S A s.heap H locs → lv_has ls 5 [(0, .ref (aD G 20)), (1, .int x1), (3, .int v5.1), (4, .int v5.2)] → W p l e rmX5_likeOne s m args below meth c H locs 0 0 Q (F0 m 5 ls [])) ?_ _ _ hL H locs ls hP hD hS hl
    clear hP hD hS hl hE hL
    intro v5 t5 hE hN5 hY5
    intro H locs ls hP hD hS hl
    unfold f_X5_likeOne_L5 at hE
    refine lv_iload hx hb dX5_likeOne_5 (lv_at hl 3 rfl) ?_
    refine lv_bipush (v := (80 : Int32)) hx hb dX5_likeOne_7 (by decide) ?_
    refine lv_icmp_ge (tgt := 39) hx hb dX5_likeOne_9 (by decide) (fun c_ => ?_) (fun c_ => ?_)
    · have hE := ip c_ hE
      have e9 := hY5 _ (Option.some.inj hE).symm
      have hE := ear_r _ e9 hE5
      refine lv_iconst (v := (-1 : Int32)) hx hb dX5_likeOne_39 (by decide) ?_
      rw [← hQ, ← Option.some.inj hE]
      exact ri hx hb hr hlocks hK hP hD hS dX5_likeOne_40
    · have hE := im c_ hE
      refine lv_aload_n hx hb dX5_likeOne_12 rfl (lv_at hl 0 rfl) ?_
      refine va_get (ci := 5) (v := .ref (aD G 5)) (C := RX5) (T := TX5) (N := 8) hx hb hts (fun _ h => List.mem_cons_of_mem _ (List.mem_append_right _ h)) hown hK hP 20 rfl rfl 4 (by decide) (hts (.fieldLink RX5 24 "FillCells$Windows" "sums" "[I") (List.mem_of_getElem? (i := 1) rfl)) (fun _ h9 => h9) rfl dX5_likeOne_13 ?_
      refine lv_iload hx hb dX5_likeOne_16 (lv_at hl 3 rfl) ?_
      obtain ⟨h_i, hE⟩ := gd_some hE
      refine ldC hx hb hK hP 5 (by decide) h_i dX5_likeOne_18 ?_
      refine lv_iload_n hx hb dX5_likeOne_19 rfl (lv_at hl 1 rfl) ?_
      refine lv_icmp_ne (tgt := 33) hx hb dX5_likeOne_20 (by decide) (fun c_ => ?_) (fun c_ => ?_)
      · have hE := im c_ hE
        refine lv_iinc (v := (v5.2 + (1 : Int32))) (lv' := [(4, .int (v5.2 + (1 : Int32))), (0, .ref (aD G 20)), (1, .int x1), (3, .int v5.1)]) hx hb dX5_likeOne_33 hl (k := 3) rfl rfl (by decide) rfl (fun ls hl => ?_)
        refine lv_goto (tgt := 5) hx hb dX5_likeOne_36 (by decide) ?_
        exact hN5 _ (Option.some.inj hE).symm _ _ _ hP hD hS (lv_sub hl [1, 2, 3, 0] rfl)
      · have hE := ip c_ hE
        refine lv_iload_n hx hb dX5_likeOne_23 rfl (lv_at hl 2 rfl) ?_
        refine lv_if_ne (tgt := 30) hx hb dX5_likeOne_24 (by decide) (fun c_ => ?_) (fun c_ => ?_)
        · have hE := im c_ hE
          refine lv_iinc (v := (v5.1 + (-1 : Int32))) (lv' := [(3, .int (v5.1 + (-1 : Int32))), (0, .ref (aD G 20)), (1, .int x1), (4, .int v5.2)]) hx hb dX5_likeOne_30 hl (k := 2) rfl rfl (by decide) rfl (fun ls hl => ?_)
          refine lv_iinc (v := (v5.2 + (1 : Int32))) (lv' := [(4, .int (v5.2 + (1 : Int32))), (3, .int (v5.1 + (-1 : Int32))), (0, .ref (aD G 20)), (1, .int x1)]) hx hb dX5_likeOne_33 hl (k := 3) rfl rfl (by decide) rfl (fun ls hl => ?_)
          refine lv_goto (tgt := 5) hx hb dX5_likeOne_36 (by decide) ?_
          exact hN5 _ (Option.some.inj hE).symm _ _ _ hP hD hS (lv_sub hl [2, 3, 1, 0] rfl)
        · have hE := ip c_ hE
          refine lv_iload hx hb dX5_likeOne_27 (lv_at hl 3 rfl) ?_
          have hE := ear_l _ (hY5 _ (Option.some.inj hE).symm) hE5
          rw [← hQ, ← Option.some.inj hE]
          exact ri hx hb hr hlocks hK hP hD hS dX5_likeOne_29
  refine lv_iload_n hx hb dX5_likeOne_0 rfl (lv_at hl 2 rfl) ?_
  refine lv_istore_n (lv' := [(3, .int x2), (0, .ref (aD G 20)), (1, .int x1), (2, .int x2)]) hx hb dX5_likeOne_1 rfl hl (by decide) rfl (fun ls hl => ?_)
  refine lv_iconst (v := (0 : Int32)) hx hb dX5_likeOne_2 (by decide) ?_
  refine lv_istore (lv' := [(4, .int (0 : Int32)), (3, .int x2), (0, .ref (aD G 20)), (1, .int x1), (2, .int x2)]) hx hb dX5_likeOne_3 hl (by decide) rfl (fun ls hl => ?_)
  exact J_5 x2 (0 : Int32) _ _ _ hP hD hS (lv_sub hl [2, 3, 1, 0] rfl) hE
abbrev rmX5_rising : Room := { frames := 1, cells := 0, slots := 0, locals := 24 }
def f_X5_rising_L11 (σ : St) (v11 : Int32 × Int32 × Int32) : Option (((Int32 ⊕ (Unit))) ⊕ (Int32 × Int32 × Int32)) := if (80 : Int32) ≤ v11.2.2 then (some (.inl (.inr ()))) else (if v11.2.1 = (-1 : Int32) then (some (.inl (.inr ()))) else (bnd (f_X5_countOf v11.2.1 σ) (fun r2 => if r2 ≤ v11.1 then (bnd (f_X5_sumAbove v11.2.1 σ) (fun r3 => some (.inr ((v11.1 - r2), r3, (v11.2.2 + (1 : Int32)))))) else (bnd (f_X5_likeOne v11.2.1 v11.1 σ) (fun r4 => some (.inl (.inl r4)))))))
def f_X5_rising_J11 (x2 : Int32) (x3 : Int32) (x4 : Int32) (σ : St) : Option Int32 := bnd (loopN (f_X5_rising_L11 σ) 4096 (x2, x3, x4)) (fun y11 => ear (fun q => q) y11 (fun y11 => some (-1 : Int32)))
def f_X5_rising (x1 : Int32) (σ : St) : Option Int32 := bnd (f_X5_sumAbove (-1 : Int32) σ) (fun r1 => f_X5_rising_J11 x1 r1 (0 : Int32) σ)
set_option maxHeartbeats 4000000 in
set_option maxRecDepth 100000 in
theorem c_X5_rising (l : Launch) (G : EV)  (x1 : Int32) (σ : St) (r : Int32) (hE : f_X5_rising x1 σ = some r) : MetI l G yX5_rising wsX5_rising rmX5_rising [.ref (aD G 20), .int x1] (wC G σ) r (wC G σ) := by
  refine Met.of0 (Qf := PI G r (wC G σ)) (cc := cX5_rising) (maxL := 6) (ret := (some .int)) (by decide) rfl (Nat.le_of_ble_eq_true rfl) ?_
  intro p e s m below meth c args A hx hb hr hts hown hlocks hml hin0 hA hS hP hK hD hX ls hl
  have hl : lv_has ls 6 [(0, .ref (aD G 20)), (1, .int x1)] := hl
  generalize hQ : MQ below (PI G r (wC G σ) A) args s 0 0 A = Q
  unfold f_X5_rising at hE
  have J_11 : ∀ (x2 : Int32) (x3 : Int32) (x4 : Int32) (H : Heap) (locs : List Loc) (ls : Array Slot), va_P G.1 vwCl (wC G σ) H → va_D A (wC G σ) → va_S A s.heap H locs → lv_has ls 6 [(0, .ref (aD G 20)), (2, .int x2), (3, .int x3), (4, .int x4)] → f_X5_rising_J11 x2 x3 x4 σ = some r → W p l e rmX5_rising s m args below meth c H locs 0 0 Q (F0 m 11 ls []) := by
    intro x2 x3 x4 H locs ls hP hD hS hl hE
    unfold f_X5_rising_J11 at hE
    obtain ⟨y11, hL, hE11⟩ := bnd_some hE
    refine loop_W (body := f_X5_rising_L11 σ) (y := y11) (P := fun v11 => ∀ (H : Heap) (locs : List Loc) (ls : Array Slot), va_P G.1 vwCl (wC G σ) H → va_D A (wC G σ) → va_S A s.heap H locs → lv_has ls 6 [(0, .ref (aD G 20)), (2, .int v11.1), (3, .int v11.2.1), (4, .int v11.2.2)] → W p l e rmX5_rising s m args below meth c H locs 0 0 Q (F0 m 11 ls [])) ?_ _ _ hL H locs ls hP hD hS hl
    clear hP hD hS hl hE hL
    intro v11 t11 hE hN11 hY11
    intro H locs ls hP hD hS hl
    unfold f_X5_rising_L11 at hE
    refine lv_iload hx hb dX5_rising_11 (lv_at hl 3 rfl) ?_
    refine lv_bipush (v := (80 : Int32)) hx hb dX5_rising_13 (by decide) ?_
    refine lv_icmp_ge (tgt := 60) hx hb dX5_rising_15 (by decide) (fun c_ => ?_) (fun c_ => ?_)
    · have hE := ip c_ hE
      have e9 := hY11 _ (Option.some.inj hE).symm
      have hE := ear_r _ e9 hE11
      refine lv_iconst (v := (-1 : Int32)) hx hb dX5_rising_60 (by decide) ?_
      rw [← hQ, ← Option.some.inj hE]
      exact ri hx hb hr hlocks hK hP hD hS dX5_rising_61
    · have hE := im c_ hE
      refine lv_iload_n hx hb dX5_rising_18 rfl (lv_at hl 2 rfl) ?_
      refine lv_iconst (v := (-1 : Int32)) hx hb dX5_rising_19 (by decide) ?_
      refine lv_icmp_eq (tgt := 60) hx hb dX5_rising_20 (by decide) (fun c_ => ?_) (fun c_ => ?_)
      · have hE := ip c_ hE
        have e9 := hY11 _ (Option.some.inj hE).symm
        have hE := ear_r _ e9 hE11
        refine lv_iconst (v := (-1 : Int32)) hx hb dX5_rising_60 (by decide) ?_
        rw [← hQ, ← Option.some.inj hE]
        exact ri hx hb hr hlocks hK hP hD hS dX5_rising_61
      · have hE := im c_ hE
        refine lv_aload_n hx hb dX5_rising_23 rfl (lv_at hl 0 rfl) ?_
        refine lv_iload_n hx hb dX5_rising_24 rfl (lv_at hl 2 rfl) ?_
        obtain ⟨r2, hC, hE⟩ := bnd_some hE
        refine ci (va_runV (As := [.int v11.2.1]) (rest := []) ⟨hx, hb, hml, hown, hts⟩ (c_X5_countOf l G v11.2.1 σ r2 hC _) (cwV 1 hts gX5_rising_X5_countOf rfl rfl rfl (by decide +kernel) ⟨Nat.le_of_ble_eq_true rfl, Nat.le_of_ble_eq_true rfl⟩) (preV hK hP hD hS hA hX (va_recv hK hP (ci := 5) (q0 := 20) rfl rfl)) rfl rfl hl.1 rfl (lv_room (Nat.le_of_ble_eq_true rfl)) dX5_rising_25 ⟨Nat.le_of_ble_eq_true rfl, Nat.le_of_ble_eq_true rfl⟩) hD hS hA (fun H locs hP hD hS => ?_)
        refine lv_istore (lv' := [(5, .int r2), (0, .ref (aD G 20)), (2, .int v11.1), (3, .int v11.2.1), (4, .int v11.2.2)]) hx hb dX5_rising_28 hl (by decide) rfl (fun ls hl => ?_)
        refine lv_iload_n hx hb dX5_rising_30 rfl (lv_at hl 2 rfl) ?_
        refine lv_iload hx hb dX5_rising_31 (lv_at hl 0 rfl) ?_
        refine lv_icmp_ge (tgt := 43) hx hb dX5_rising_33 (by decide) (fun c_ => ?_) (fun c_ => ?_)
        · have hE := ip c_ hE
          refine lv_iload_n hx hb dX5_rising_43 rfl (lv_at hl 2 rfl) ?_
          refine lv_iload hx hb dX5_rising_44 (lv_at hl 0 rfl) ?_
          refine lv_isub hx hb dX5_rising_46 ?_
          refine lv_istore_n (lv' := [(2, .int (v11.1 - r2)), (5, .int r2), (0, .ref (aD G 20)), (3, .int v11.2.1), (4, .int v11.2.2)]) hx hb dX5_rising_47 rfl hl (by decide) rfl (fun ls hl => ?_)
          refine lv_aload_n hx hb dX5_rising_48 rfl (lv_at hl 2 rfl) ?_
          refine lv_iload_n hx hb dX5_rising_49 rfl (lv_at hl 3 rfl) ?_
          obtain ⟨r3, hC, hE⟩ := bnd_some hE
          refine ci (va_runV (As := [.int v11.2.1]) (rest := []) ⟨hx, hb, hml, hown, hts⟩ (c_X5_sumAbove l G v11.2.1 σ r3 hC _) (cwV 1 hts gX5_rising_X5_sumAbove rfl rfl rfl (by decide +kernel) ⟨Nat.le_of_ble_eq_true rfl, Nat.le_of_ble_eq_true rfl⟩) (preV hK hP hD hS hA hX (va_recv hK hP (ci := 5) (q0 := 20) rfl rfl)) rfl rfl hl.1 rfl (lv_room (Nat.le_of_ble_eq_true rfl)) dX5_rising_50 ⟨Nat.le_of_ble_eq_true rfl, Nat.le_of_ble_eq_true rfl⟩) hD hS hA (fun H locs hP hD hS => ?_)
          refine lv_istore_n (lv' := [(3, .int r3), (2, .int (v11.1 - r2)), (5, .int r2), (0, .ref (aD G 20)), (4, .int v11.2.2)]) hx hb dX5_rising_53 rfl hl (by decide) rfl (fun ls hl => ?_)
          refine lv_iinc (v := (v11.2.2 + (1 : Int32))) (lv' := [(4, .int (v11.2.2 + (1 : Int32))), (3, .int r3), (2, .int (v11.1 - r2)), (5, .int r2), (0, .ref (aD G 20))]) hx hb dX5_rising_54 hl (k := 4) rfl rfl (by decide) rfl (fun ls hl => ?_)
          refine lv_goto (tgt := 11) hx hb dX5_rising_57 (by decide) ?_
          exact hN11 _ (Option.some.inj hE).symm _ _ _ hP hD hS (lv_sub hl [4, 2, 1, 0] rfl)
        · have hE := im c_ hE
          refine lv_aload_n hx hb dX5_rising_36 rfl (lv_at hl 1 rfl) ?_
          refine lv_iload_n hx hb dX5_rising_37 rfl (lv_at hl 3 rfl) ?_
          refine lv_iload_n hx hb dX5_rising_38 rfl (lv_at hl 2 rfl) ?_
          obtain ⟨r4, hC, hE⟩ := bnd_some hE
          refine ci (va_runV (As := [.int v11.2.1, .int v11.1]) (rest := []) ⟨hx, hb, hml, hown, hts⟩ (c_X5_likeOne l G v11.2.1 v11.1 σ r4 hC _) (cwV 2 hts gX5_rising_X5_likeOne rfl rfl rfl (by decide +kernel) ⟨Nat.le_of_ble_eq_true rfl, Nat.le_of_ble_eq_true rfl⟩) (preV hK hP hD hS hA hX (va_recv hK hP (ci := 5) (q0 := 20) rfl rfl)) rfl rfl hl.1 rfl (lv_room (Nat.le_of_ble_eq_true rfl)) dX5_rising_39 ⟨Nat.le_of_ble_eq_true rfl, Nat.le_of_ble_eq_true rfl⟩) hD hS hA (fun H locs hP hD hS => ?_)
          have hE := ear_l _ (hY11 _ (Option.some.inj hE).symm) hE11
          rw [← hQ, ← Option.some.inj hE]
          exact ri hx hb hr hlocks hK hP hD hS dX5_rising_42
  refine lv_iload_n hx hb dX5_rising_0 rfl (lv_at hl 1 rfl) ?_
  refine lv_istore_n (lv' := [(2, .int x1), (0, .ref (aD G 20)), (1, .int x1)]) hx hb dX5_rising_1 rfl hl (by decide) rfl (fun ls hl => ?_)
  refine lv_aload_n hx hb dX5_rising_2 rfl (lv_at hl 1 rfl) ?_
  refine lv_iconst (v := (-1 : Int32)) hx hb dX5_rising_3 (by decide) ?_
  obtain ⟨r1, hC, hE⟩ := bnd_some hE
  refine ci (va_runV (As := [.int (-1 : Int32)]) (rest := []) ⟨hx, hb, hml, hown, hts⟩ (c_X5_sumAbove l G (-1 : Int32) σ r1 hC _) (cwV 1 hts gX5_rising_X5_sumAbove rfl rfl rfl (by decide +kernel) ⟨Nat.le_of_ble_eq_true rfl, Nat.le_of_ble_eq_true rfl⟩) (preV hK hP hD hS hA hX (va_recv hK hP (ci := 5) (q0 := 20) rfl rfl)) rfl rfl hl.1 rfl (lv_room (Nat.le_of_ble_eq_true rfl)) dX5_rising_4 ⟨Nat.le_of_ble_eq_true rfl, Nat.le_of_ble_eq_true rfl⟩) hD hS hA (fun H locs hP hD hS => ?_)
  refine lv_istore_n (lv' := [(3, .int r1), (2, .int x1), (0, .ref (aD G 20)), (1, .int x1)]) hx hb dX5_rising_7 rfl hl (by decide) rfl (fun ls hl => ?_)
  refine lv_iconst (v := (0 : Int32)) hx hb dX5_rising_8 (by decide) ?_
  refine lv_istore (lv' := [(4, .int (0 : Int32)), (3, .int r1), (2, .int x1), (0, .ref (aD G 20)), (1, .int x1)]) hx hb dX5_rising_9 hl (by decide) rfl (fun ls hl => ?_)
  exact J_11 x1 r1 (0 : Int32) _ _ _ hP hD hS (lv_sub hl [3, 2, 1, 0] rfl) hE
abbrev rmX5_atGreatest : Room := { frames := 0, cells := 0, slots := 0, locals := 0 }
def f_X5_atGreatest_L4 (σ : St) (v4 : Int32 × Int32) : Option (((Int32)) ⊕ (Int32 × Int32)) := if (80 : Int32) ≤ v4.2 then (some (.inl (v4.1))) else (gd v4.2 80 (gd v4.1 80 (if (rd σ 5 v4.2) ≤ (rd σ 5 v4.1) then (some (.inr (v4.1, (v4.2 + (1 : Int32))))) else (some (.inr (v4.2, (v4.2 + (1 : Int32))))))))
def f_X5_atGreatest_J4 (x1 : Int32) (x2 : Int32) (σ : St) : Option Int32 := bnd (loopN (f_X5_atGreatest_L4 σ) 4096 (x1, x2)) (fun y4 => some y4)
def f_X5_atGreatest (σ : St) : Option Int32 := f_X5_atGreatest_J4 (0 : Int32) (1 : Int32) σ
set_option maxHeartbeats 4000000 in
set_option maxRecDepth 100000 in
theorem c_X5_atGreatest (l : Launch) (G : EV)   (σ : St) (r : Int32) (hE : f_X5_atGreatest σ = some r) : MetI l G yX5_atGreatest wsX5_atGreatest rmX5_atGreatest [.ref (aD G 20)] (wC G σ) r (wC G σ) := by
  refine Met.of0 (Qf := PI G r (wC G σ)) (cc := cX5_atGreatest) (maxL := 3) (ret := (some .int)) (by decide) rfl (Nat.le_of_ble_eq_true rfl) ?_
  intro p e s m below meth c args A hx hb hr hts hown hlocks hml hin0 hA hS hP hK hD hX ls hl
  have hl : lv_has ls 3 [(0, .ref (aD G 20))] := hl
  generalize hQ : MQ below (PI G r (wC G σ) A) args s 0 0 A = Q
  unfold f_X5_atGreatest at hE
  have J_4 : ∀ (x1 : Int32) (x2 : Int32) (H : Heap) (locs : List Loc) (ls : Array Slot), va_P G.1 vwCl (wC G σ) H → va_D A (wC G σ) → va_S A s.heap H locs → lv_has ls 3 [(0, .ref (aD G 20)), (1, .int x1), (2, .int x2)] → f_X5_atGreatest_J4 x1 x2 σ = some r → W p l e rmX5_atGreatest s m args below meth c H locs 0 0 Q (F0 m 4 ls []) := by
    intro x1 x2 H locs ls hP hD hS hl hE
    unfold f_X5_atGreatest_J4 at hE
    obtain ⟨y4, hL, hE4⟩ := bnd_some hE
    refine loop_W (body := f_X5_atGreatest_L4 σ) (y := y4) (P := fun v4 => ∀ (H : Heap) (locs : List Loc) (ls : Array Slot), va_P G.1 vwCl (wC G σ) H → va_D A (wC G σ) → va_S A s.heap H locs → lv_has ls 3 [(0, .ref (aD G 20)), (1, .int v4.1), (2, .int v4.2)] → W p l e rmX5_atGreatest s m args below meth c H locs 0 0 Q (F0 m 4 ls [])) ?_ _ _ hL H locs ls hP hD hS hl
    clear hP hD hS hl hE hL
    intro v4 t4 hE hN4 hY4
    intro H locs ls hP hD hS hl
    unfold f_X5_atGreatest_L4 at hE
    refine lv_iload_n hx hb dX5_atGreatest_4 rfl (lv_at hl 2 rfl) ?_
    refine lv_bipush (v := (80 : Int32)) hx hb dX5_atGreatest_5 (by decide) ?_
    refine lv_icmp_ge (tgt := 33) hx hb dX5_atGreatest_7 (by decide) (fun c_ => ?_) (fun c_ => ?_)
    · have hE := ip c_ hE
      have e9 := hY4 _ (Option.some.inj hE).symm
      have hE := hE4
      rw [← e9] at hE
      refine lv_iload_n hx hb dX5_atGreatest_33 rfl (lv_at hl 1 rfl) ?_
      rw [← hQ, ← Option.some.inj hE]
      exact ri hx hb hr hlocks hK hP hD hS dX5_atGreatest_34
    · have hE := im c_ hE
      refine lv_aload_n hx hb dX5_atGreatest_10 rfl (lv_at hl 0 rfl) ?_
      refine va_get (ci := 5) (v := .ref (aD G 5)) (C := RX5) (T := TX5) (N := 8) hx hb hts (fun _ h => List.mem_cons_of_mem _ (List.mem_append_right _ h)) hown hK hP 20 rfl rfl 4 (by decide) (hts (.fieldLink RX5 24 "FillCells$Windows" "sums" "[I") (List.mem_of_getElem? (i := 1) rfl)) (fun _ h9 => h9) rfl dX5_atGreatest_11 ?_
      refine lv_iload_n hx hb dX5_atGreatest_14 rfl (lv_at hl 2 rfl) ?_
      obtain ⟨h_i, hE⟩ := gd_some hE
      refine ldC hx hb hK hP 5 (by decide) h_i dX5_atGreatest_15 ?_
      refine lv_aload_n hx hb dX5_atGreatest_16 rfl (lv_at hl 0 rfl) ?_
      refine va_get (ci := 5) (v := .ref (aD G 5)) (C := RX5) (T := TX5) (N := 8) hx hb hts (fun _ h => List.mem_cons_of_mem _ (List.mem_append_right _ h)) hown hK hP 20 rfl rfl 4 (by decide) (hts (.fieldLink RX5 24 "FillCells$Windows" "sums" "[I") (List.mem_of_getElem? (i := 1) rfl)) (fun _ h9 => h9) rfl dX5_atGreatest_17 ?_
      refine lv_iload_n hx hb dX5_atGreatest_20 rfl (lv_at hl 1 rfl) ?_
      obtain ⟨h_i, hE⟩ := gd_some hE
      refine ldC hx hb hK hP 5 (by decide) h_i dX5_atGreatest_21 ?_
      refine lv_icmp_le (tgt := 27) hx hb dX5_atGreatest_22 (by decide) (fun c_ => ?_) (fun c_ => ?_)
      · have hE := ip c_ hE
        refine lv_iinc (v := (v4.2 + (1 : Int32))) (lv' := [(2, .int (v4.2 + (1 : Int32))), (0, .ref (aD G 20)), (1, .int v4.1)]) hx hb dX5_atGreatest_27 hl (k := 2) rfl rfl (by decide) rfl (fun ls hl => ?_)
        refine lv_goto (tgt := 4) hx hb dX5_atGreatest_30 (by decide) ?_
        exact hN4 _ (Option.some.inj hE).symm _ _ _ hP hD hS (lv_sub hl [1, 2, 0] rfl)
      · have hE := im c_ hE
        refine lv_iload_n hx hb dX5_atGreatest_25 rfl (lv_at hl 2 rfl) ?_
        refine lv_istore_n (lv' := [(1, .int v4.2), (0, .ref (aD G 20)), (2, .int v4.2)]) hx hb dX5_atGreatest_26 rfl hl (by decide) rfl (fun ls hl => ?_)
        refine lv_iinc (v := (v4.2 + (1 : Int32))) (lv' := [(2, .int (v4.2 + (1 : Int32))), (1, .int v4.2), (0, .ref (aD G 20))]) hx hb dX5_atGreatest_27 hl (k := 2) rfl rfl (by decide) rfl (fun ls hl => ?_)
        refine lv_goto (tgt := 4) hx hb dX5_atGreatest_30 (by decide) ?_
        exact hN4 _ (Option.some.inj hE).symm _ _ _ hP hD hS (lv_sub hl [2, 1, 0] rfl)
  refine lv_iconst (v := (0 : Int32)) hx hb dX5_atGreatest_0 (by decide) ?_
  refine lv_istore_n (lv' := [(1, .int (0 : Int32)), (0, .ref (aD G 20))]) hx hb dX5_atGreatest_1 rfl hl (by decide) rfl (fun ls hl => ?_)
  refine lv_iconst (v := (1 : Int32)) hx hb dX5_atGreatest_2 (by decide) ?_
  refine lv_istore_n (lv' := [(2, .int (1 : Int32)), (1, .int (0 : Int32)), (0, .ref (aD G 20))]) hx hb dX5_atGreatest_3 rfl hl (by decide) rfl (fun ls hl => ?_)
  exact J_4 (0 : Int32) (1 : Int32) _ _ _ hP hD hS (lv_sub hl [2, 1, 0] rfl) hE

abbrev rmX7_in : Room := { frames := 0, cells := 0, slots := 0, locals := 0 }

def f_X7_in (x0 x1 x2 : Int32) : Option Int32 := if x0 < x1 then (some (0 : Int32)) else (if x2 < x0 then (some (0 : Int32)) else (some (1 : Int32)))
set_option maxHeartbeats 4000000 in
set_option maxRecDepth 100000 in
theorem c_X7_in (l : Launch) (G : EV)  (x0 x1 x2 : Int32) (σ : St) (r : Int32) (hE : f_X7_in x0 x1 x2 = some r) : MetI l G yX7_in wsX7_in rmX7_in [.int x0, .int x1, .int x2] (wM G σ) r (wM G σ) := by
  refine Met.of0 (Qf := PI G r (wM G σ)) (cc := cX7_in) (maxL := 3) (ret := (some .boolean)) (by decide) rfl (Nat.le_of_ble_eq_true rfl) ?_
  intro p e s m below meth c args A hx hb hr hts hown hlocks hml hin0 hA hS hP hK hD hX ls hl
  have hl : lv_has ls 3 [(0, .int x0), (1, .int x1), (2, .int x2)] := hl
  generalize hQ : MQ below (PI G r (wM G σ) A) args s 0 0 A = Q
  unfold f_X7_in at hE
  refine lv_iload_n hx hb dX7_in_0 rfl (lv_at hl 0 rfl) ?_
  refine lv_iload_n hx hb dX7_in_1 rfl (lv_at hl 1 rfl) ?_
  refine lv_icmp_lt (tgt := 14) hx hb dX7_in_2 (by decide) (fun c_ => ?_) (fun c_ => ?_)
  · have hE := ip c_ hE
    refine lv_iconst (v := (0 : Int32)) hx hb dX7_in_14 (by decide) ?_
    rw [← hQ, ← Option.some.inj hE]
    exact rz (v := (0 : Int32)) hx hb hr hlocks hK hP hD hS rfl dX7_in_15
  · have hE := im c_ hE
    refine lv_iload_n hx hb dX7_in_5 rfl (lv_at hl 0 rfl) ?_
    refine lv_iload_n hx hb dX7_in_6 rfl (lv_at hl 2 rfl) ?_
    refine lv_icmp_gt (tgt := 14) hx hb dX7_in_7 (by decide) (fun c_ => ?_) (fun c_ => ?_)
    · have hE := ip c_ hE
      refine lv_iconst (v := (0 : Int32)) hx hb dX7_in_14 (by decide) ?_
      rw [← hQ, ← Option.some.inj hE]
      exact rz (v := (0 : Int32)) hx hb hr hlocks hK hP hD hS rfl dX7_in_15
    · have hE := im c_ hE
      refine lv_iconst (v := (1 : Int32)) hx hb dX7_in_10 (by decide) ?_
      refine lv_goto (tgt := 15) hx hb dX7_in_11 (by decide) ?_
      rw [← hQ, ← Option.some.inj hE]
      exact rz (v := (1 : Int32)) hx hb hr hlocks hK hP hD hS rfl dX7_in_15
abbrev rmX7_refuses : Room := { frames := 0, cells := 0, slots := 0, locals := 0 }

def f_X7_refuses (x1 : Int32) (σ : St) : Option (Int32 × St) := gd ((-2 : Int32) - x1) 3 (gd ((-2 : Int32) - x1) 3 (some (x1, (sA σ 4 ((-2 : Int32) - x1) ((rd σ 4 ((-2 : Int32) - x1)) + (1 : Int32))))))
set_option maxHeartbeats 4000000 in
set_option maxRecDepth 100000 in
theorem c_X7_refuses (l : Launch) (G : EV)  (x1 : Int32) (σ : St) (r : (Int32 × St)) (hE : f_X7_refuses x1 σ = some r) : MetI l G yX7_refuses wsX7_refuses rmX7_refuses [.ref (aD G 43), .int x1] (wM G σ) r.1 (wM G r.2) := by
  refine Met.of0 (Qf := PI G r.1 (wM G r.2)) (cc := cX7_refuses) (maxL := 2) (ret := (some .int)) (by decide) rfl (Nat.le_of_ble_eq_true rfl) ?_
  intro p e s m below meth c args A hx hb hr hts hown hlocks hml hin0 hA hS hP hK hD hX ls hl
  have hl : lv_has ls 2 [(0, .ref (aD G 43)), (1, .int x1)] := hl
  generalize hQ : MQ below (PI G r.1 (wM G r.2) A) args s 0 0 A = Q
  unfold f_X7_refuses at hE
  refine lv_aload_n hx hb dX7_refuses_0 rfl (lv_at hl 0 rfl) ?_
  refine va_get (ci := 7) (v := .ref (aD G 34)) (C := RX7) (T := TX7) (N := 17) hx hb hts (fun _ h => List.mem_cons_of_mem _ (List.mem_append_right _ h)) hown hK hP 13 rfl rfl 5 (by decide) (hts (.fieldLink RX7 22 "FillCellsModel" "refused" "[I") (List.mem_of_getElem? (i := 1) rfl)) (fun _ h9 => h9) rfl dX7_refuses_1 ?_
  refine lv_bipush (v := (-2 : Int32)) hx hb dX7_refuses_4 (by decide) ?_
  refine lv_iload_n hx hb dX7_refuses_6 rfl (lv_at hl 1 rfl) ?_
  refine lv_isub hx hb dX7_refuses_7 ?_
  refine lv_dup2_11 hx hb dX7_refuses_8 rfl rfl ?_
  obtain ⟨h_i, hE⟩ := gd_some hE
  refine ldM hx hb hK hP 4 (by decide) h_i dX7_refuses_9 ?_
  refine lv_iconst (v := (1 : Int32)) hx hb dX7_refuses_10 (by decide) ?_
  refine lv_iadd hx hb dX7_refuses_11 ?_
  obtain ⟨h_i, hE⟩ := gd_some hE
  refine stM hx hb hK hP hD hS 4 (by decide) h_i dX7_refuses_12 (fun H locs hP hD hS => ?_)
  refine lv_iload_n hx hb dX7_refuses_13 rfl (lv_at hl 1 rfl) ?_
  rw [← hQ, ← Option.some.inj hE]
  exact ri hx hb hr hlocks hK hP hD hS dX7_refuses_14
abbrev rmX7_isCell : Room := { frames := 1, cells := 0, slots := 0, locals := 22 }

def f_X7_isCell (x0 : Int32) : Option Int32 := bnd (f_X7_in x0 (0 : Int32) (79 : Int32)) (fun r1 => gb r1 (some r1))
set_option maxHeartbeats 4000000 in
set_option maxRecDepth 100000 in
theorem c_X7_isCell (l : Launch) (G : EV)  (x0 : Int32) (σ : St) (r : Int32) (hE : f_X7_isCell x0 = some r) : MetI l G yX7_isCell wsX7_isCell rmX7_isCell [.int x0] (wM G σ) r (wM G σ) := by
  refine Met.of0 (Qf := PI G r (wM G σ)) (cc := cX7_isCell) (maxL := 1) (ret := (some .boolean)) (by decide) rfl (Nat.le_of_ble_eq_true rfl) ?_
  intro p e s m below meth c args A hx hb hr hts hown hlocks hml hin0 hA hS hP hK hD hX ls hl
  have hl : lv_has ls 1 [(0, .int x0)] := hl
  generalize hQ : MQ below (PI G r (wM G σ) A) args s 0 0 A = Q
  unfold f_X7_isCell at hE
  refine lv_iload_n hx hb dX7_isCell_0 rfl (lv_at hl 0 rfl) ?_
  refine lv_iconst (v := (0 : Int32)) hx hb dX7_isCell_1 (by decide) ?_
  refine lv_bipush (v := (79 : Int32)) hx hb dX7_isCell_2 (by decide) ?_
  obtain ⟨r1, hC, hE⟩ := bnd_some hE
  refine ci (va_runS (As := [.int x0, .int (0 : Int32), .int (79 : Int32)]) (rest := []) ⟨hx, hb, hml, hown, hts⟩ (c_X7_in l G x0 (0 : Int32) (79 : Int32) σ r1 hC _) (va_cwS 3 hts gX7_isCell_X7_in rfl rfl rfl (by decide +kernel) ⟨Nat.le_of_ble_eq_true rfl, Nat.le_of_ble_eq_true rfl⟩) (preS hK hP hD hS hA hX) rfl rfl hl.1 rfl (lv_room (Nat.le_of_ble_eq_true rfl)) dX7_isCell_4 ⟨Nat.le_of_ble_eq_true rfl, Nat.le_of_ble_eq_true rfl⟩) hD hS hA (fun H locs hP hD hS => ?_)
  obtain ⟨h_n, hE⟩ := gb_some hE
  rw [← hQ, ← Option.some.inj hE]
  exact rz hx hb hr hlocks hK hP hD hS h_n dX7_isCell_7
abbrev rmX7_sumOf : Room := { frames := 0, cells := 0, slots := 0, locals := 0 }

def f_X7_sumOf (x1 : Int32) (σ : St) : Option Int32 := gd x1 400 (gd ((320 : Int32) + x1) 400 (some ((rd σ 0 x1) + (rd σ 0 ((320 : Int32) + x1)))))
set_option maxHeartbeats 4000000 in
set_option maxRecDepth 100000 in
theorem c_X7_sumOf (l : Launch) (G : EV)  (x1 : Int32) (σ : St) (r : Int32) (hE : f_X7_sumOf x1 σ = some r) : MetI l G yX7_sumOf wsX7_sumOf rmX7_sumOf [.ref (aD G 43), .int x1] (wM G σ) r (wM G σ) := by
  refine Met.of0 (Qf := PI G r (wM G σ)) (cc := cX7_sumOf) (maxL := 2) (ret := (some .int)) (by decide) rfl (Nat.le_of_ble_eq_true rfl) ?_
  intro p e s m below meth c args A hx hb hr hts hown hlocks hml hin0 hA hS hP hK hD hX ls hl
  have hl : lv_has ls 2 [(0, .ref (aD G 43)), (1, .int x1)] := hl
  generalize hQ : MQ below (PI G r (wM G σ) A) args s 0 0 A = Q
  unfold f_X7_sumOf at hE
  refine lv_aload_n hx hb dX7_sumOf_0 rfl (lv_at hl 0 rfl) ?_
  refine va_get (ci := 7) (v := .ref (aD G 30)) (C := RX7) (T := TX7) (N := 17) hx hb hts (fun _ h => List.mem_cons_of_mem _ (List.mem_append_right _ h)) hown hK hP 13 rfl rfl 0 (by decide) (hts (.fieldLink RX7 7 "FillCellsModel" "s" "[I") (List.mem_of_getElem? (i := 1) rfl)) (fun _ h9 => h9) rfl dX7_sumOf_1 ?_
  refine lv_iload_n hx hb dX7_sumOf_4 rfl (lv_at hl 1 rfl) ?_
  obtain ⟨h_i, hE⟩ := gd_some hE
  refine ldM hx hb hK hP 0 (by decide) h_i dX7_sumOf_5 ?_
  refine lv_aload_n hx hb dX7_sumOf_6 rfl (lv_at hl 0 rfl) ?_
  refine va_get (ci := 7) (v := .ref (aD G 30)) (C := RX7) (T := TX7) (N := 17) hx hb hts (fun _ h => List.mem_cons_of_mem _ (List.mem_append_right _ h)) hown hK hP 13 rfl rfl 0 (by decide) (hts (.fieldLink RX7 7 "FillCellsModel" "s" "[I") (List.mem_of_getElem? (i := 1) rfl)) (fun _ h9 => h9) rfl dX7_sumOf_7 ?_
  refine lv_sipush (v := (320 : Int32)) hx hb dX7_sumOf_10 (by decide) ?_
  refine lv_iload_n hx hb dX7_sumOf_13 rfl (lv_at hl 1 rfl) ?_
  refine lv_iadd hx hb dX7_sumOf_14 ?_
  obtain ⟨h_i, hE⟩ := gd_some hE
  refine ldM hx hb hK hP 0 (by decide) h_i dX7_sumOf_15 ?_
  refine lv_iadd hx hb dX7_sumOf_16 ?_
  rw [← hQ, ← Option.some.inj hE]
  exact ri hx hb hr hlocks hK hP hD hS dX7_sumOf_17
abbrev rmX7_keeps : Room := { frames := 0, cells := 0, slots := 0, locals := 0 }
def f_X7_keeps_J86 (σ : St) : Option St := some (sI σ 0 ((gI σ 0) + (1 : Int32)))
def f_X7_keeps_L52  (v52 : Int32 × St) : Option (((St)) ⊕ (Int32 × St)) := if (400 : Int32) ≤ v52.1 then (some (.inl (v52.2))) else (gd v52.1 400 (gd (((400 : Int32) * (gI v52.2 0)) + v52.1) 3200 (some (.inr ((v52.1 + (1 : Int32)), (sA v52.2 1 (((400 : Int32) * (gI v52.2 0)) + v52.1) (rd v52.2 2 v52.1)))))))
def f_X7_keeps_J52 (x1 : Int32) (σ : St) : Option St := bnd (loopN (f_X7_keeps_L52 ) 4096 (x1, σ)) (fun y52 => f_X7_keeps_J86 y52)
def f_X7_keeps_J50 (σ : St) : Option St := f_X7_keeps_J52 (0 : Int32) σ
def f_X7_keeps_J40 (σ : St) : Option St := f_X7_keeps_J50 (sI σ 0 ((gI σ 0) - (1 : Int32)))
def f_X7_keeps_L11  (v11 : Int32 × St) : Option (((St)) ⊕ (Int32 × St)) := if (2800 : Int32) ≤ v11.1 then (some (.inl (v11.2))) else (gd (v11.1 + (400 : Int32)) 3200 (gd v11.1 3200 (some (.inr ((v11.1 + (1 : Int32)), (sA v11.2 1 v11.1 (rd v11.2 1 (v11.1 + (400 : Int32)))))))))
def f_X7_keeps_J11 (x1 : Int32) (σ : St) : Option St := bnd (loopN (f_X7_keeps_L11 ) 4096 (x1, σ)) (fun y11 => f_X7_keeps_J40 y11)
def f_X7_keeps (σ : St) : Option St := if (gI σ 0) = (8 : Int32) then (f_X7_keeps_J11 (0 : Int32) σ) else (f_X7_keeps_J50 σ)
set_option maxHeartbeats 4000000 in
set_option maxRecDepth 100000 in
theorem c_X7_keeps (l : Launch) (G : EV)   (σ : St) (r : St) (hE : f_X7_keeps σ = some r) : MetV l G yX7_keeps wsX7_keeps rmX7_keeps [.ref (aD G 43)] (wM G σ) (wM G r) := by
  refine Met.of0 (Qf := PV G (wM G r)) (cc := cX7_keeps) (maxL := 2) (ret := none) (by decide) rfl (Nat.le_of_ble_eq_true rfl) ?_
  intro p e s m below meth c args A hx hb hr hts hown hlocks hml hin0 hA hS hP hK hD hX ls hl
  have hl : lv_has ls 2 [(0, .ref (aD G 43))] := hl
  generalize hQ : MQ below (PV G (wM G r) A) args s 0 0 A = Q
  unfold f_X7_keeps at hE
  have J_86 : ∀ (σ : St) (H : Heap) (locs : List Loc) (ls : Array Slot), va_P G.1 vwCl (wM G σ) H → va_D A (wM G σ) → va_S A s.heap H locs → lv_has ls 2 [(0, .ref (aD G 43))] → f_X7_keeps_J86 σ = some r → W p l e rmX7_keeps s m args below meth c H locs 0 0 Q (F0 m 86 ls []) := by
    intro σ H locs ls hP hD hS hl hE
    unfold f_X7_keeps_J86 at hE
    refine lv_aload_n hx hb dX7_keeps_86 rfl (lv_at hl 0 rfl) ?_
    refine lv_dup hx hb dX7_keeps_87 rfl ?_
    refine va_get (ci := 7) (v := .int (gI σ 0)) (C := RX7) (T := TX7) (N := 17) hx hb hts (fun _ h => List.mem_cons_of_mem _ (List.mem_append_right _ h)) hown hK hP 13 rfl rfl 2 (by decide) (hts (.fieldLink RX7 53 "FillCellsModel" "known" "I") (List.mem_of_getElem? (i := 1) rfl)) (fun _ h9 => h9) rfl dX7_keeps_88 ?_
    refine lv_iconst (v := (1 : Int32)) hx hb dX7_keeps_91 (by decide) ?_
    refine lv_iadd hx hb dX7_keeps_92 ?_
    refine va_put (ci := 7) (v := .int ((gI σ 0) + (1 : Int32))) (ty := .int) (C := RX7) (T := TX7) (N := 17) hx hb hts (fun _ h => List.mem_cons_of_mem _ (List.mem_append_right _ h)) tyX7 tyX7_ok nmX7 hown hK hP hD hS 13 rfl rfl 2 (by decide) (hts (.fieldLink RX7 53 "FillCellsModel" "known" "I") (List.mem_of_getElem? (i := 1) rfl)) (fun _ h9 => h9) rfl (by decide +kernel) rfl rfl (Nat.le_of_ble_eq_true rfl) dX7_keeps_93 (fun H locs hP hD hS => ?_)
    have hP : va_P G.1 vwCl (wM G (sI σ 0 ((gI σ 0) + (1 : Int32)))) H := hP
    have hD : va_D A (wM G (sI σ 0 ((gI σ 0) + (1 : Int32)))) := hD
    rw [← hQ, ← Option.some.inj hE]
    exact rv hx hb hr hlocks hK hP hD hS dX7_keeps_96
  have J_52 : ∀ (x1 : Int32) (σ : St) (H : Heap) (locs : List Loc) (ls : Array Slot), va_P G.1 vwCl (wM G σ) H → va_D A (wM G σ) → va_S A s.heap H locs → lv_has ls 2 [(0, .ref (aD G 43)), (1, .int x1)] → f_X7_keeps_J52 x1 σ = some r → W p l e rmX7_keeps s m args below meth c H locs 0 0 Q (F0 m 52 ls []) := by
    intro x1 σ H locs ls hP hD hS hl hE
    unfold f_X7_keeps_J52 at hE
    obtain ⟨y52, hL, hE52⟩ := bnd_some hE
    refine loop_W (body := f_X7_keeps_L52 ) (y := y52) (P := fun v52 => ∀ (H : Heap) (locs : List Loc) (ls : Array Slot), va_P G.1 vwCl (wM G v52.2) H → va_D A (wM G v52.2) → va_S A s.heap H locs → lv_has ls 2 [(0, .ref (aD G 43)), (1, .int v52.1)] → W p l e rmX7_keeps s m args below meth c H locs 0 0 Q (F0 m 52 ls [])) ?_ _ _ hL H locs ls hP hD hS hl
    clear hP hD hS hl hE hL
    intro v52 t52 hE hN52 hY52
    intro H locs ls hP hD hS hl
    unfold f_X7_keeps_L52 at hE
    refine lv_iload_n hx hb dX7_keeps_52 rfl (lv_at hl 1 rfl) ?_
    refine lv_sipush (v := (400 : Int32)) hx hb dX7_keeps_53 (by decide) ?_
    refine lv_icmp_ge (tgt := 86) hx hb dX7_keeps_56 (by decide) (fun c_ => ?_) (fun c_ => ?_)
    · have hE := ip c_ hE
      have e9 := hY52 _ (Option.some.inj hE).symm
      have hE := hE52
      rw [← e9] at hE
      exact J_86 v52.2 _ _ _ hP hD hS (lv_sub hl [0] rfl) hE
    · have hE := im c_ hE
      refine lv_aload_n hx hb dX7_keeps_59 rfl (lv_at hl 0 rfl) ?_
      refine va_get (ci := 7) (v := .ref (aD G 31)) (C := RX7) (T := TX7) (N := 17) hx hb hts (fun _ h => List.mem_cons_of_mem _ (List.mem_append_right _ h)) hown hK hP 13 rfl rfl 1 (by decide) (hts (.fieldLink RX7 13 "FillCellsModel" "past" "[I") (List.mem_of_getElem? (i := 2) rfl)) (fun _ h9 => h9) rfl dX7_keeps_60 ?_
      refine lv_sipush (v := (400 : Int32)) hx hb dX7_keeps_63 (by decide) ?_
      refine lv_aload_n hx hb dX7_keeps_66 rfl (lv_at hl 0 rfl) ?_
      refine va_get (ci := 7) (v := .int (gI v52.2 0)) (C := RX7) (T := TX7) (N := 17) hx hb hts (fun _ h => List.mem_cons_of_mem _ (List.mem_append_right _ h)) hown hK hP 13 rfl rfl 2 (by decide) (hts (.fieldLink RX7 53 "FillCellsModel" "known" "I") (List.mem_of_getElem? (i := 1) rfl)) (fun _ h9 => h9) rfl dX7_keeps_67 ?_
      refine lv_imul hx hb dX7_keeps_70 ?_
      refine lv_iload_n hx hb dX7_keeps_71 rfl (lv_at hl 1 rfl) ?_
      refine lv_iadd hx hb dX7_keeps_72 ?_
      refine lv_aload_n hx hb dX7_keeps_73 rfl (lv_at hl 0 rfl) ?_
      refine va_get (ci := 7) (v := .ref (aD G 32)) (C := RX7) (T := TX7) (N := 17) hx hb hts (fun _ h => List.mem_cons_of_mem _ (List.mem_append_right _ h)) hown hK hP 13 rfl rfl 3 (by decide) (hts (.fieldLink RX7 16 "FillCellsModel" "kept" "[I") (List.mem_of_getElem? (i := 3) rfl)) (fun _ h9 => h9) rfl dX7_keeps_74 ?_
      refine lv_iload_n hx hb dX7_keeps_77 rfl (lv_at hl 1 rfl) ?_
      obtain ⟨h_i, hE⟩ := gd_some hE
      refine ldM hx hb hK hP 2 (by decide) h_i dX7_keeps_78 ?_
      obtain ⟨h_i, hE⟩ := gd_some hE
      refine stM hx hb hK hP hD hS 1 (by decide) h_i dX7_keeps_79 (fun H locs hP hD hS => ?_)
      refine lv_iinc (v := (v52.1 + (1 : Int32))) (lv' := [(1, .int (v52.1 + (1 : Int32))), (0, .ref (aD G 43))]) hx hb dX7_keeps_80 hl (k := 1) rfl rfl (by decide) rfl (fun ls hl => ?_)
      refine lv_goto (tgt := 52) hx hb dX7_keeps_83 (by decide) ?_
      exact hN52 _ (Option.some.inj hE).symm _ _ _ hP hD hS (lv_sub hl [1, 0] rfl)
  have J_50 : ∀ (σ : St) (H : Heap) (locs : List Loc) (ls : Array Slot), va_P G.1 vwCl (wM G σ) H → va_D A (wM G σ) → va_S A s.heap H locs → lv_has ls 2 [(0, .ref (aD G 43))] → f_X7_keeps_J50 σ = some r → W p l e rmX7_keeps s m args below meth c H locs 0 0 Q (F0 m 50 ls []) := by
    intro σ H locs ls hP hD hS hl hE
    unfold f_X7_keeps_J50 at hE
    refine lv_iconst (v := (0 : Int32)) hx hb dX7_keeps_50 (by decide) ?_
    refine lv_istore_n (lv' := [(1, .int (0 : Int32)), (0, .ref (aD G 43))]) hx hb dX7_keeps_51 rfl hl (by decide) rfl (fun ls hl => ?_)
    exact J_52 (0 : Int32) σ _ _ _ hP hD hS (lv_sub hl [1, 0] rfl) hE
  have J_40 : ∀ (σ : St) (H : Heap) (locs : List Loc) (ls : Array Slot), va_P G.1 vwCl (wM G σ) H → va_D A (wM G σ) → va_S A s.heap H locs → lv_has ls 2 [(0, .ref (aD G 43))] → f_X7_keeps_J40 σ = some r → W p l e rmX7_keeps s m args below meth c H locs 0 0 Q (F0 m 40 ls []) := by
    intro σ H locs ls hP hD hS hl hE
    unfold f_X7_keeps_J40 at hE
    refine lv_aload_n hx hb dX7_keeps_40 rfl (lv_at hl 0 rfl) ?_
    refine lv_dup hx hb dX7_keeps_41 rfl ?_
    refine va_get (ci := 7) (v := .int (gI σ 0)) (C := RX7) (T := TX7) (N := 17) hx hb hts (fun _ h => List.mem_cons_of_mem _ (List.mem_append_right _ h)) hown hK hP 13 rfl rfl 2 (by decide) (hts (.fieldLink RX7 53 "FillCellsModel" "known" "I") (List.mem_of_getElem? (i := 1) rfl)) (fun _ h9 => h9) rfl dX7_keeps_42 ?_
    refine lv_iconst (v := (1 : Int32)) hx hb dX7_keeps_45 (by decide) ?_
    refine lv_isub hx hb dX7_keeps_46 ?_
    refine va_put (ci := 7) (v := .int ((gI σ 0) - (1 : Int32))) (ty := .int) (C := RX7) (T := TX7) (N := 17) hx hb hts (fun _ h => List.mem_cons_of_mem _ (List.mem_append_right _ h)) tyX7 tyX7_ok nmX7 hown hK hP hD hS 13 rfl rfl 2 (by decide) (hts (.fieldLink RX7 53 "FillCellsModel" "known" "I") (List.mem_of_getElem? (i := 1) rfl)) (fun _ h9 => h9) rfl (by decide +kernel) rfl rfl (Nat.le_of_ble_eq_true rfl) dX7_keeps_47 (fun H locs hP hD hS => ?_)
    have hP : va_P G.1 vwCl (wM G (sI σ 0 ((gI σ 0) - (1 : Int32)))) H := hP
    have hD : va_D A (wM G (sI σ 0 ((gI σ 0) - (1 : Int32)))) := hD
    exact J_50 (sI σ 0 ((gI σ 0) - (1 : Int32))) _ _ _ hP hD hS (lv_sub hl [0] rfl) hE
  have J_11 : ∀ (x1 : Int32) (σ : St) (H : Heap) (locs : List Loc) (ls : Array Slot), va_P G.1 vwCl (wM G σ) H → va_D A (wM G σ) → va_S A s.heap H locs → lv_has ls 2 [(0, .ref (aD G 43)), (1, .int x1)] → f_X7_keeps_J11 x1 σ = some r → W p l e rmX7_keeps s m args below meth c H locs 0 0 Q (F0 m 11 ls []) := by
    intro x1 σ H locs ls hP hD hS hl hE
    unfold f_X7_keeps_J11 at hE
    obtain ⟨y11, hL, hE11⟩ := bnd_some hE
    refine loop_W (body := f_X7_keeps_L11 ) (y := y11) (P := fun v11 => ∀ (H : Heap) (locs : List Loc) (ls : Array Slot), va_P G.1 vwCl (wM G v11.2) H → va_D A (wM G v11.2) → va_S A s.heap H locs → lv_has ls 2 [(0, .ref (aD G 43)), (1, .int v11.1)] → W p l e rmX7_keeps s m args below meth c H locs 0 0 Q (F0 m 11 ls [])) ?_ _ _ hL H locs ls hP hD hS hl
    clear hP hD hS hl hE hL
    intro v11 t11 hE hN11 hY11
    intro H locs ls hP hD hS hl
    unfold f_X7_keeps_L11 at hE
    refine lv_iload_n hx hb dX7_keeps_11 rfl (lv_at hl 1 rfl) ?_
    refine lv_sipush (v := (2800 : Int32)) hx hb dX7_keeps_12 (by decide) ?_
    refine lv_icmp_ge (tgt := 40) hx hb dX7_keeps_15 (by decide) (fun c_ => ?_) (fun c_ => ?_)
    · have hE := ip c_ hE
      have e9 := hY11 _ (Option.some.inj hE).symm
      have hE := hE11
      rw [← e9] at hE
      exact J_40 v11.2 _ _ _ hP hD hS (lv_sub hl [0] rfl) hE
    · have hE := im c_ hE
      refine lv_aload_n hx hb dX7_keeps_18 rfl (lv_at hl 0 rfl) ?_
      refine va_get (ci := 7) (v := .ref (aD G 31)) (C := RX7) (T := TX7) (N := 17) hx hb hts (fun _ h => List.mem_cons_of_mem _ (List.mem_append_right _ h)) hown hK hP 13 rfl rfl 1 (by decide) (hts (.fieldLink RX7 13 "FillCellsModel" "past" "[I") (List.mem_of_getElem? (i := 2) rfl)) (fun _ h9 => h9) rfl dX7_keeps_19 ?_
      refine lv_iload_n hx hb dX7_keeps_22 rfl (lv_at hl 1 rfl) ?_
      refine lv_aload_n hx hb dX7_keeps_23 rfl (lv_at hl 0 rfl) ?_
      refine va_get (ci := 7) (v := .ref (aD G 31)) (C := RX7) (T := TX7) (N := 17) hx hb hts (fun _ h => List.mem_cons_of_mem _ (List.mem_append_right _ h)) hown hK hP 13 rfl rfl 1 (by decide) (hts (.fieldLink RX7 13 "FillCellsModel" "past" "[I") (List.mem_of_getElem? (i := 2) rfl)) (fun _ h9 => h9) rfl dX7_keeps_24 ?_
      refine lv_iload_n hx hb dX7_keeps_27 rfl (lv_at hl 1 rfl) ?_
      refine lv_sipush (v := (400 : Int32)) hx hb dX7_keeps_28 (by decide) ?_
      refine lv_iadd hx hb dX7_keeps_31 ?_
      obtain ⟨h_i, hE⟩ := gd_some hE
      refine ldM hx hb hK hP 1 (by decide) h_i dX7_keeps_32 ?_
      obtain ⟨h_i, hE⟩ := gd_some hE
      refine stM hx hb hK hP hD hS 1 (by decide) h_i dX7_keeps_33 (fun H locs hP hD hS => ?_)
      refine lv_iinc (v := (v11.1 + (1 : Int32))) (lv' := [(1, .int (v11.1 + (1 : Int32))), (0, .ref (aD G 43))]) hx hb dX7_keeps_34 hl (k := 1) rfl rfl (by decide) rfl (fun ls hl => ?_)
      refine lv_goto (tgt := 11) hx hb dX7_keeps_37 (by decide) ?_
      exact hN11 _ (Option.some.inj hE).symm _ _ _ hP hD hS (lv_sub hl [1, 0] rfl)
  refine lv_aload_n hx hb dX7_keeps_0 rfl (lv_at hl 0 rfl) ?_
  refine va_get (ci := 7) (v := .int (gI σ 0)) (C := RX7) (T := TX7) (N := 17) hx hb hts (fun _ h => List.mem_cons_of_mem _ (List.mem_append_right _ h)) hown hK hP 13 rfl rfl 2 (by decide) (hts (.fieldLink RX7 53 "FillCellsModel" "known" "I") (List.mem_of_getElem? (i := 1) rfl)) (fun _ h9 => h9) rfl dX7_keeps_1 ?_
  refine lv_bipush (v := (8 : Int32)) hx hb dX7_keeps_4 (by decide) ?_
  refine lv_icmp_ne (tgt := 50) hx hb dX7_keeps_6 (by decide) (fun c_ => ?_) (fun c_ => ?_)
  · have hE := im c_ hE
    exact J_50 σ _ _ _ hP hD hS (lv_sub hl [0] rfl) hE
  · have hE := ip c_ hE
    refine lv_iconst (v := (0 : Int32)) hx hb dX7_keeps_9 (by decide) ?_
    refine lv_istore_n (lv' := [(1, .int (0 : Int32)), (0, .ref (aD G 43))]) hx hb dX7_keeps_10 rfl hl (by decide) rfl (fun ls hl => ?_)
    exact J_11 (0 : Int32) σ _ _ _ hP hD hS (lv_sub hl [1, 0] rfl) hE
abbrev rmX7_aside : Room := { frames := 0, cells := 0, slots := 0, locals := 0 }
def f_X7_aside_L2  (v2 : Int32 × St) : Option (((St)) ⊕ (Int32 × St)) := if (400 : Int32) ≤ v2.1 then (some (.inl (v2.2))) else (gd v2.1 400 (gd v2.1 400 (some (.inr ((v2.1 + (1 : Int32)), (sA v2.2 2 v2.1 (rd v2.2 0 v2.1)))))))
def f_X7_aside_J2 (x1 : Int32) (σ : St) : Option St := bnd (loopN (f_X7_aside_L2 ) 4096 (x1, σ)) (fun y2 => some y2)
def f_X7_aside (σ : St) : Option St := f_X7_aside_J2 (0 : Int32) σ
set_option maxHeartbeats 4000000 in
set_option maxRecDepth 100000 in
theorem c_X7_aside (l : Launch) (G : EV)   (σ : St) (r : St) (hE : f_X7_aside σ = some r) : MetV l G yX7_aside wsX7_aside rmX7_aside [.ref (aD G 43)] (wM G σ) (wM G r) := by
  refine Met.of0 (Qf := PV G (wM G r)) (cc := cX7_aside) (maxL := 2) (ret := none) (by decide) rfl (Nat.le_of_ble_eq_true rfl) ?_
  intro p e s m below meth c args A hx hb hr hts hown hlocks hml hin0 hA hS hP hK hD hX ls hl
  have hl : lv_has ls 2 [(0, .ref (aD G 43))] := hl
  generalize hQ : MQ below (PV G (wM G r) A) args s 0 0 A = Q
  unfold f_X7_aside at hE
  have J_2 : ∀ (x1 : Int32) (σ : St) (H : Heap) (locs : List Loc) (ls : Array Slot), va_P G.1 vwCl (wM G σ) H → va_D A (wM G σ) → va_S A s.heap H locs → lv_has ls 2 [(0, .ref (aD G 43)), (1, .int x1)] → f_X7_aside_J2 x1 σ = some r → W p l e rmX7_aside s m args below meth c H locs 0 0 Q (F0 m 2 ls []) := by
    intro x1 σ H locs ls hP hD hS hl hE
    unfold f_X7_aside_J2 at hE
    obtain ⟨y2, hL, hE2⟩ := bnd_some hE
    refine loop_W (body := f_X7_aside_L2 ) (y := y2) (P := fun v2 => ∀ (H : Heap) (locs : List Loc) (ls : Array Slot), va_P G.1 vwCl (wM G v2.2) H → va_D A (wM G v2.2) → va_S A s.heap H locs → lv_has ls 2 [(0, .ref (aD G 43)), (1, .int v2.1)] → W p l e rmX7_aside s m args below meth c H locs 0 0 Q (F0 m 2 ls [])) ?_ _ _ hL H locs ls hP hD hS hl
    clear hP hD hS hl hE hL
    intro v2 t2 hE hN2 hY2
    intro H locs ls hP hD hS hl
    unfold f_X7_aside_L2 at hE
    refine lv_iload_n hx hb dX7_aside_2 rfl (lv_at hl 1 rfl) ?_
    refine lv_sipush (v := (400 : Int32)) hx hb dX7_aside_3 (by decide) ?_
    refine lv_icmp_ge (tgt := 27) hx hb dX7_aside_6 (by decide) (fun c_ => ?_) (fun c_ => ?_)
    · have hE := ip c_ hE
      have e9 := hY2 _ (Option.some.inj hE).symm
      have hE := hE2
      rw [← e9] at hE
      rw [← hQ, ← Option.some.inj hE]
      exact rv hx hb hr hlocks hK hP hD hS dX7_aside_27
    · have hE := im c_ hE
      refine lv_aload_n hx hb dX7_aside_9 rfl (lv_at hl 0 rfl) ?_
      refine va_get (ci := 7) (v := .ref (aD G 32)) (C := RX7) (T := TX7) (N := 17) hx hb hts (fun _ h => List.mem_cons_of_mem _ (List.mem_append_right _ h)) hown hK hP 13 rfl rfl 3 (by decide) (hts (.fieldLink RX7 16 "FillCellsModel" "kept" "[I") (List.mem_of_getElem? (i := 1) rfl)) (fun _ h9 => h9) rfl dX7_aside_10 ?_
      refine lv_iload_n hx hb dX7_aside_13 rfl (lv_at hl 1 rfl) ?_
      refine lv_aload_n hx hb dX7_aside_14 rfl (lv_at hl 0 rfl) ?_
      refine va_get (ci := 7) (v := .ref (aD G 30)) (C := RX7) (T := TX7) (N := 17) hx hb hts (fun _ h => List.mem_cons_of_mem _ (List.mem_append_right _ h)) hown hK hP 13 rfl rfl 0 (by decide) (hts (.fieldLink RX7 7 "FillCellsModel" "s" "[I") (List.mem_of_getElem? (i := 2) rfl)) (fun _ h9 => h9) rfl dX7_aside_15 ?_
      refine lv_iload_n hx hb dX7_aside_18 rfl (lv_at hl 1 rfl) ?_
      obtain ⟨h_i, hE⟩ := gd_some hE
      refine ldM hx hb hK hP 0 (by decide) h_i dX7_aside_19 ?_
      obtain ⟨h_i, hE⟩ := gd_some hE
      refine stM hx hb hK hP hD hS 2 (by decide) h_i dX7_aside_20 (fun H locs hP hD hS => ?_)
      refine lv_iinc (v := (v2.1 + (1 : Int32))) (lv' := [(1, .int (v2.1 + (1 : Int32))), (0, .ref (aD G 43))]) hx hb dX7_aside_21 hl (k := 1) rfl rfl (by decide) rfl (fun ls hl => ?_)
      refine lv_goto (tgt := 2) hx hb dX7_aside_24 (by decide) ?_
      exact hN2 _ (Option.some.inj hE).symm _ _ _ hP hD hS (lv_sub hl [1, 0] rfl)
  refine lv_iconst (v := (0 : Int32)) hx hb dX7_aside_0 (by decide) ?_
  refine lv_istore_n (lv' := [(1, .int (0 : Int32)), (0, .ref (aD G 43))]) hx hb dX7_aside_1 rfl hl (by decide) rfl (fun ls hl => ?_)
  exact J_2 (0 : Int32) σ _ _ _ hP hD hS (lv_sub hl [1, 0] rfl) hE
abbrev rmX7_back : Room := { frames := 0, cells := 0, slots := 0, locals := 0 }
def f_X7_back_L2  (v2 : Int32 × St) : Option (((St)) ⊕ (Int32 × St)) := if (400 : Int32) ≤ v2.1 then (some (.inl (v2.2))) else (gd v2.1 400 (gd v2.1 400 (some (.inr ((v2.1 + (1 : Int32)), (sA v2.2 0 v2.1 (rd v2.2 2 v2.1)))))))
def f_X7_back_J2 (x1 : Int32) (σ : St) : Option St := bnd (loopN (f_X7_back_L2 ) 4096 (x1, σ)) (fun y2 => some y2)
def f_X7_back (σ : St) : Option St := f_X7_back_J2 (0 : Int32) σ
set_option maxHeartbeats 4000000 in
set_option maxRecDepth 100000 in
theorem c_X7_back (l : Launch) (G : EV)   (σ : St) (r : St) (hE : f_X7_back σ = some r) : MetV l G yX7_back wsX7_back rmX7_back [.ref (aD G 43)] (wM G σ) (wM G r) := by
  refine Met.of0 (Qf := PV G (wM G r)) (cc := cX7_back) (maxL := 2) (ret := none) (by decide) rfl (Nat.le_of_ble_eq_true rfl) ?_
  intro p e s m below meth c args A hx hb hr hts hown hlocks hml hin0 hA hS hP hK hD hX ls hl
  have hl : lv_has ls 2 [(0, .ref (aD G 43))] := hl
  generalize hQ : MQ below (PV G (wM G r) A) args s 0 0 A = Q
  unfold f_X7_back at hE
  have J_2 : ∀ (x1 : Int32) (σ : St) (H : Heap) (locs : List Loc) (ls : Array Slot), va_P G.1 vwCl (wM G σ) H → va_D A (wM G σ) → va_S A s.heap H locs → lv_has ls 2 [(0, .ref (aD G 43)), (1, .int x1)] → f_X7_back_J2 x1 σ = some r → W p l e rmX7_back s m args below meth c H locs 0 0 Q (F0 m 2 ls []) := by
    intro x1 σ H locs ls hP hD hS hl hE
    unfold f_X7_back_J2 at hE
    obtain ⟨y2, hL, hE2⟩ := bnd_some hE
    refine loop_W (body := f_X7_back_L2 ) (y := y2) (P := fun v2 => ∀ (H : Heap) (locs : List Loc) (ls : Array Slot), va_P G.1 vwCl (wM G v2.2) H → va_D A (wM G v2.2) → va_S A s.heap H locs → lv_has ls 2 [(0, .ref (aD G 43)), (1, .int v2.1)] → W p l e rmX7_back s m args below meth c H locs 0 0 Q (F0 m 2 ls [])) ?_ _ _ hL H locs ls hP hD hS hl
    clear hP hD hS hl hE hL
    intro v2 t2 hE hN2 hY2
    intro H locs ls hP hD hS hl
    unfold f_X7_back_L2 at hE
    refine lv_iload_n hx hb dX7_back_2 rfl (lv_at hl 1 rfl) ?_
    refine lv_sipush (v := (400 : Int32)) hx hb dX7_back_3 (by decide) ?_
    refine lv_icmp_ge (tgt := 27) hx hb dX7_back_6 (by decide) (fun c_ => ?_) (fun c_ => ?_)
    · have hE := ip c_ hE
      have e9 := hY2 _ (Option.some.inj hE).symm
      have hE := hE2
      rw [← e9] at hE
      rw [← hQ, ← Option.some.inj hE]
      exact rv hx hb hr hlocks hK hP hD hS dX7_back_27
    · have hE := im c_ hE
      refine lv_aload_n hx hb dX7_back_9 rfl (lv_at hl 0 rfl) ?_
      refine va_get (ci := 7) (v := .ref (aD G 30)) (C := RX7) (T := TX7) (N := 17) hx hb hts (fun _ h => List.mem_cons_of_mem _ (List.mem_append_right _ h)) hown hK hP 13 rfl rfl 0 (by decide) (hts (.fieldLink RX7 7 "FillCellsModel" "s" "[I") (List.mem_of_getElem? (i := 1) rfl)) (fun _ h9 => h9) rfl dX7_back_10 ?_
      refine lv_iload_n hx hb dX7_back_13 rfl (lv_at hl 1 rfl) ?_
      refine lv_aload_n hx hb dX7_back_14 rfl (lv_at hl 0 rfl) ?_
      refine va_get (ci := 7) (v := .ref (aD G 32)) (C := RX7) (T := TX7) (N := 17) hx hb hts (fun _ h => List.mem_cons_of_mem _ (List.mem_append_right _ h)) hown hK hP 13 rfl rfl 3 (by decide) (hts (.fieldLink RX7 16 "FillCellsModel" "kept" "[I") (List.mem_of_getElem? (i := 2) rfl)) (fun _ h9 => h9) rfl dX7_back_15 ?_
      refine lv_iload_n hx hb dX7_back_18 rfl (lv_at hl 1 rfl) ?_
      obtain ⟨h_i, hE⟩ := gd_some hE
      refine ldM hx hb hK hP 2 (by decide) h_i dX7_back_19 ?_
      obtain ⟨h_i, hE⟩ := gd_some hE
      refine stM hx hb hK hP hD hS 0 (by decide) h_i dX7_back_20 (fun H locs hP hD hS => ?_)
      refine lv_iinc (v := (v2.1 + (1 : Int32))) (lv' := [(1, .int (v2.1 + (1 : Int32))), (0, .ref (aD G 43))]) hx hb dX7_back_21 hl (k := 1) rfl rfl (by decide) rfl (fun ls hl => ?_)
      refine lv_goto (tgt := 2) hx hb dX7_back_24 (by decide) ?_
      exact hN2 _ (Option.some.inj hE).symm _ _ _ hP hD hS (lv_sub hl [1, 0] rfl)
  refine lv_iconst (v := (0 : Int32)) hx hb dX7_back_0 (by decide) ?_
  refine lv_istore_n (lv' := [(1, .int (0 : Int32)), (0, .ref (aD G 43))]) hx hb dX7_back_1 rfl hl (by decide) rfl (fun ls hl => ?_)
  exact J_2 (0 : Int32) σ _ _ _ hP hD hS (lv_sub hl [1, 0] rfl) hE
abbrev rmX7_settles : Room := { frames := 1, cells := 0, slots := 0, locals := 21 }
def f_X7_settles_J192 (x1 : Int32) (σ : St) : Option (((St)) ⊕ (Int32 × St)) := some (.inr ((x1 + (1 : Int32)), σ))
def f_X7_settles_J185 (x1 : Int32) (x2 : Int32) (x3 : Int32) (t0 : Int32) (t1 : Int32) (σ : St) : Option (((St)) ⊕ (Int32 × St)) := gd t1 400 (some (.inr ((x3 + (1 : Int32)), (sA σ 0 t1 t0))))
def f_X7_settles_L142 (x1 : Int32) (x2 : Int32) (v142 : Int32 × St) : Option (((St)) ⊕ (Int32 × St)) := if (80 : Int32) ≤ v142.1 then (some (.inl (v142.2))) else (gd ((240 : Int32) + v142.1) 400 (if (rd v142.2 0 ((240 : Int32) + v142.1)) = x1 then (f_X7_settles_J185 x1 x2 v142.1 x2 ((320 : Int32) + v142.1) v142.2) else (gd ((320 : Int32) + v142.1) 400 (f_X7_settles_J185 x1 x2 v142.1 (rd v142.2 0 ((320 : Int32) + v142.1)) ((320 : Int32) + v142.1) v142.2))))
def f_X7_settles_J142 (x1 : Int32) (x2 : Int32) (x3 : Int32) (σ : St) : Option (((St)) ⊕ (Int32 × St)) := bnd (loopN (f_X7_settles_L142 x1 x2) 4096 (x3, σ)) (fun y142 => f_X7_settles_J192 x1 y142)
def f_X7_settles_J140 (x1 : Int32) (x2 : Int32) (σ : St) : Option (((St)) ⊕ (Int32 × St)) := f_X7_settles_J142 x1 x2 (0 : Int32) σ
def f_X7_settles_J132 (x1 : Int32) (x2 : Int32) (x3 : Int32) (σ : St) : Option (((Int32)) ⊕ (Int32 × Int32)) := some (.inr (x2, (x3 + (1 : Int32))))
def f_X7_settles_L85 (x1 : Int32) (σ : St) (v85 : Int32 × Int32) : Option (((Int32)) ⊕ (Int32 × Int32)) := if (80 : Int32) ≤ v85.2 then (some (.inl (v85.1))) else (gd ((240 : Int32) + v85.2) 400 (if (rd σ 0 ((240 : Int32) + v85.2)) = x1 then (gd ((320 : Int32) + v85.2) 400 (if v85.1 ≤ (rd σ 0 ((320 : Int32) + v85.2)) then (f_X7_settles_J132 x1 v85.1 v85.2 σ) else (gd ((320 : Int32) + v85.2) 400 (some (.inr ((rd σ 0 ((320 : Int32) + v85.2)), (v85.2 + (1 : Int32)))))))) else (f_X7_settles_J132 x1 v85.1 v85.2 σ)))
def f_X7_settles_J85 (x1 : Int32) (x2 : Int32) (x3 : Int32) (σ : St) : Option (((St)) ⊕ (Int32 × St)) := bnd (loopN (f_X7_settles_L85 x1 σ) 4096 (x2, x3)) (fun y85 => f_X7_settles_J140 x1 y85 σ)
def f_X7_settles_L75  (v75 : Int32 × St) : Option (((St)) ⊕ (Int32 × St)) := if (4 : Int32) ≤ v75.1 then (some (.inl (v75.2))) else (f_X7_settles_J85 v75.1 (9 : Int32) (0 : Int32) v75.2)
def f_X7_settles_J75 (x1 : Int32) (σ : St) : Option St := bnd (loopN (f_X7_settles_L75 ) 4096 (x1, σ)) (fun y75 => some y75)
def f_X7_settles_J73 (σ : St) : Option St := f_X7_settles_J75 (1 : Int32) σ
def f_X7_settles_J66 (x1 : Int32) (t0 : Int32) (t1 : Int32) (σ : St) : Option (((St)) ⊕ (Int32 × St)) := gd t1 400 (some (.inr ((x1 + (1 : Int32)), (sA σ 0 t1 t0))))
def f_X7_settles_L2  (v2 : Int32 × St) : Option (((St)) ⊕ (Int32 × St)) := if (80 : Int32) ≤ v2.1 then (some (.inl (v2.2))) else (gd ((80 : Int32) + v2.1) 400 (if (rd v2.2 0 ((80 : Int32) + v2.1)) = (1 : Int32) then (f_X7_settles_J66 v2.1 (0 : Int32) ((320 : Int32) + v2.1) v2.2) else (bnd (f_X7_sumOf v2.1 v2.2) (fun r1 => if r1 ≤ (9 : Int32) then (gd ((320 : Int32) + v2.1) 400 (f_X7_settles_J66 v2.1 (rd v2.2 0 ((320 : Int32) + v2.1)) ((320 : Int32) + v2.1) v2.2)) else (gd v2.1 400 (f_X7_settles_J66 v2.1 ((9 : Int32) - (rd v2.2 0 v2.1)) ((320 : Int32) + v2.1) v2.2))))))
def f_X7_settles_J2 (x1 : Int32) (σ : St) : Option St := bnd (loopN (f_X7_settles_L2 ) 4096 (x1, σ)) (fun y2 => f_X7_settles_J73 y2)
def f_X7_settles (σ : St) : Option St := f_X7_settles_J2 (0 : Int32) σ
set_option maxHeartbeats 4000000 in
set_option maxRecDepth 100000 in
theorem c_X7_settles (l : Launch) (G : EV)   (σ : St) (r : St) (hE : f_X7_settles σ = some r) : MetV l G yX7_settles wsX7_settles rmX7_settles [.ref (aD G 43)] (wM G σ) (wM G r) := by
  refine Met.of0 (Qf := PV G (wM G r)) (cc := cX7_settles) (maxL := 4) (ret := none) (by decide) rfl (Nat.le_of_ble_eq_true rfl) ?_
  intro p e s m below meth c args A hx hb hr hts hown hlocks hml hin0 hA hS hP hK hD hX ls hl
  have hl : lv_has ls 4 [(0, .ref (aD G 43))] := hl
  generalize hQ : MQ below (PV G (wM G r) A) args s 0 0 A = Q
  unfold f_X7_settles at hE
  have J_75 : ∀ (x1 : Int32) (σ : St) (H : Heap) (locs : List Loc) (ls : Array Slot), va_P G.1 vwCl (wM G σ) H → va_D A (wM G σ) → va_S A s.heap H locs → lv_has ls 4 [(0, .ref (aD G 43)), (1, .int x1)] → f_X7_settles_J75 x1 σ = some r → W p l e rmX7_settles s m args below meth c H locs 0 0 Q (F0 m 75 ls []) := by
    intro x1 σ H locs ls hP hD hS hl hE
    unfold f_X7_settles_J75 at hE
    obtain ⟨y75, hL, hE75⟩ := bnd_some hE
    refine loop_W (body := f_X7_settles_L75 ) (y := y75) (P := fun v75 => ∀ (H : Heap) (locs : List Loc) (ls : Array Slot), va_P G.1 vwCl (wM G v75.2) H → va_D A (wM G v75.2) → va_S A s.heap H locs → lv_has ls 4 [(0, .ref (aD G 43)), (1, .int v75.1)] → W p l e rmX7_settles s m args below meth c H locs 0 0 Q (F0 m 75 ls [])) ?_ _ _ hL H locs ls hP hD hS hl
    clear hP hD hS hl hE hL
    intro v75 t75 hE hN75 hY75
    intro H locs ls hP hD hS hl
    unfold f_X7_settles_L75 at hE
    have J_192 : ∀ (x1 : Int32) (σ : St) (H : Heap) (locs : List Loc) (ls : Array Slot), va_P G.1 vwCl (wM G σ) H → va_D A (wM G σ) → va_S A s.heap H locs → lv_has ls 4 [(0, .ref (aD G 43)), (1, .int x1)] → f_X7_settles_J192 x1 σ = some t75 → W p l e rmX7_settles s m args below meth c H locs 0 0 Q (F0 m 192 ls []) := by
      intro x1 σ H locs ls hP hD hS hl hE
      unfold f_X7_settles_J192 at hE
      refine lv_iinc (v := (x1 + (1 : Int32))) (lv' := [(1, .int (x1 + (1 : Int32))), (0, .ref (aD G 43))]) hx hb dX7_settles_192 hl (k := 1) rfl rfl (by decide) rfl (fun ls hl => ?_)
      refine lv_goto (tgt := 75) hx hb dX7_settles_195 (by decide) ?_
      exact hN75 _ (Option.some.inj hE).symm _ _ _ hP hD hS (lv_sub hl [1, 0] rfl)
    have J_142 : ∀ (x1 : Int32) (x2 : Int32) (x3 : Int32) (σ : St) (H : Heap) (locs : List Loc) (ls : Array Slot), va_P G.1 vwCl (wM G σ) H → va_D A (wM G σ) → va_S A s.heap H locs → lv_has ls 4 [(0, .ref (aD G 43)), (1, .int x1), (2, .int x2), (3, .int x3)] → f_X7_settles_J142 x1 x2 x3 σ = some t75 → W p l e rmX7_settles s m args below meth c H locs 0 0 Q (F0 m 142 ls []) := by
      intro x1 x2 x3 σ H locs ls hP hD hS hl hE
      unfold f_X7_settles_J142 at hE
      obtain ⟨y142, hL, hE142⟩ := bnd_some hE
      refine loop_W (body := f_X7_settles_L142 x1 x2) (y := y142) (P := fun v142 => ∀ (H : Heap) (locs : List Loc) (ls : Array Slot), va_P G.1 vwCl (wM G v142.2) H → va_D A (wM G v142.2) → va_S A s.heap H locs → lv_has ls 4 [(0, .ref (aD G 43)), (1, .int x1), (2, .int x2), (3, .int v142.1)] → W p l e rmX7_settles s m args below meth c H locs 0 0 Q (F0 m 142 ls [])) ?_ _ _ hL H locs ls hP hD hS hl
      clear hP hD hS hl hE hL
      intro v142 t142 hE hN142 hY142
      intro H locs ls hP hD hS hl
      unfold f_X7_settles_L142 at hE
      have J_185 : ∀ (x3 : Int32) (t0 : Int32) (t1 : Int32) (σ : St) (H : Heap) (locs : List Loc) (ls : Array Slot), va_P G.1 vwCl (wM G σ) H → va_D A (wM G σ) → va_S A s.heap H locs → lv_has ls 4 [(0, .ref (aD G 43)), (1, .int x1), (2, .int x2), (3, .int x3)] → f_X7_settles_J185 x1 x2 x3 t0 t1 σ = some t142 → W p l e rmX7_settles s m args below meth c H locs 0 0 Q (F0 m 185 ls [.int t0, .int t1, .ref (aD G 30)]) := by
        intro x3 t0 t1 σ H locs ls hP hD hS hl hE
        unfold f_X7_settles_J185 at hE
        obtain ⟨h_i, hE⟩ := gd_some hE
        refine stM hx hb hK hP hD hS 0 (by decide) h_i dX7_settles_185 (fun H locs hP hD hS => ?_)
        refine lv_iinc (v := (x3 + (1 : Int32))) (lv' := [(3, .int (x3 + (1 : Int32))), (0, .ref (aD G 43)), (1, .int x1), (2, .int x2)]) hx hb dX7_settles_186 hl (k := 3) rfl rfl (by decide) rfl (fun ls hl => ?_)
        refine lv_goto (tgt := 142) hx hb dX7_settles_189 (by decide) ?_
        exact hN142 _ (Option.some.inj hE).symm _ _ _ hP hD hS (lv_sub hl [1, 2, 3, 0] rfl)
      refine lv_iload_n hx hb dX7_settles_142 rfl (lv_at hl 3 rfl) ?_
      refine lv_bipush (v := (80 : Int32)) hx hb dX7_settles_143 (by decide) ?_
      refine lv_icmp_ge (tgt := 192) hx hb dX7_settles_145 (by decide) (fun c_ => ?_) (fun c_ => ?_)
      · have hE := ip c_ hE
        have e9 := hY142 _ (Option.some.inj hE).symm
        have hE := hE142
        rw [← e9] at hE
        exact J_192 x1 v142.2 _ _ _ hP hD hS (lv_sub hl [0, 1] rfl) hE
      · have hE := im c_ hE
        refine lv_aload_n hx hb dX7_settles_148 rfl (lv_at hl 0 rfl) ?_
        refine va_get (ci := 7) (v := .ref (aD G 30)) (C := RX7) (T := TX7) (N := 17) hx hb hts (fun _ h => List.mem_cons_of_mem _ (List.mem_append_right _ h)) hown hK hP 13 rfl rfl 0 (by decide) (hts (.fieldLink RX7 7 "FillCellsModel" "s" "[I") (List.mem_of_getElem? (i := 1) rfl)) (fun _ h9 => h9) rfl dX7_settles_149 ?_
        refine lv_sipush (v := (320 : Int32)) hx hb dX7_settles_152 (by decide) ?_
        refine lv_iload_n hx hb dX7_settles_155 rfl (lv_at hl 3 rfl) ?_
        refine lv_iadd hx hb dX7_settles_156 ?_
        refine lv_aload_n hx hb dX7_settles_157 rfl (lv_at hl 0 rfl) ?_
        refine va_get (ci := 7) (v := .ref (aD G 30)) (C := RX7) (T := TX7) (N := 17) hx hb hts (fun _ h => List.mem_cons_of_mem _ (List.mem_append_right _ h)) hown hK hP 13 rfl rfl 0 (by decide) (hts (.fieldLink RX7 7 "FillCellsModel" "s" "[I") (List.mem_of_getElem? (i := 1) rfl)) (fun _ h9 => h9) rfl dX7_settles_158 ?_
        refine lv_sipush (v := (240 : Int32)) hx hb dX7_settles_161 (by decide) ?_
        refine lv_iload_n hx hb dX7_settles_164 rfl (lv_at hl 3 rfl) ?_
        refine lv_iadd hx hb dX7_settles_165 ?_
        obtain ⟨h_i, hE⟩ := gd_some hE
        refine ldM hx hb hK hP 0 (by decide) h_i dX7_settles_166 ?_
        refine lv_iload_n hx hb dX7_settles_167 rfl (lv_at hl 1 rfl) ?_
        refine lv_icmp_ne (tgt := 175) hx hb dX7_settles_168 (by decide) (fun c_ => ?_) (fun c_ => ?_)
        · have hE := im c_ hE
          refine lv_aload_n hx hb dX7_settles_175 rfl (lv_at hl 0 rfl) ?_
          refine va_get (ci := 7) (v := .ref (aD G 30)) (C := RX7) (T := TX7) (N := 17) hx hb hts (fun _ h => List.mem_cons_of_mem _ (List.mem_append_right _ h)) hown hK hP 13 rfl rfl 0 (by decide) (hts (.fieldLink RX7 7 "FillCellsModel" "s" "[I") (List.mem_of_getElem? (i := 1) rfl)) (fun _ h9 => h9) rfl dX7_settles_176 ?_
          refine lv_sipush (v := (320 : Int32)) hx hb dX7_settles_179 (by decide) ?_
          refine lv_iload_n hx hb dX7_settles_182 rfl (lv_at hl 3 rfl) ?_
          refine lv_iadd hx hb dX7_settles_183 ?_
          obtain ⟨h_i, hE⟩ := gd_some hE
          refine ldM hx hb hK hP 0 (by decide) h_i dX7_settles_184 ?_
          exact J_185 v142.1 (rd v142.2 0 ((320 : Int32) + v142.1)) ((320 : Int32) + v142.1) v142.2 _ _ _ hP hD hS (lv_sub hl [0, 1, 2, 3] rfl) hE
        · have hE := ip c_ hE
          refine lv_iload_n hx hb dX7_settles_171 rfl (lv_at hl 2 rfl) ?_
          refine lv_goto (tgt := 185) hx hb dX7_settles_172 (by decide) ?_
          exact J_185 v142.1 x2 ((320 : Int32) + v142.1) v142.2 _ _ _ hP hD hS (lv_sub hl [0, 1, 2, 3] rfl) hE
    have J_140 : ∀ (x1 : Int32) (x2 : Int32) (σ : St) (H : Heap) (locs : List Loc) (ls : Array Slot), va_P G.1 vwCl (wM G σ) H → va_D A (wM G σ) → va_S A s.heap H locs → lv_has ls 4 [(0, .ref (aD G 43)), (1, .int x1), (2, .int x2)] → f_X7_settles_J140 x1 x2 σ = some t75 → W p l e rmX7_settles s m args below meth c H locs 0 0 Q (F0 m 140 ls []) := by
      intro x1 x2 σ H locs ls hP hD hS hl hE
      unfold f_X7_settles_J140 at hE
      refine lv_iconst (v := (0 : Int32)) hx hb dX7_settles_140 (by decide) ?_
      refine lv_istore_n (lv' := [(3, .int (0 : Int32)), (0, .ref (aD G 43)), (1, .int x1), (2, .int x2)]) hx hb dX7_settles_141 rfl hl (by decide) rfl (fun ls hl => ?_)
      exact J_142 x1 x2 (0 : Int32) σ _ _ _ hP hD hS (lv_sub hl [1, 2, 3, 0] rfl) hE
    have J_85 : ∀ (x1 : Int32) (x2 : Int32) (x3 : Int32) (σ : St) (H : Heap) (locs : List Loc) (ls : Array Slot), va_P G.1 vwCl (wM G σ) H → va_D A (wM G σ) → va_S A s.heap H locs → lv_has ls 4 [(0, .ref (aD G 43)), (1, .int x1), (2, .int x2), (3, .int x3)] → f_X7_settles_J85 x1 x2 x3 σ = some t75 → W p l e rmX7_settles s m args below meth c H locs 0 0 Q (F0 m 85 ls []) := by
      intro x1 x2 x3 σ H locs ls hP hD hS hl hE
      unfold f_X7_settles_J85 at hE
      obtain ⟨y85, hL, hE85⟩ := bnd_some hE
      refine loop_W (body := f_X7_settles_L85 x1 σ) (y := y85) (P := fun v85 => ∀ (H : Heap) (locs : List Loc) (ls : Array Slot), va_P G.1 vwCl (wM G σ) H → va_D A (wM G σ) → va_S A s.heap H locs → lv_has ls 4 [(0, .ref (aD G 43)), (1, .int x1), (2, .int v85.1), (3, .int v85.2)] → W p l e rmX7_settles s m args below meth c H locs 0 0 Q (F0 m 85 ls [])) ?_ _ _ hL H locs ls hP hD hS hl
      clear hP hD hS hl hE hL
      intro v85 t85 hE hN85 hY85
      intro H locs ls hP hD hS hl
      unfold f_X7_settles_L85 at hE
      have J_132 : ∀ (x2 : Int32) (x3 : Int32) (H : Heap) (locs : List Loc) (ls : Array Slot), va_P G.1 vwCl (wM G σ) H → va_D A (wM G σ) → va_S A s.heap H locs → lv_has ls 4 [(0, .ref (aD G 43)), (1, .int x1), (2, .int x2), (3, .int x3)] → f_X7_settles_J132 x1 x2 x3 σ = some t85 → W p l e rmX7_settles s m args below meth c H locs 0 0 Q (F0 m 132 ls []) := by
        intro x2 x3 H locs ls hP hD hS hl hE
        unfold f_X7_settles_J132 at hE
        refine lv_iload_n hx hb dX7_settles_132 rfl (lv_at hl 2 rfl) ?_
        refine lv_istore_n (lv' := [(2, .int x2), (0, .ref (aD G 43)), (1, .int x1), (3, .int x3)]) hx hb dX7_settles_133 rfl hl (by decide) rfl (fun ls hl => ?_)
        refine lv_iinc (v := (x3 + (1 : Int32))) (lv' := [(3, .int (x3 + (1 : Int32))), (2, .int x2), (0, .ref (aD G 43)), (1, .int x1)]) hx hb dX7_settles_134 hl (k := 3) rfl rfl (by decide) rfl (fun ls hl => ?_)
        refine lv_goto (tgt := 85) hx hb dX7_settles_137 (by decide) ?_
        exact hN85 _ (Option.some.inj hE).symm _ _ _ hP hD hS (lv_sub hl [2, 3, 1, 0] rfl)
      refine lv_iload_n hx hb dX7_settles_85 rfl (lv_at hl 3 rfl) ?_
      refine lv_bipush (v := (80 : Int32)) hx hb dX7_settles_86 (by decide) ?_
      refine lv_icmp_ge (tgt := 140) hx hb dX7_settles_88 (by decide) (fun c_ => ?_) (fun c_ => ?_)
      · have hE := ip c_ hE
        have e9 := hY85 _ (Option.some.inj hE).symm
        have hE := hE85
        rw [← e9] at hE
        exact J_140 x1 v85.1 σ _ _ _ hP hD hS (lv_sub hl [0, 1, 2] rfl) hE
      · have hE := im c_ hE
        refine lv_aload_n hx hb dX7_settles_91 rfl (lv_at hl 0 rfl) ?_
        refine va_get (ci := 7) (v := .ref (aD G 30)) (C := RX7) (T := TX7) (N := 17) hx hb hts (fun _ h => List.mem_cons_of_mem _ (List.mem_append_right _ h)) hown hK hP 13 rfl rfl 0 (by decide) (hts (.fieldLink RX7 7 "FillCellsModel" "s" "[I") (List.mem_of_getElem? (i := 1) rfl)) (fun _ h9 => h9) rfl dX7_settles_92 ?_
        refine lv_sipush (v := (240 : Int32)) hx hb dX7_settles_95 (by decide) ?_
        refine lv_iload_n hx hb dX7_settles_98 rfl (lv_at hl 3 rfl) ?_
        refine lv_iadd hx hb dX7_settles_99 ?_
        obtain ⟨h_i, hE⟩ := gd_some hE
        refine ldM hx hb hK hP 0 (by decide) h_i dX7_settles_100 ?_
        refine lv_iload_n hx hb dX7_settles_101 rfl (lv_at hl 1 rfl) ?_
        refine lv_icmp_ne (tgt := 132) hx hb dX7_settles_102 (by decide) (fun c_ => ?_) (fun c_ => ?_)
        · have hE := im c_ hE
          exact J_132 v85.1 v85.2 _ _ _ hP hD hS (lv_sub hl [0, 1, 2, 3] rfl) hE
        · have hE := ip c_ hE
          refine lv_aload_n hx hb dX7_settles_105 rfl (lv_at hl 0 rfl) ?_
          refine va_get (ci := 7) (v := .ref (aD G 30)) (C := RX7) (T := TX7) (N := 17) hx hb hts (fun _ h => List.mem_cons_of_mem _ (List.mem_append_right _ h)) hown hK hP 13 rfl rfl 0 (by decide) (hts (.fieldLink RX7 7 "FillCellsModel" "s" "[I") (List.mem_of_getElem? (i := 1) rfl)) (fun _ h9 => h9) rfl dX7_settles_106 ?_
          refine lv_sipush (v := (320 : Int32)) hx hb dX7_settles_109 (by decide) ?_
          refine lv_iload_n hx hb dX7_settles_112 rfl (lv_at hl 3 rfl) ?_
          refine lv_iadd hx hb dX7_settles_113 ?_
          obtain ⟨h_i, hE⟩ := gd_some hE
          refine ldM hx hb hK hP 0 (by decide) h_i dX7_settles_114 ?_
          refine lv_iload_n hx hb dX7_settles_115 rfl (lv_at hl 2 rfl) ?_
          refine lv_icmp_ge (tgt := 132) hx hb dX7_settles_116 (by decide) (fun c_ => ?_) (fun c_ => ?_)
          · have hE := ip c_ hE
            exact J_132 v85.1 v85.2 _ _ _ hP hD hS (lv_sub hl [0, 1, 2, 3] rfl) hE
          · have hE := im c_ hE
            refine lv_aload_n hx hb dX7_settles_119 rfl (lv_at hl 0 rfl) ?_
            refine va_get (ci := 7) (v := .ref (aD G 30)) (C := RX7) (T := TX7) (N := 17) hx hb hts (fun _ h => List.mem_cons_of_mem _ (List.mem_append_right _ h)) hown hK hP 13 rfl rfl 0 (by decide) (hts (.fieldLink RX7 7 "FillCellsModel" "s" "[I") (List.mem_of_getElem? (i := 1) rfl)) (fun _ h9 => h9) rfl dX7_settles_120 ?_
            refine lv_sipush (v := (320 : Int32)) hx hb dX7_settles_123 (by decide) ?_
            refine lv_iload_n hx hb dX7_settles_126 rfl (lv_at hl 3 rfl) ?_
            refine lv_iadd hx hb dX7_settles_127 ?_
            obtain ⟨h_i, hE⟩ := gd_some hE
            refine ldM hx hb hK hP 0 (by decide) h_i dX7_settles_128 ?_
            refine lv_goto (tgt := 133) hx hb dX7_settles_129 (by decide) ?_
            refine lv_istore_n (lv' := [(2, .int (rd σ 0 ((320 : Int32) + v85.2))), (0, .ref (aD G 43)), (1, .int x1), (3, .int v85.2)]) hx hb dX7_settles_133 rfl hl (by decide) rfl (fun ls hl => ?_)
            refine lv_iinc (v := (v85.2 + (1 : Int32))) (lv' := [(3, .int (v85.2 + (1 : Int32))), (2, .int (rd σ 0 ((320 : Int32) + v85.2))), (0, .ref (aD G 43)), (1, .int x1)]) hx hb dX7_settles_134 hl (k := 3) rfl rfl (by decide) rfl (fun ls hl => ?_)
            refine lv_goto (tgt := 85) hx hb dX7_settles_137 (by decide) ?_
            exact hN85 _ (Option.some.inj hE).symm _ _ _ hP hD hS (lv_sub hl [2, 3, 1, 0] rfl)
    refine lv_iload_n hx hb dX7_settles_75 rfl (lv_at hl 1 rfl) ?_
    refine lv_iconst (v := (4 : Int32)) hx hb dX7_settles_76 (by decide) ?_
    refine lv_icmp_ge (tgt := 198) hx hb dX7_settles_77 (by decide) (fun c_ => ?_) (fun c_ => ?_)
    · have hE := ip c_ hE
      have e9 := hY75 _ (Option.some.inj hE).symm
      have hE := hE75
      rw [← e9] at hE
      rw [← hQ, ← Option.some.inj hE]
      exact rv hx hb hr hlocks hK hP hD hS dX7_settles_198
    · have hE := im c_ hE
      refine lv_bipush (v := (9 : Int32)) hx hb dX7_settles_80 (by decide) ?_
      refine lv_istore_n (lv' := [(2, .int (9 : Int32)), (0, .ref (aD G 43)), (1, .int v75.1)]) hx hb dX7_settles_82 rfl hl (by decide) rfl (fun ls hl => ?_)
      refine lv_iconst (v := (0 : Int32)) hx hb dX7_settles_83 (by decide) ?_
      refine lv_istore_n (lv' := [(3, .int (0 : Int32)), (2, .int (9 : Int32)), (0, .ref (aD G 43)), (1, .int v75.1)]) hx hb dX7_settles_84 rfl hl (by decide) rfl (fun ls hl => ?_)
      exact J_85 v75.1 (9 : Int32) (0 : Int32) v75.2 _ _ _ hP hD hS (lv_sub hl [2, 3, 1, 0] rfl) hE
  have J_73 : ∀ (σ : St) (H : Heap) (locs : List Loc) (ls : Array Slot), va_P G.1 vwCl (wM G σ) H → va_D A (wM G σ) → va_S A s.heap H locs → lv_has ls 4 [(0, .ref (aD G 43))] → f_X7_settles_J73 σ = some r → W p l e rmX7_settles s m args below meth c H locs 0 0 Q (F0 m 73 ls []) := by
    intro σ H locs ls hP hD hS hl hE
    unfold f_X7_settles_J73 at hE
    refine lv_iconst (v := (1 : Int32)) hx hb dX7_settles_73 (by decide) ?_
    refine lv_istore_n (lv' := [(1, .int (1 : Int32)), (0, .ref (aD G 43))]) hx hb dX7_settles_74 rfl hl (by decide) rfl (fun ls hl => ?_)
    exact J_75 (1 : Int32) σ _ _ _ hP hD hS (lv_sub hl [1, 0] rfl) hE
  have J_2 : ∀ (x1 : Int32) (σ : St) (H : Heap) (locs : List Loc) (ls : Array Slot), va_P G.1 vwCl (wM G σ) H → va_D A (wM G σ) → va_S A s.heap H locs → lv_has ls 4 [(0, .ref (aD G 43)), (1, .int x1)] → f_X7_settles_J2 x1 σ = some r → W p l e rmX7_settles s m args below meth c H locs 0 0 Q (F0 m 2 ls []) := by
    intro x1 σ H locs ls hP hD hS hl hE
    unfold f_X7_settles_J2 at hE
    obtain ⟨y2, hL, hE2⟩ := bnd_some hE
    refine loop_W (body := f_X7_settles_L2 ) (y := y2) (P := fun v2 => ∀ (H : Heap) (locs : List Loc) (ls : Array Slot), va_P G.1 vwCl (wM G v2.2) H → va_D A (wM G v2.2) → va_S A s.heap H locs → lv_has ls 4 [(0, .ref (aD G 43)), (1, .int v2.1)] → W p l e rmX7_settles s m args below meth c H locs 0 0 Q (F0 m 2 ls [])) ?_ _ _ hL H locs ls hP hD hS hl
    clear hP hD hS hl hE hL
    intro v2 t2 hE hN2 hY2
    intro H locs ls hP hD hS hl
    unfold f_X7_settles_L2 at hE
    have J_66 : ∀ (x1 : Int32) (t0 : Int32) (t1 : Int32) (σ : St) (H : Heap) (locs : List Loc) (ls : Array Slot), va_P G.1 vwCl (wM G σ) H → va_D A (wM G σ) → va_S A s.heap H locs → lv_has ls 4 [(0, .ref (aD G 43)), (1, .int x1)] → f_X7_settles_J66 x1 t0 t1 σ = some t2 → W p l e rmX7_settles s m args below meth c H locs 0 0 Q (F0 m 66 ls [.int t0, .int t1, .ref (aD G 30)]) := by
      intro x1 t0 t1 σ H locs ls hP hD hS hl hE
      unfold f_X7_settles_J66 at hE
      obtain ⟨h_i, hE⟩ := gd_some hE
      refine stM hx hb hK hP hD hS 0 (by decide) h_i dX7_settles_66 (fun H locs hP hD hS => ?_)
      refine lv_iinc (v := (x1 + (1 : Int32))) (lv' := [(1, .int (x1 + (1 : Int32))), (0, .ref (aD G 43))]) hx hb dX7_settles_67 hl (k := 1) rfl rfl (by decide) rfl (fun ls hl => ?_)
      refine lv_goto (tgt := 2) hx hb dX7_settles_70 (by decide) ?_
      exact hN2 _ (Option.some.inj hE).symm _ _ _ hP hD hS (lv_sub hl [1, 0] rfl)
    refine lv_iload_n hx hb dX7_settles_2 rfl (lv_at hl 1 rfl) ?_
    refine lv_bipush (v := (80 : Int32)) hx hb dX7_settles_3 (by decide) ?_
    refine lv_icmp_ge (tgt := 73) hx hb dX7_settles_5 (by decide) (fun c_ => ?_) (fun c_ => ?_)
    · have hE := ip c_ hE
      have e9 := hY2 _ (Option.some.inj hE).symm
      have hE := hE2
      rw [← e9] at hE
      exact J_73 v2.2 _ _ _ hP hD hS (lv_sub hl [0] rfl) hE
    · have hE := im c_ hE
      refine lv_aload_n hx hb dX7_settles_8 rfl (lv_at hl 0 rfl) ?_
      refine va_get (ci := 7) (v := .ref (aD G 30)) (C := RX7) (T := TX7) (N := 17) hx hb hts (fun _ h => List.mem_cons_of_mem _ (List.mem_append_right _ h)) hown hK hP 13 rfl rfl 0 (by decide) (hts (.fieldLink RX7 7 "FillCellsModel" "s" "[I") (List.mem_of_getElem? (i := 1) rfl)) (fun _ h9 => h9) rfl dX7_settles_9 ?_
      refine lv_sipush (v := (320 : Int32)) hx hb dX7_settles_12 (by decide) ?_
      refine lv_iload_n hx hb dX7_settles_15 rfl (lv_at hl 1 rfl) ?_
      refine lv_iadd hx hb dX7_settles_16 ?_
      refine lv_aload_n hx hb dX7_settles_17 rfl (lv_at hl 0 rfl) ?_
      refine va_get (ci := 7) (v := .ref (aD G 30)) (C := RX7) (T := TX7) (N := 17) hx hb hts (fun _ h => List.mem_cons_of_mem _ (List.mem_append_right _ h)) hown hK hP 13 rfl rfl 0 (by decide) (hts (.fieldLink RX7 7 "FillCellsModel" "s" "[I") (List.mem_of_getElem? (i := 1) rfl)) (fun _ h9 => h9) rfl dX7_settles_18 ?_
      refine lv_bipush (v := (80 : Int32)) hx hb dX7_settles_21 (by decide) ?_
      refine lv_iload_n hx hb dX7_settles_23 rfl (lv_at hl 1 rfl) ?_
      refine lv_iadd hx hb dX7_settles_24 ?_
      obtain ⟨h_i, hE⟩ := gd_some hE
      refine ldM hx hb hK hP 0 (by decide) h_i dX7_settles_25 ?_
      refine lv_iconst (v := (1 : Int32)) hx hb dX7_settles_26 (by decide) ?_
      refine lv_icmp_ne (tgt := 34) hx hb dX7_settles_27 (by decide) (fun c_ => ?_) (fun c_ => ?_)
      · have hE := im c_ hE
        refine lv_aload_n hx hb dX7_settles_34 rfl (lv_at hl 0 rfl) ?_
        refine lv_iload_n hx hb dX7_settles_35 rfl (lv_at hl 1 rfl) ?_
        obtain ⟨r1, hC, hE⟩ := bnd_some hE
        refine ci (va_runV (As := [.int v2.1]) (rest := [.int ((320 : Int32) + v2.1), .ref (aD G 30)]) ⟨hx, hb, hml, hown, hts⟩ (c_X7_sumOf l G v2.1 v2.2 r1 hC _) (cwV 1 hts gX7_settles_X7_sumOf rfl rfl rfl (by decide +kernel) ⟨Nat.le_of_ble_eq_true rfl, Nat.le_of_ble_eq_true rfl⟩) (preV hK hP hD hS hA hX (va_recv hK hP (ci := 7) (q0 := 13) rfl rfl)) rfl rfl hl.1 rfl (lv_room (Nat.le_of_ble_eq_true rfl)) dX7_settles_36 ⟨Nat.le_of_ble_eq_true rfl, Nat.le_of_ble_eq_true rfl⟩) hD hS hA (fun H locs hP hD hS => ?_)
        refine lv_bipush (v := (9 : Int32)) hx hb dX7_settles_39 (by decide) ?_
        refine lv_icmp_le (tgt := 56) hx hb dX7_settles_41 (by decide) (fun c_ => ?_) (fun c_ => ?_)
        · have hE := ip c_ hE
          refine lv_aload_n hx hb dX7_settles_56 rfl (lv_at hl 0 rfl) ?_
          refine va_get (ci := 7) (v := .ref (aD G 30)) (C := RX7) (T := TX7) (N := 17) hx hb hts (fun _ h => List.mem_cons_of_mem _ (List.mem_append_right _ h)) hown hK hP 13 rfl rfl 0 (by decide) (hts (.fieldLink RX7 7 "FillCellsModel" "s" "[I") (List.mem_of_getElem? (i := 1) rfl)) (fun _ h9 => h9) rfl dX7_settles_57 ?_
          refine lv_sipush (v := (320 : Int32)) hx hb dX7_settles_60 (by decide) ?_
          refine lv_iload_n hx hb dX7_settles_63 rfl (lv_at hl 1 rfl) ?_
          refine lv_iadd hx hb dX7_settles_64 ?_
          obtain ⟨h_i, hE⟩ := gd_some hE
          refine ldM hx hb hK hP 0 (by decide) h_i dX7_settles_65 ?_
          exact J_66 v2.1 (rd v2.2 0 ((320 : Int32) + v2.1)) ((320 : Int32) + v2.1) v2.2 _ _ _ hP hD hS (lv_sub hl [0, 1] rfl) hE
        · have hE := im c_ hE
          refine lv_bipush (v := (9 : Int32)) hx hb dX7_settles_44 (by decide) ?_
          refine lv_aload_n hx hb dX7_settles_46 rfl (lv_at hl 0 rfl) ?_
          refine va_get (ci := 7) (v := .ref (aD G 30)) (C := RX7) (T := TX7) (N := 17) hx hb hts (fun _ h => List.mem_cons_of_mem _ (List.mem_append_right _ h)) hown hK hP 13 rfl rfl 0 (by decide) (hts (.fieldLink RX7 7 "FillCellsModel" "s" "[I") (List.mem_of_getElem? (i := 1) rfl)) (fun _ h9 => h9) rfl dX7_settles_47 ?_
          refine lv_iload_n hx hb dX7_settles_50 rfl (lv_at hl 1 rfl) ?_
          obtain ⟨h_i, hE⟩ := gd_some hE
          refine ldM hx hb hK hP 0 (by decide) h_i dX7_settles_51 ?_
          refine lv_isub hx hb dX7_settles_52 ?_
          refine lv_goto (tgt := 66) hx hb dX7_settles_53 (by decide) ?_
          exact J_66 v2.1 ((9 : Int32) - (rd v2.2 0 v2.1)) ((320 : Int32) + v2.1) v2.2 _ _ _ hP hD hS (lv_sub hl [0, 1] rfl) hE
      · have hE := ip c_ hE
        refine lv_iconst (v := (0 : Int32)) hx hb dX7_settles_30 (by decide) ?_
        refine lv_goto (tgt := 66) hx hb dX7_settles_31 (by decide) ?_
        exact J_66 v2.1 (0 : Int32) ((320 : Int32) + v2.1) v2.2 _ _ _ hP hD hS (lv_sub hl [0, 1] rfl) hE
  refine lv_iconst (v := (0 : Int32)) hx hb dX7_settles_0 (by decide) ?_
  refine lv_istore_n (lv' := [(1, .int (0 : Int32)), (0, .ref (aD G 43))]) hx hb dX7_settles_1 rfl hl (by decide) rfl (fun ls hl => ?_)
  exact J_2 (0 : Int32) σ _ _ _ hP hD hS (lv_sub hl [1, 0] rfl) hE
abbrev rmX7_sets : Room := { frames := 2, cells := 0, slots := 0, locals := 44 }
def f_X7_sets_J43 (σ : St) : Option (Int32 × St) := bnd (f_X7_refuses (-2 : Int32) σ) (fun r2 => some (r2.1, r2.2))
def f_X7_sets_J37 (x1 : Int32) (x2 : Int32) (x3 : Int32) (t0 : Int32) (t1 : Int32) (t2 : Int32) (σ : St) : Option (Int32 × St) := bnd (f_X7_in t2 t1 t0) (fun r4 => if r4 = 0 then (f_X7_sets_J43 σ) else (bnd (f_X7_aside σ) (fun r5 => bnd (f_X7_keeps r5) (fun r6 => gd (((80 : Int32) * x2) + x1) 400 (gd (((80 : Int32) * x2) + x1) 400 (bnd (f_X7_settles (sA r6 0 (((80 : Int32) * x2) + x1) x3)) (fun r7 => some ((rd r6 0 (((80 : Int32) * x2) + x1)), r7))))))))
def f_X7_sets (x1 x2 x3 : Int32) (σ : St) : Option (Int32 × St) := bnd (f_X7_isCell x1) (fun r1 => if r1 = 0 then (f_X7_sets_J43 σ) else (bnd (f_X7_in x2 (0 : Int32) (3 : Int32)) (fun r3 => if r3 = 0 then (f_X7_sets_J43 σ) else (if x2 = 0 then (f_X7_sets_J37 x1 x2 x3 (9 : Int32) (0 : Int32) x3 σ) else (if x2 = (1 : Int32) then (f_X7_sets_J37 x1 x2 x3 (1 : Int32) (0 : Int32) x3 σ) else (f_X7_sets_J37 x1 x2 x3 (3 : Int32) (0 : Int32) x3 σ))))))
set_option maxHeartbeats 4000000 in
set_option maxRecDepth 100000 in
theorem c_X7_sets (l : Launch) (G : EV)  (x1 x2 x3 : Int32) (σ : St) (r : (Int32 × St)) (hE : f_X7_sets x1 x2 x3 σ = some r) : MetI l G yX7_sets wsX7_sets rmX7_sets [.ref (aD G 43), .int x1, .int x2, .int x3] (wM G σ) r.1 (wM G r.2) := by
  refine Met.of0 (Qf := PI G r.1 (wM G r.2)) (cc := cX7_sets) (maxL := 5) (ret := (some .int)) (by decide) rfl (Nat.le_of_ble_eq_true rfl) ?_
  intro p e s m below meth c args A hx hb hr hts hown hlocks hml hin0 hA hS hP hK hD hX ls hl
  have hl : lv_has ls 5 [(0, .ref (aD G 43)), (1, .int x1), (2, .int x2), (3, .int x3)] := hl
  generalize hQ : MQ below (PI G r.1 (wM G r.2) A) args s 0 0 A = Q
  unfold f_X7_sets at hE
  have J_43 : ∀ (σ : St) (H : Heap) (locs : List Loc) (ls : Array Slot), va_P G.1 vwCl (wM G σ) H → va_D A (wM G σ) → va_S A s.heap H locs → lv_has ls 5 [(0, .ref (aD G 43))] → f_X7_sets_J43 σ = some r → W p l e rmX7_sets s m args below meth c H locs 0 0 Q (F0 m 43 ls []) := by
    intro σ H locs ls hP hD hS hl hE
    unfold f_X7_sets_J43 at hE
    refine lv_aload_n hx hb dX7_sets_43 rfl (lv_at hl 0 rfl) ?_
    refine lv_bipush (v := (-2 : Int32)) hx hb dX7_sets_44 (by decide) ?_
    obtain ⟨r2, hC, hE⟩ := bnd_some hE
    refine ci (va_runV (As := [.int (-2 : Int32)]) (rest := []) ⟨hx, hb, hml, hown, hts⟩ (c_X7_refuses l G (-2 : Int32) σ r2 hC _) (cwV 1 hts gX7_sets_X7_refuses rfl rfl rfl (by decide +kernel) ⟨Nat.le_of_ble_eq_true rfl, Nat.le_of_ble_eq_true rfl⟩) (preV hK hP hD hS hA hX (va_recv hK hP (ci := 7) (q0 := 13) rfl rfl)) rfl rfl hl.1 rfl (lv_room (Nat.le_of_ble_eq_true rfl)) dX7_sets_46 ⟨Nat.le_of_ble_eq_true rfl, Nat.le_of_ble_eq_true rfl⟩) hD hS hA (fun H locs hP hD hS => ?_)
    rw [← hQ, ← Option.some.inj hE]
    exact ri hx hb hr hlocks hK hP hD hS dX7_sets_49
  have J_37 : ∀ (t0 : Int32) (t1 : Int32) (t2 : Int32) (σ : St) (H : Heap) (locs : List Loc) (ls : Array Slot), va_P G.1 vwCl (wM G σ) H → va_D A (wM G σ) → va_S A s.heap H locs → lv_has ls 5 [(0, .ref (aD G 43)), (1, .int x1), (2, .int x2), (3, .int x3)] → f_X7_sets_J37 x1 x2 x3 t0 t1 t2 σ = some r → W p l e rmX7_sets s m args below meth c H locs 0 0 Q (F0 m 37 ls [.int t0, .int t1, .int t2]) := by
    intro t0 t1 t2 σ H locs ls hP hD hS hl hE
    unfold f_X7_sets_J37 at hE
    obtain ⟨r4, hC, hE⟩ := bnd_some hE
    refine ci (va_runS (As := [.int t2, .int t1, .int t0]) (rest := []) ⟨hx, hb, hml, hown, hts⟩ (c_X7_in l G t2 t1 t0 σ r4 hC _) (va_cwS 3 hts gX7_sets_X7_in rfl rfl rfl (by decide +kernel) ⟨Nat.le_of_ble_eq_true rfl, Nat.le_of_ble_eq_true rfl⟩) (preS hK hP hD hS hA hX) rfl rfl hl.1 rfl (lv_room (Nat.le_of_ble_eq_true rfl)) dX7_sets_37 ⟨Nat.le_of_ble_eq_true rfl, Nat.le_of_ble_eq_true rfl⟩) hD hS hA (fun H locs hP hD hS => ?_)
    refine lv_if_ne (tgt := 50) hx hb dX7_sets_40 (by decide) (fun c_ => ?_) (fun c_ => ?_)
    · have hE := im c_ hE
      refine lv_aload_n hx hb dX7_sets_50 rfl (lv_at hl 0 rfl) ?_
      obtain ⟨r5, hC, hE⟩ := bnd_some hE
      refine cv (va_runV (As := []) (rest := []) ⟨hx, hb, hml, hown, hts⟩ (c_X7_aside l G σ r5 hC _) (cwV 0 hts gX7_sets_X7_aside rfl rfl rfl (by decide +kernel) ⟨Nat.le_of_ble_eq_true rfl, Nat.le_of_ble_eq_true rfl⟩) (preV hK hP hD hS hA hX (va_recv hK hP (ci := 7) (q0 := 13) rfl rfl)) rfl rfl hl.1 rfl (lv_room (Nat.le_of_ble_eq_true rfl)) dX7_sets_51 ⟨Nat.le_of_ble_eq_true rfl, Nat.le_of_ble_eq_true rfl⟩) hD hS hA (fun H locs hP hD hS => ?_)
      refine lv_aload_n hx hb dX7_sets_54 rfl (lv_at hl 0 rfl) ?_
      obtain ⟨r6, hC, hE⟩ := bnd_some hE
      refine cv (va_runV (As := []) (rest := []) ⟨hx, hb, hml, hown, hts⟩ (c_X7_keeps l G r5 r6 hC _) (cwV 0 hts gX7_sets_X7_keeps rfl rfl rfl (by decide +kernel) ⟨Nat.le_of_ble_eq_true rfl, Nat.le_of_ble_eq_true rfl⟩) (preV hK hP hD hS hA hX (va_recv hK hP (ci := 7) (q0 := 13) rfl rfl)) rfl rfl hl.1 rfl (lv_room (Nat.le_of_ble_eq_true rfl)) dX7_sets_55 ⟨Nat.le_of_ble_eq_true rfl, Nat.le_of_ble_eq_true rfl⟩) hD hS hA (fun H locs hP hD hS => ?_)
      refine lv_aload_n hx hb dX7_sets_58 rfl (lv_at hl 0 rfl) ?_
      refine va_get (ci := 7) (v := .ref (aD G 30)) (C := RX7) (T := TX7) (N := 17) hx hb hts (fun _ h => List.mem_cons_of_mem _ (List.mem_append_right _ h)) hown hK hP 13 rfl rfl 0 (by decide) (hts (.fieldLink RX7 7 "FillCellsModel" "s" "[I") (List.mem_of_getElem? (i := 1) rfl)) (fun _ h9 => h9) rfl dX7_sets_59 ?_
      refine lv_bipush (v := (80 : Int32)) hx hb dX7_sets_62 (by decide) ?_
      refine lv_iload_n hx hb dX7_sets_64 rfl (lv_at hl 2 rfl) ?_
      refine lv_imul hx hb dX7_sets_65 ?_
      refine lv_iload_n hx hb dX7_sets_66 rfl (lv_at hl 1 rfl) ?_
      refine lv_iadd hx hb dX7_sets_67 ?_
      obtain ⟨h_i, hE⟩ := gd_some hE
      refine ldM hx hb hK hP 0 (by decide) h_i dX7_sets_68 ?_
      refine lv_istore (lv' := [(4, .int (rd r6 0 (((80 : Int32) * x2) + x1))), (0, .ref (aD G 43)), (1, .int x1), (2, .int x2), (3, .int x3)]) hx hb dX7_sets_69 hl (by decide) rfl (fun ls hl => ?_)
      refine lv_aload_n hx hb dX7_sets_71 rfl (lv_at hl 1 rfl) ?_
      refine va_get (ci := 7) (v := .ref (aD G 30)) (C := RX7) (T := TX7) (N := 17) hx hb hts (fun _ h => List.mem_cons_of_mem _ (List.mem_append_right _ h)) hown hK hP 13 rfl rfl 0 (by decide) (hts (.fieldLink RX7 7 "FillCellsModel" "s" "[I") (List.mem_of_getElem? (i := 1) rfl)) (fun _ h9 => h9) rfl dX7_sets_72 ?_
      refine lv_bipush (v := (80 : Int32)) hx hb dX7_sets_75 (by decide) ?_
      refine lv_iload_n hx hb dX7_sets_77 rfl (lv_at hl 3 rfl) ?_
      refine lv_imul hx hb dX7_sets_78 ?_
      refine lv_iload_n hx hb dX7_sets_79 rfl (lv_at hl 2 rfl) ?_
      refine lv_iadd hx hb dX7_sets_80 ?_
      refine lv_iload_n hx hb dX7_sets_81 rfl (lv_at hl 4 rfl) ?_
      obtain ⟨h_i, hE⟩ := gd_some hE
      refine stM hx hb hK hP hD hS 0 (by decide) h_i dX7_sets_82 (fun H locs hP hD hS => ?_)
      refine lv_aload_n hx hb dX7_sets_83 rfl (lv_at hl 1 rfl) ?_
      obtain ⟨r7, hC, hE⟩ := bnd_some hE
      refine cv (va_runV (As := []) (rest := []) ⟨hx, hb, hml, hown, hts⟩ (c_X7_settles l G (sA r6 0 (((80 : Int32) * x2) + x1) x3) r7 hC _) (cwV 0 hts gX7_sets_X7_settles rfl rfl rfl (by decide +kernel) ⟨Nat.le_of_ble_eq_true rfl, Nat.le_of_ble_eq_true rfl⟩) (preV hK hP hD hS hA hX (va_recv hK hP (ci := 7) (q0 := 13) rfl rfl)) rfl rfl hl.1 rfl (lv_room (Nat.le_of_ble_eq_true rfl)) dX7_sets_84 ⟨Nat.le_of_ble_eq_true rfl, Nat.le_of_ble_eq_true rfl⟩) hD hS hA (fun H locs hP hD hS => ?_)
      refine lv_iload hx hb dX7_sets_87 (lv_at hl 0 rfl) ?_
      rw [← hQ, ← Option.some.inj hE]
      exact ri hx hb hr hlocks hK hP hD hS dX7_sets_89
    · have hE := ip c_ hE
      exact J_43 σ _ _ _ hP hD hS (lv_sub hl [0] rfl) hE
  refine lv_iload_n hx hb dX7_sets_0 rfl (lv_at hl 1 rfl) ?_
  obtain ⟨r1, hC, hE⟩ := bnd_some hE
  refine ci (va_runS (As := [.int x1]) (rest := []) ⟨hx, hb, hml, hown, hts⟩ (c_X7_isCell l G x1 σ r1 hC _) (va_cwS 1 hts gX7_sets_X7_isCell rfl rfl rfl (by decide +kernel) ⟨Nat.le_of_ble_eq_true rfl, Nat.le_of_ble_eq_true rfl⟩) (preS hK hP hD hS hA hX) rfl rfl hl.1 rfl (lv_room (Nat.le_of_ble_eq_true rfl)) dX7_sets_1 ⟨Nat.le_of_ble_eq_true rfl, Nat.le_of_ble_eq_true rfl⟩) hD hS hA (fun H locs hP hD hS => ?_)
  refine lv_if_eq (tgt := 43) hx hb dX7_sets_4 (by decide) (fun c_ => ?_) (fun c_ => ?_)
  · have hE := ip c_ hE
    exact J_43 σ _ _ _ hP hD hS (lv_sub hl [0] rfl) hE
  · have hE := im c_ hE
    refine lv_iload_n hx hb dX7_sets_7 rfl (lv_at hl 2 rfl) ?_
    refine lv_iconst (v := (0 : Int32)) hx hb dX7_sets_8 (by decide) ?_
    refine lv_iconst (v := (3 : Int32)) hx hb dX7_sets_9 (by decide) ?_
    obtain ⟨r3, hC, hE⟩ := bnd_some hE
    refine ci (va_runS (As := [.int x2, .int (0 : Int32), .int (3 : Int32)]) (rest := []) ⟨hx, hb, hml, hown, hts⟩ (c_X7_in l G x2 (0 : Int32) (3 : Int32) σ r3 hC _) (va_cwS 3 hts gX7_sets_X7_in rfl rfl rfl (by decide +kernel) ⟨Nat.le_of_ble_eq_true rfl, Nat.le_of_ble_eq_true rfl⟩) (preS hK hP hD hS hA hX) rfl rfl hl.1 rfl (lv_room (Nat.le_of_ble_eq_true rfl)) dX7_sets_10 ⟨Nat.le_of_ble_eq_true rfl, Nat.le_of_ble_eq_true rfl⟩) hD hS hA (fun H locs hP hD hS => ?_)
    refine lv_if_eq (tgt := 43) hx hb dX7_sets_13 (by decide) (fun c_ => ?_) (fun c_ => ?_)
    · have hE := ip c_ hE
      exact J_43 σ _ _ _ hP hD hS (lv_sub hl [0] rfl) hE
    · have hE := im c_ hE
      refine lv_iload_n hx hb dX7_sets_16 rfl (lv_at hl 3 rfl) ?_
      refine lv_iconst (v := (0 : Int32)) hx hb dX7_sets_17 (by decide) ?_
      refine lv_iload_n hx hb dX7_sets_18 rfl (lv_at hl 2 rfl) ?_
      refine lv_if_ne (tgt := 27) hx hb dX7_sets_19 (by decide) (fun c_ => ?_) (fun c_ => ?_)
      · have hE := im c_ hE
        refine lv_iload_n hx hb dX7_sets_27 rfl (lv_at hl 2 rfl) ?_
        refine lv_iconst (v := (1 : Int32)) hx hb dX7_sets_28 (by decide) ?_
        refine lv_icmp_ne (tgt := 36) hx hb dX7_sets_29 (by decide) (fun c_ => ?_) (fun c_ => ?_)
        · have hE := im c_ hE
          refine lv_iconst (v := (3 : Int32)) hx hb dX7_sets_36 (by decide) ?_
          exact J_37 (3 : Int32) (0 : Int32) x3 σ _ _ _ hP hD hS (lv_sub hl [0, 1, 2, 3] rfl) hE
        · have hE := ip c_ hE
          refine lv_iconst (v := (1 : Int32)) hx hb dX7_sets_32 (by decide) ?_
          refine lv_goto (tgt := 37) hx hb dX7_sets_33 (by decide) ?_
          exact J_37 (1 : Int32) (0 : Int32) x3 σ _ _ _ hP hD hS (lv_sub hl [0, 1, 2, 3] rfl) hE
      · have hE := ip c_ hE
        refine lv_bipush (v := (9 : Int32)) hx hb dX7_sets_22 (by decide) ?_
        refine lv_goto (tgt := 37) hx hb dX7_sets_24 (by decide) ?_
        exact J_37 (9 : Int32) (0 : Int32) x3 σ _ _ _ hP hD hS (lv_sub hl [0, 1, 2, 3] rfl) hE
abbrev rmX7_draw : Room := { frames := 1, cells := 0, slots := 0, locals := 22 }
def f_X7_draw_J20 (σ : St) : Option (Int32 × St) := bnd (f_X7_refuses (-2 : Int32) σ) (fun r2 => some (r2.1, r2.2))
def f_X7_draw_L44 (x2 : Int32) (v44 : Int32 × Int64 × Int32 × St) : Option (((Int32 × St)) ⊕ (Int32 × Int64 × Int32 × St)) := if (80 : Int32) ≤ v44.2.2.1 then (some (.inl (v44.1, v44.2.2.2))) else (dzl ((x2 + (1 : Int32)).toInt64) (gd v44.2.2.1 400 (gd ((320 : Int32) + v44.2.2.1) 400 (gd v44.2.2.1 400 (some (.inr ((v44.1 + (rd (sA (sA v44.2.2.2 0 v44.2.2.1 ((jlrem ((jlrem ((v44.2.1 * (1103515245 : Int64)) + (12345 : Int64)) (2147483648 : Int64)) / (65536 : Int64)) ((x2 + (1 : Int32)).toInt64)).toInt32)) 0 ((320 : Int32) + v44.2.2.1) (0 : Int32)) 0 v44.2.2.1)), (jlrem ((v44.2.1 * (1103515245 : Int64)) + (12345 : Int64)) (2147483648 : Int64)), (v44.2.2.1 + (1 : Int32)), (sA (sA v44.2.2.2 0 v44.2.2.1 ((jlrem ((jlrem ((v44.2.1 * (1103515245 : Int64)) + (12345 : Int64)) (2147483648 : Int64)) / (65536 : Int64)) ((x2 + (1 : Int32)).toInt64)).toInt32)) 0 ((320 : Int32) + v44.2.2.1) (0 : Int32)))))))))
def f_X7_draw_J44 (x2 : Int32) (x3 : Int32) (x4 : Int64) (x6 : Int32) (σ : St) : Option (Int32 × St) := bnd (loopN (f_X7_draw_L44 x2) 4096 (x3, x4, x6, σ)) (fun y44 => some (y44.1, y44.2))
def f_X7_draw (x1 x2 : Int32) (σ : St) : Option (Int32 × St) := bnd (f_X7_in x1 (0 : Int32) (999999 : Int32)) (fun r1 => if r1 = 0 then (f_X7_draw_J20 σ) else (bnd (f_X7_in x2 (0 : Int32) (9 : Int32)) (fun r3 => if r3 = 0 then (f_X7_draw_J20 σ) else (bnd (f_X7_aside σ) (fun r4 => bnd (f_X7_keeps r4) (fun r5 => f_X7_draw_J44 x2 (0 : Int32) ((x1).toInt64) (0 : Int32) r5))))))
set_option maxHeartbeats 4000000 in
set_option maxRecDepth 100000 in
theorem c_X7_draw (l : Launch) (G : EV)  (x1 x2 : Int32) (σ : St) (r : (Int32 × St)) (hE : f_X7_draw x1 x2 σ = some r) : MetI l G yX7_draw wsX7_draw rmX7_draw [.ref (aD G 43), .int x1, .int x2] (wM G σ) r.1 (wM G r.2) := by
  refine Met.of0 (Qf := PI G r.1 (wM G r.2)) (cc := cX7_draw) (maxL := 7) (ret := (some .int)) (by decide) rfl (Nat.le_of_ble_eq_true rfl) ?_
  intro p e s m below meth c args A hx hb hr hts hown hlocks hml hin0 hA hS hP hK hD hX ls hl
  have hl : lv_has ls 7 [(0, .ref (aD G 43)), (1, .int x1), (2, .int x2)] := hl
  generalize hQ : MQ below (PI G r.1 (wM G r.2) A) args s 0 0 A = Q
  unfold f_X7_draw at hE
  have J_20 : ∀ (σ : St) (H : Heap) (locs : List Loc) (ls : Array Slot), va_P G.1 vwCl (wM G σ) H → va_D A (wM G σ) → va_S A s.heap H locs → lv_has ls 7 [(0, .ref (aD G 43))] → f_X7_draw_J20 σ = some r → W p l e rmX7_draw s m args below meth c H locs 0 0 Q (F0 m 20 ls []) := by
    intro σ H locs ls hP hD hS hl hE
    unfold f_X7_draw_J20 at hE
    refine lv_aload_n hx hb dX7_draw_20 rfl (lv_at hl 0 rfl) ?_
    refine lv_bipush (v := (-2 : Int32)) hx hb dX7_draw_21 (by decide) ?_
    obtain ⟨r2, hC, hE⟩ := bnd_some hE
    refine ci (va_runV (As := [.int (-2 : Int32)]) (rest := []) ⟨hx, hb, hml, hown, hts⟩ (c_X7_refuses l G (-2 : Int32) σ r2 hC _) (cwV 1 hts gX7_draw_X7_refuses rfl rfl rfl (by decide +kernel) ⟨Nat.le_of_ble_eq_true rfl, Nat.le_of_ble_eq_true rfl⟩) (preV hK hP hD hS hA hX (va_recv hK hP (ci := 7) (q0 := 13) rfl rfl)) rfl rfl hl.1 rfl (lv_room (Nat.le_of_ble_eq_true rfl)) dX7_draw_23 ⟨Nat.le_of_ble_eq_true rfl, Nat.le_of_ble_eq_true rfl⟩) hD hS hA (fun H locs hP hD hS => ?_)
    rw [← hQ, ← Option.some.inj hE]
    exact ri hx hb hr hlocks hK hP hD hS dX7_draw_26
  have J_44 : ∀ (x3 : Int32) (x4 : Int64) (x6 : Int32) (σ : St) (H : Heap) (locs : List Loc) (ls : Array Slot), va_P G.1 vwCl (wM G σ) H → va_D A (wM G σ) → va_S A s.heap H locs → lv_has ls 7 [(0, .ref (aD G 43)), (2, .int x2), (3, .int x3), (4, .long x4), (6, .int x6)] → f_X7_draw_J44 x2 x3 x4 x6 σ = some r → W p l e rmX7_draw s m args below meth c H locs 0 0 Q (F0 m 44 ls []) := by
    intro x3 x4 x6 σ H locs ls hP hD hS hl hE
    unfold f_X7_draw_J44 at hE
    obtain ⟨y44, hL, hE44⟩ := bnd_some hE
    refine loop_W (body := f_X7_draw_L44 x2) (y := y44) (P := fun v44 => ∀ (H : Heap) (locs : List Loc) (ls : Array Slot), va_P G.1 vwCl (wM G v44.2.2.2) H → va_D A (wM G v44.2.2.2) → va_S A s.heap H locs → lv_has ls 7 [(0, .ref (aD G 43)), (2, .int x2), (3, .int v44.1), (4, .long v44.2.1), (6, .int v44.2.2.1)] → W p l e rmX7_draw s m args below meth c H locs 0 0 Q (F0 m 44 ls [])) ?_ _ _ hL H locs ls hP hD hS hl
    clear hP hD hS hl hE hL
    intro v44 t44 hE hN44 hY44
    intro H locs ls hP hD hS hl
    unfold f_X7_draw_L44 at hE
    refine lv_iload hx hb dX7_draw_44 (lv_at hl 4 rfl) ?_
    refine lv_bipush (v := (80 : Int32)) hx hb dX7_draw_46 (by decide) ?_
    refine lv_icmp_ge (tgt := 114) hx hb dX7_draw_48 (by decide) (fun c_ => ?_) (fun c_ => ?_)
    · have hE := ip c_ hE
      have e9 := hY44 _ (Option.some.inj hE).symm
      have hE := hE44
      rw [← e9] at hE
      refine lv_iload_n hx hb dX7_draw_114 rfl (lv_at hl 2 rfl) ?_
      rw [← hQ, ← Option.some.inj hE]
      exact ri hx hb hr hlocks hK hP hD hS dX7_draw_115
    · have hE := im c_ hE
      refine lv_lload hx hb dX7_draw_51 (lv_at hl 3 rfl) ?_
      refine lv_ldc2 (v := (1103515245 : Int64)) hx hb hown (hts (.constantLong RX7 78 (1103515245)) (List.mem_of_getElem? (i := 2) rfl)) dX7_draw_53 ?_
      refine lv_lmul hx hb dX7_draw_56 ?_
      refine lv_ldc2 (v := (12345 : Int64)) hx hb hown (hts (.constantLong RX7 80 (12345)) (List.mem_of_getElem? (i := 3) rfl)) dX7_draw_57 ?_
      refine lv_ladd hx hb dX7_draw_60 ?_
      refine lv_ldc2 (v := (2147483648 : Int64)) hx hb hown (hts (.constantLong RX7 82 (2147483648)) (List.mem_of_getElem? (i := 4) rfl)) dX7_draw_61 ?_
      refine lv_lrem hx hb dX7_draw_64 (by decide) ?_
      refine lv_lstore (lv' := [(4, .long (jlrem ((v44.2.1 * (1103515245 : Int64)) + (12345 : Int64)) (2147483648 : Int64))), (0, .ref (aD G 43)), (2, .int x2), (3, .int v44.1), (6, .int v44.2.2.1)]) hx hb dX7_draw_65 hl (by decide) rfl (fun ls hl => ?_)
      refine lv_aload_n hx hb dX7_draw_67 rfl (lv_at hl 1 rfl) ?_
      refine va_get (ci := 7) (v := .ref (aD G 30)) (C := RX7) (T := TX7) (N := 17) hx hb hts (fun _ h => List.mem_cons_of_mem _ (List.mem_append_right _ h)) hown hK hP 13 rfl rfl 0 (by decide) (hts (.fieldLink RX7 7 "FillCellsModel" "s" "[I") (List.mem_of_getElem? (i := 5) rfl)) (fun _ h9 => h9) rfl dX7_draw_68 ?_
      refine lv_iload hx hb dX7_draw_71 (lv_at hl 4 rfl) ?_
      refine lv_lload hx hb dX7_draw_73 (lv_at hl 0 rfl) ?_
      refine lv_ldc2 (v := (65536 : Int64)) hx hb hown (hts (.constantLong RX7 84 (65536)) (List.mem_of_getElem? (i := 6) rfl)) dX7_draw_75 ?_
      refine lv_ldiv hx hb dX7_draw_78 (by decide) ?_
      refine lv_iload_n hx hb dX7_draw_79 rfl (lv_at hl 2 rfl) ?_
      refine lv_iconst (v := (1 : Int32)) hx hb dX7_draw_80 (by decide) ?_
      refine lv_iadd hx hb dX7_draw_81 ?_
      refine lv_i2l hx hb dX7_draw_82 rfl ?_
      obtain ⟨h_z, hE⟩ := dzl_some hE
      refine lv_lrem hx hb dX7_draw_83 h_z ?_
      refine lv_l2i hx hb dX7_draw_84 rfl ?_
      obtain ⟨h_i, hE⟩ := gd_some hE
      refine stM hx hb hK hP hD hS 0 (by decide) h_i dX7_draw_85 (fun H locs hP hD hS => ?_)
      refine lv_aload_n hx hb dX7_draw_86 rfl (lv_at hl 1 rfl) ?_
      refine va_get (ci := 7) (v := .ref (aD G 30)) (C := RX7) (T := TX7) (N := 17) hx hb hts (fun _ h => List.mem_cons_of_mem _ (List.mem_append_right _ h)) hown hK hP 13 rfl rfl 0 (by decide) (hts (.fieldLink RX7 7 "FillCellsModel" "s" "[I") (List.mem_of_getElem? (i := 5) rfl)) (fun _ h9 => h9) rfl dX7_draw_87 ?_
      refine lv_sipush (v := (320 : Int32)) hx hb dX7_draw_90 (by decide) ?_
      refine lv_iload hx hb dX7_draw_93 (lv_at hl 4 rfl) ?_
      refine lv_iadd hx hb dX7_draw_95 ?_
      refine lv_iconst (v := (0 : Int32)) hx hb dX7_draw_96 (by decide) ?_
      obtain ⟨h_i, hE⟩ := gd_some hE
      refine stM hx hb hK hP hD hS 0 (by decide) h_i dX7_draw_97 (fun H locs hP hD hS => ?_)
      refine lv_iload_n hx hb dX7_draw_98 rfl (lv_at hl 3 rfl) ?_
      refine lv_aload_n hx hb dX7_draw_99 rfl (lv_at hl 1 rfl) ?_
      refine va_get (ci := 7) (v := .ref (aD G 30)) (C := RX7) (T := TX7) (N := 17) hx hb hts (fun _ h => List.mem_cons_of_mem _ (List.mem_append_right _ h)) hown hK hP 13 rfl rfl 0 (by decide) (hts (.fieldLink RX7 7 "FillCellsModel" "s" "[I") (List.mem_of_getElem? (i := 5) rfl)) (fun _ h9 => h9) rfl dX7_draw_100 ?_
      refine lv_iload hx hb dX7_draw_103 (lv_at hl 4 rfl) ?_
      obtain ⟨h_i, hE⟩ := gd_some hE
      refine ldM hx hb hK hP 0 (by decide) h_i dX7_draw_105 ?_
      refine lv_iadd hx hb dX7_draw_106 ?_
      refine lv_istore_n (lv' := [(3, .int (v44.1 + (rd (sA (sA v44.2.2.2 0 v44.2.2.1 ((jlrem ((jlrem ((v44.2.1 * (1103515245 : Int64)) + (12345 : Int64)) (2147483648 : Int64)) / (65536 : Int64)) ((x2 + (1 : Int32)).toInt64)).toInt32)) 0 ((320 : Int32) + v44.2.2.1) (0 : Int32)) 0 v44.2.2.1))), (4, .long (jlrem ((v44.2.1 * (1103515245 : Int64)) + (12345 : Int64)) (2147483648 : Int64))), (0, .ref (aD G 43)), (2, .int x2), (6, .int v44.2.2.1)]) hx hb dX7_draw_107 rfl hl (by decide) rfl (fun ls hl => ?_)
      refine lv_iinc (v := (v44.2.2.1 + (1 : Int32))) (lv' := [(6, .int (v44.2.2.1 + (1 : Int32))), (3, .int (v44.1 + (rd (sA (sA v44.2.2.2 0 v44.2.2.1 ((jlrem ((jlrem ((v44.2.1 * (1103515245 : Int64)) + (12345 : Int64)) (2147483648 : Int64)) / (65536 : Int64)) ((x2 + (1 : Int32)).toInt64)).toInt32)) 0 ((320 : Int32) + v44.2.2.1) (0 : Int32)) 0 v44.2.2.1))), (4, .long (jlrem ((v44.2.1 * (1103515245 : Int64)) + (12345 : Int64)) (2147483648 : Int64))), (0, .ref (aD G 43)), (2, .int x2)]) hx hb dX7_draw_108 hl (k := 4) rfl rfl (by decide) rfl (fun ls hl => ?_)
      refine lv_goto (tgt := 44) hx hb dX7_draw_111 (by decide) ?_
      exact hN44 _ (Option.some.inj hE).symm _ _ _ hP hD hS (lv_sub hl [3, 4, 1, 2, 0] rfl)
  refine lv_iload_n hx hb dX7_draw_0 rfl (lv_at hl 1 rfl) ?_
  refine lv_iconst (v := (0 : Int32)) hx hb dX7_draw_1 (by decide) ?_
  refine lv_ldc (v := (999999 : Int32)) hx hb hown (hts (.constant RX7 77 (999999)) (List.mem_of_getElem? (i := 1) rfl)) dX7_draw_2 ?_
  obtain ⟨r1, hC, hE⟩ := bnd_some hE
  refine ci (va_runS (As := [.int x1, .int (0 : Int32), .int (999999 : Int32)]) (rest := []) ⟨hx, hb, hml, hown, hts⟩ (c_X7_in l G x1 (0 : Int32) (999999 : Int32) σ r1 hC _) (va_cwS 3 hts gX7_draw_X7_in rfl rfl rfl (by decide +kernel) ⟨Nat.le_of_ble_eq_true rfl, Nat.le_of_ble_eq_true rfl⟩) (preS hK hP hD hS hA hX) rfl rfl hl.1 rfl (lv_room (Nat.le_of_ble_eq_true rfl)) dX7_draw_4 ⟨Nat.le_of_ble_eq_true rfl, Nat.le_of_ble_eq_true rfl⟩) hD hS hA (fun H locs hP hD hS => ?_)
  refine lv_if_eq (tgt := 20) hx hb dX7_draw_7 (by decide) (fun c_ => ?_) (fun c_ => ?_)
  · have hE := ip c_ hE
    exact J_20 σ _ _ _ hP hD hS (lv_sub hl [0] rfl) hE
  · have hE := im c_ hE
    refine lv_iload_n hx hb dX7_draw_10 rfl (lv_at hl 2 rfl) ?_
    refine lv_iconst (v := (0 : Int32)) hx hb dX7_draw_11 (by decide) ?_
    refine lv_bipush (v := (9 : Int32)) hx hb dX7_draw_12 (by decide) ?_
    obtain ⟨r3, hC, hE⟩ := bnd_some hE
    refine ci (va_runS (As := [.int x2, .int (0 : Int32), .int (9 : Int32)]) (rest := []) ⟨hx, hb, hml, hown, hts⟩ (c_X7_in l G x2 (0 : Int32) (9 : Int32) σ r3 hC _) (va_cwS 3 hts gX7_draw_X7_in rfl rfl rfl (by decide +kernel) ⟨Nat.le_of_ble_eq_true rfl, Nat.le_of_ble_eq_true rfl⟩) (preS hK hP hD hS hA hX) rfl rfl hl.1 rfl (lv_room (Nat.le_of_ble_eq_true rfl)) dX7_draw_14 ⟨Nat.le_of_ble_eq_true rfl, Nat.le_of_ble_eq_true rfl⟩) hD hS hA (fun H locs hP hD hS => ?_)
    refine lv_if_ne (tgt := 27) hx hb dX7_draw_17 (by decide) (fun c_ => ?_) (fun c_ => ?_)
    · have hE := im c_ hE
      refine lv_aload_n hx hb dX7_draw_27 rfl (lv_at hl 0 rfl) ?_
      obtain ⟨r4, hC, hE⟩ := bnd_some hE
      refine cv (va_runV (As := []) (rest := []) ⟨hx, hb, hml, hown, hts⟩ (c_X7_aside l G σ r4 hC _) (cwV 0 hts gX7_draw_X7_aside rfl rfl rfl (by decide +kernel) ⟨Nat.le_of_ble_eq_true rfl, Nat.le_of_ble_eq_true rfl⟩) (preV hK hP hD hS hA hX (va_recv hK hP (ci := 7) (q0 := 13) rfl rfl)) rfl rfl hl.1 rfl (lv_room (Nat.le_of_ble_eq_true rfl)) dX7_draw_28 ⟨Nat.le_of_ble_eq_true rfl, Nat.le_of_ble_eq_true rfl⟩) hD hS hA (fun H locs hP hD hS => ?_)
      refine lv_aload_n hx hb dX7_draw_31 rfl (lv_at hl 0 rfl) ?_
      obtain ⟨r5, hC, hE⟩ := bnd_some hE
      refine cv (va_runV (As := []) (rest := []) ⟨hx, hb, hml, hown, hts⟩ (c_X7_keeps l G r4 r5 hC _) (cwV 0 hts gX7_draw_X7_keeps rfl rfl rfl (by decide +kernel) ⟨Nat.le_of_ble_eq_true rfl, Nat.le_of_ble_eq_true rfl⟩) (preV hK hP hD hS hA hX (va_recv hK hP (ci := 7) (q0 := 13) rfl rfl)) rfl rfl hl.1 rfl (lv_room (Nat.le_of_ble_eq_true rfl)) dX7_draw_32 ⟨Nat.le_of_ble_eq_true rfl, Nat.le_of_ble_eq_true rfl⟩) hD hS hA (fun H locs hP hD hS => ?_)
      refine lv_iconst (v := (0 : Int32)) hx hb dX7_draw_35 (by decide) ?_
      refine lv_istore_n (lv' := [(3, .int (0 : Int32)), (0, .ref (aD G 43)), (1, .int x1), (2, .int x2)]) hx hb dX7_draw_36 rfl hl (by decide) rfl (fun ls hl => ?_)
      refine lv_iload_n hx hb dX7_draw_37 rfl (lv_at hl 2 rfl) ?_
      refine lv_i2l hx hb dX7_draw_38 rfl ?_
      refine lv_lstore (lv' := [(4, .long ((x1).toInt64)), (3, .int (0 : Int32)), (0, .ref (aD G 43)), (1, .int x1), (2, .int x2)]) hx hb dX7_draw_39 hl (by decide) rfl (fun ls hl => ?_)
      refine lv_iconst (v := (0 : Int32)) hx hb dX7_draw_41 (by decide) ?_
      refine lv_istore (lv' := [(6, .int (0 : Int32)), (4, .long ((x1).toInt64)), (3, .int (0 : Int32)), (0, .ref (aD G 43)), (1, .int x1), (2, .int x2)]) hx hb dX7_draw_42 hl (by decide) rfl (fun ls hl => ?_)
      exact J_44 (0 : Int32) ((x1).toInt64) (0 : Int32) r5 _ _ _ hP hD hS (lv_sub hl [3, 5, 2, 1, 0] rfl) hE
    · have hE := ip c_ hE
      exact J_20 σ _ _ _ hP hD hS (lv_sub hl [0] rfl) hE
abbrev rmX7_fillOf : Room := { frames := 0, cells := 0, slots := 0, locals := 0 }
def f_X7_fillOf_L4 (σ : St) (v4 : Int32 × Int32) : Option (((Int32)) ⊕ (Int32 × Int32)) := if (80 : Int32) ≤ v4.2 then (some (.inl (v4.1))) else (gd ((320 : Int32) + v4.2) 400 (some (.inr ((v4.1 + (rd σ 0 ((320 : Int32) + v4.2))), (v4.2 + (1 : Int32))))))
def f_X7_fillOf_J4 (x1 : Int32) (x2 : Int32) (σ : St) : Option Int32 := bnd (loopN (f_X7_fillOf_L4 σ) 4096 (x1, x2)) (fun y4 => some y4)
def f_X7_fillOf (σ : St) : Option Int32 := f_X7_fillOf_J4 (0 : Int32) (0 : Int32) σ
set_option maxHeartbeats 4000000 in
set_option maxRecDepth 100000 in
theorem c_X7_fillOf (l : Launch) (G : EV)   (σ : St) (r : Int32) (hE : f_X7_fillOf σ = some r) : MetI l G yX7_fillOf wsX7_fillOf rmX7_fillOf [.ref (aD G 43)] (wM G σ) r (wM G σ) := by
  refine Met.of0 (Qf := PI G r (wM G σ)) (cc := cX7_fillOf) (maxL := 3) (ret := (some .int)) (by decide) rfl (Nat.le_of_ble_eq_true rfl) ?_
  intro p e s m below meth c args A hx hb hr hts hown hlocks hml hin0 hA hS hP hK hD hX ls hl
  have hl : lv_has ls 3 [(0, .ref (aD G 43))] := hl
  generalize hQ : MQ below (PI G r (wM G σ) A) args s 0 0 A = Q
  unfold f_X7_fillOf at hE
  have J_4 : ∀ (x1 : Int32) (x2 : Int32) (H : Heap) (locs : List Loc) (ls : Array Slot), va_P G.1 vwCl (wM G σ) H → va_D A (wM G σ) → va_S A s.heap H locs → lv_has ls 3 [(0, .ref (aD G 43)), (1, .int x1), (2, .int x2)] → f_X7_fillOf_J4 x1 x2 σ = some r → W p l e rmX7_fillOf s m args below meth c H locs 0 0 Q (F0 m 4 ls []) := by
    intro x1 x2 H locs ls hP hD hS hl hE
    unfold f_X7_fillOf_J4 at hE
    obtain ⟨y4, hL, hE4⟩ := bnd_some hE
    refine loop_W (body := f_X7_fillOf_L4 σ) (y := y4) (P := fun v4 => ∀ (H : Heap) (locs : List Loc) (ls : Array Slot), va_P G.1 vwCl (wM G σ) H → va_D A (wM G σ) → va_S A s.heap H locs → lv_has ls 3 [(0, .ref (aD G 43)), (1, .int v4.1), (2, .int v4.2)] → W p l e rmX7_fillOf s m args below meth c H locs 0 0 Q (F0 m 4 ls [])) ?_ _ _ hL H locs ls hP hD hS hl
    clear hP hD hS hl hE hL
    intro v4 t4 hE hN4 hY4
    intro H locs ls hP hD hS hl
    unfold f_X7_fillOf_L4 at hE
    refine lv_iload_n hx hb dX7_fillOf_4 rfl (lv_at hl 2 rfl) ?_
    refine lv_bipush (v := (80 : Int32)) hx hb dX7_fillOf_5 (by decide) ?_
    refine lv_icmp_ge (tgt := 29) hx hb dX7_fillOf_7 (by decide) (fun c_ => ?_) (fun c_ => ?_)
    · have hE := ip c_ hE
      have e9 := hY4 _ (Option.some.inj hE).symm
      have hE := hE4
      rw [← e9] at hE
      refine lv_iload_n hx hb dX7_fillOf_29 rfl (lv_at hl 1 rfl) ?_
      rw [← hQ, ← Option.some.inj hE]
      exact ri hx hb hr hlocks hK hP hD hS dX7_fillOf_30
    · have hE := im c_ hE
      refine lv_iload_n hx hb dX7_fillOf_10 rfl (lv_at hl 1 rfl) ?_
      refine lv_aload_n hx hb dX7_fillOf_11 rfl (lv_at hl 0 rfl) ?_
      refine va_get (ci := 7) (v := .ref (aD G 30)) (C := RX7) (T := TX7) (N := 17) hx hb hts (fun _ h => List.mem_cons_of_mem _ (List.mem_append_right _ h)) hown hK hP 13 rfl rfl 0 (by decide) (hts (.fieldLink RX7 7 "FillCellsModel" "s" "[I") (List.mem_of_getElem? (i := 1) rfl)) (fun _ h9 => h9) rfl dX7_fillOf_12 ?_
      refine lv_sipush (v := (320 : Int32)) hx hb dX7_fillOf_15 (by decide) ?_
      refine lv_iload_n hx hb dX7_fillOf_18 rfl (lv_at hl 2 rfl) ?_
      refine lv_iadd hx hb dX7_fillOf_19 ?_
      obtain ⟨h_i, hE⟩ := gd_some hE
      refine ldM hx hb hK hP 0 (by decide) h_i dX7_fillOf_20 ?_
      refine lv_iadd hx hb dX7_fillOf_21 ?_
      refine lv_istore_n (lv' := [(1, .int (v4.1 + (rd σ 0 ((320 : Int32) + v4.2)))), (0, .ref (aD G 43)), (2, .int v4.2)]) hx hb dX7_fillOf_22 rfl hl (by decide) rfl (fun ls hl => ?_)
      refine lv_iinc (v := (v4.2 + (1 : Int32))) (lv' := [(2, .int (v4.2 + (1 : Int32))), (1, .int (v4.1 + (rd σ 0 ((320 : Int32) + v4.2)))), (0, .ref (aD G 43))]) hx hb dX7_fillOf_23 hl (k := 2) rfl rfl (by decide) rfl (fun ls hl => ?_)
      refine lv_goto (tgt := 4) hx hb dX7_fillOf_26 (by decide) ?_
      exact hN4 _ (Option.some.inj hE).symm _ _ _ hP hD hS (lv_sub hl [2, 1, 0] rfl)
  refine lv_iconst (v := (0 : Int32)) hx hb dX7_fillOf_0 (by decide) ?_
  refine lv_istore_n (lv' := [(1, .int (0 : Int32)), (0, .ref (aD G 43))]) hx hb dX7_fillOf_1 rfl hl (by decide) rfl (fun ls hl => ?_)
  refine lv_iconst (v := (0 : Int32)) hx hb dX7_fillOf_2 (by decide) ?_
  refine lv_istore_n (lv' := [(2, .int (0 : Int32)), (1, .int (0 : Int32)), (0, .ref (aD G 43))]) hx hb dX7_fillOf_3 rfl hl (by decide) rfl (fun ls hl => ?_)
  exact J_4 (0 : Int32) (0 : Int32) _ _ _ hP hD hS (lv_sub hl [2, 1, 0] rfl) hE
abbrev rmX7_empties : Room := { frames := 1, cells := 0, slots := 0, locals := 22 }
def f_X7_empties_L15 (x1 : Int32) (v15 : Int32 × St) : Option (((St)) ⊕ (Int32 × St)) := if (80 : Int32) ≤ v15.1 then (some (.inl (v15.2))) else (gd ((320 : Int32) + v15.1) 400 (some (.inr ((v15.1 + (1 : Int32)), (sA v15.2 0 ((320 : Int32) + v15.1) (0 : Int32))))))
def f_X7_empties_J15 (x1 : Int32) (x2 : Int32) (σ : St) : Option (Int32 × St) := bnd (loopN (f_X7_empties_L15 x1) 4096 (x2, σ)) (fun y15 => some (x1, y15))
def f_X7_empties (σ : St) : Option (Int32 × St) := bnd (f_X7_aside σ) (fun r1 => bnd (f_X7_keeps r1) (fun r2 => bnd (f_X7_fillOf r2) (fun r3 => f_X7_empties_J15 r3 (0 : Int32) r2)))
set_option maxHeartbeats 4000000 in
set_option maxRecDepth 100000 in
theorem c_X7_empties (l : Launch) (G : EV)   (σ : St) (r : (Int32 × St)) (hE : f_X7_empties σ = some r) : MetI l G yX7_empties wsX7_empties rmX7_empties [.ref (aD G 43)] (wM G σ) r.1 (wM G r.2) := by
  refine Met.of0 (Qf := PI G r.1 (wM G r.2)) (cc := cX7_empties) (maxL := 3) (ret := (some .int)) (by decide) rfl (Nat.le_of_ble_eq_true rfl) ?_
  intro p e s m below meth c args A hx hb hr hts hown hlocks hml hin0 hA hS hP hK hD hX ls hl
  have hl : lv_has ls 3 [(0, .ref (aD G 43))] := hl
  generalize hQ : MQ below (PI G r.1 (wM G r.2) A) args s 0 0 A = Q
  unfold f_X7_empties at hE
  have J_15 : ∀ (x1 : Int32) (x2 : Int32) (σ : St) (H : Heap) (locs : List Loc) (ls : Array Slot), va_P G.1 vwCl (wM G σ) H → va_D A (wM G σ) → va_S A s.heap H locs → lv_has ls 3 [(0, .ref (aD G 43)), (1, .int x1), (2, .int x2)] → f_X7_empties_J15 x1 x2 σ = some r → W p l e rmX7_empties s m args below meth c H locs 0 0 Q (F0 m 15 ls []) := by
    intro x1 x2 σ H locs ls hP hD hS hl hE
    unfold f_X7_empties_J15 at hE
    obtain ⟨y15, hL, hE15⟩ := bnd_some hE
    refine loop_W (body := f_X7_empties_L15 x1) (y := y15) (P := fun v15 => ∀ (H : Heap) (locs : List Loc) (ls : Array Slot), va_P G.1 vwCl (wM G v15.2) H → va_D A (wM G v15.2) → va_S A s.heap H locs → lv_has ls 3 [(0, .ref (aD G 43)), (1, .int x1), (2, .int v15.1)] → W p l e rmX7_empties s m args below meth c H locs 0 0 Q (F0 m 15 ls [])) ?_ _ _ hL H locs ls hP hD hS hl
    clear hP hD hS hl hE hL
    intro v15 t15 hE hN15 hY15
    intro H locs ls hP hD hS hl
    unfold f_X7_empties_L15 at hE
    refine lv_iload_n hx hb dX7_empties_15 rfl (lv_at hl 2 rfl) ?_
    refine lv_bipush (v := (80 : Int32)) hx hb dX7_empties_16 (by decide) ?_
    refine lv_icmp_ge (tgt := 38) hx hb dX7_empties_18 (by decide) (fun c_ => ?_) (fun c_ => ?_)
    · have hE := ip c_ hE
      have e9 := hY15 _ (Option.some.inj hE).symm
      have hE := hE15
      rw [← e9] at hE
      refine lv_iload_n hx hb dX7_empties_38 rfl (lv_at hl 1 rfl) ?_
      rw [← hQ, ← Option.some.inj hE]
      exact ri hx hb hr hlocks hK hP hD hS dX7_empties_39
    · have hE := im c_ hE
      refine lv_aload_n hx hb dX7_empties_21 rfl (lv_at hl 0 rfl) ?_
      refine va_get (ci := 7) (v := .ref (aD G 30)) (C := RX7) (T := TX7) (N := 17) hx hb hts (fun _ h => List.mem_cons_of_mem _ (List.mem_append_right _ h)) hown hK hP 13 rfl rfl 0 (by decide) (hts (.fieldLink RX7 7 "FillCellsModel" "s" "[I") (List.mem_of_getElem? (i := 1) rfl)) (fun _ h9 => h9) rfl dX7_empties_22 ?_
      refine lv_sipush (v := (320 : Int32)) hx hb dX7_empties_25 (by decide) ?_
      refine lv_iload_n hx hb dX7_empties_28 rfl (lv_at hl 2 rfl) ?_
      refine lv_iadd hx hb dX7_empties_29 ?_
      refine lv_iconst (v := (0 : Int32)) hx hb dX7_empties_30 (by decide) ?_
      obtain ⟨h_i, hE⟩ := gd_some hE
      refine stM hx hb hK hP hD hS 0 (by decide) h_i dX7_empties_31 (fun H locs hP hD hS => ?_)
      refine lv_iinc (v := (v15.1 + (1 : Int32))) (lv' := [(2, .int (v15.1 + (1 : Int32))), (0, .ref (aD G 43)), (1, .int x1)]) hx hb dX7_empties_32 hl (k := 2) rfl rfl (by decide) rfl (fun ls hl => ?_)
      refine lv_goto (tgt := 15) hx hb dX7_empties_35 (by decide) ?_
      exact hN15 _ (Option.some.inj hE).symm _ _ _ hP hD hS (lv_sub hl [1, 2, 0] rfl)
  refine lv_aload_n hx hb dX7_empties_0 rfl (lv_at hl 0 rfl) ?_
  obtain ⟨r1, hC, hE⟩ := bnd_some hE
  refine cv (va_runV (As := []) (rest := []) ⟨hx, hb, hml, hown, hts⟩ (c_X7_aside l G σ r1 hC _) (cwV 0 hts gX7_empties_X7_aside rfl rfl rfl (by decide +kernel) ⟨Nat.le_of_ble_eq_true rfl, Nat.le_of_ble_eq_true rfl⟩) (preV hK hP hD hS hA hX (va_recv hK hP (ci := 7) (q0 := 13) rfl rfl)) rfl rfl hl.1 rfl (lv_room (Nat.le_of_ble_eq_true rfl)) dX7_empties_1 ⟨Nat.le_of_ble_eq_true rfl, Nat.le_of_ble_eq_true rfl⟩) hD hS hA (fun H locs hP hD hS => ?_)
  refine lv_aload_n hx hb dX7_empties_4 rfl (lv_at hl 0 rfl) ?_
  obtain ⟨r2, hC, hE⟩ := bnd_some hE
  refine cv (va_runV (As := []) (rest := []) ⟨hx, hb, hml, hown, hts⟩ (c_X7_keeps l G r1 r2 hC _) (cwV 0 hts gX7_empties_X7_keeps rfl rfl rfl (by decide +kernel) ⟨Nat.le_of_ble_eq_true rfl, Nat.le_of_ble_eq_true rfl⟩) (preV hK hP hD hS hA hX (va_recv hK hP (ci := 7) (q0 := 13) rfl rfl)) rfl rfl hl.1 rfl (lv_room (Nat.le_of_ble_eq_true rfl)) dX7_empties_5 ⟨Nat.le_of_ble_eq_true rfl, Nat.le_of_ble_eq_true rfl⟩) hD hS hA (fun H locs hP hD hS => ?_)
  refine lv_aload_n hx hb dX7_empties_8 rfl (lv_at hl 0 rfl) ?_
  obtain ⟨r3, hC, hE⟩ := bnd_some hE
  refine ci (va_runV (As := []) (rest := []) ⟨hx, hb, hml, hown, hts⟩ (c_X7_fillOf l G r2 r3 hC _) (cwV 0 hts gX7_empties_X7_fillOf rfl rfl rfl (by decide +kernel) ⟨Nat.le_of_ble_eq_true rfl, Nat.le_of_ble_eq_true rfl⟩) (preV hK hP hD hS hA hX (va_recv hK hP (ci := 7) (q0 := 13) rfl rfl)) rfl rfl hl.1 rfl (lv_room (Nat.le_of_ble_eq_true rfl)) dX7_empties_9 ⟨Nat.le_of_ble_eq_true rfl, Nat.le_of_ble_eq_true rfl⟩) hD hS hA (fun H locs hP hD hS => ?_)
  refine lv_istore_n (lv' := [(1, .int r3), (0, .ref (aD G 43))]) hx hb dX7_empties_12 rfl hl (by decide) rfl (fun ls hl => ?_)
  refine lv_iconst (v := (0 : Int32)) hx hb dX7_empties_13 (by decide) ?_
  refine lv_istore_n (lv' := [(2, .int (0 : Int32)), (1, .int r3), (0, .ref (aD G 43))]) hx hb dX7_empties_14 rfl hl (by decide) rfl (fun ls hl => ?_)
  exact J_15 r3 (0 : Int32) r2 _ _ _ hP hD hS (lv_sub hl [2, 1, 0] rfl) hE
abbrev rmX7_rules : Room := { frames := 1, cells := 0, slots := 0, locals := 22 }
def f_X7_rules_J90 (x1 : Int32) (x2 : Int32) (t0 : Int32) (σ : St) : Option (Int32 × St) := if t0 = 0 then (bnd (f_X7_refuses (-2 : Int32) σ) (fun r2 => some (r2.1, r2.2))) else (gd x1 8 (gd x1 8 (some ((rd σ 3 x1), (sA σ 3 x1 x2)))))
def f_X7_rules_J39 (x1 : Int32) (x2 : Int32) (σ : St) : Option (Int32 × St) := bnd (f_X7_in x2 (0 : Int32) (720 : Int32)) (fun r1 => f_X7_rules_J90 x1 x2 r1 σ)
def f_X7_rules_J89 (x1 : Int32) (x2 : Int32) (σ : St) : Option (Int32 × St) := f_X7_rules_J90 x1 x2 (0 : Int32) σ
def f_X7_rules (x1 x2 : Int32) (σ : St) : Option (Int32 × St) := if x1 = 0 then (bnd (f_X7_in x2 (1 : Int32) (8 : Int32)) (fun r7 => f_X7_rules_J90 x1 x2 r7 σ)) else (if x1 = (1 : Int32) then (bnd (f_X7_in x2 (1 : Int32) (10 : Int32)) (fun r6 => f_X7_rules_J90 x1 x2 r6 σ)) else (if x1 = (2 : Int32) then (f_X7_rules_J39 x1 x2 σ) else (if x1 = (3 : Int32) then (f_X7_rules_J39 x1 x2 σ) else (if x1 = (7 : Int32) then (bnd (f_X7_in x2 (0 : Int32) (4 : Int32)) (fun r5 => f_X7_rules_J90 x1 x2 r5 σ)) else (bnd (f_X7_in x1 (4 : Int32) (6 : Int32)) (fun r3 => if r3 = 0 then (f_X7_rules_J89 x1 x2 σ) else (bnd (f_X7_in x2 (0 : Int32) (99 : Int32)) (fun r4 => if r4 = 0 then (f_X7_rules_J89 x1 x2 σ) else (f_X7_rules_J90 x1 x2 (1 : Int32) σ)))))))))
set_option maxHeartbeats 4000000 in
set_option maxRecDepth 100000 in
theorem c_X7_rules (l : Launch) (G : EV)  (x1 x2 : Int32) (σ : St) (r : (Int32 × St)) (hE : f_X7_rules x1 x2 σ = some r) : MetI l G yX7_rules wsX7_rules rmX7_rules [.ref (aD G 43), .int x1, .int x2] (wM G σ) r.1 (wM G r.2) := by
  refine Met.of0 (Qf := PI G r.1 (wM G r.2)) (cc := cX7_rules) (maxL := 5) (ret := (some .int)) (by decide) rfl (Nat.le_of_ble_eq_true rfl) ?_
  intro p e s m below meth c args A hx hb hr hts hown hlocks hml hin0 hA hS hP hK hD hX ls hl
  have hl : lv_has ls 5 [(0, .ref (aD G 43)), (1, .int x1), (2, .int x2)] := hl
  generalize hQ : MQ below (PI G r.1 (wM G r.2) A) args s 0 0 A = Q
  unfold f_X7_rules at hE
  have J_90 : ∀ (t0 : Int32) (σ : St) (H : Heap) (locs : List Loc) (ls : Array Slot), va_P G.1 vwCl (wM G σ) H → va_D A (wM G σ) → va_S A s.heap H locs → lv_has ls 5 [(0, .ref (aD G 43)), (1, .int x1), (2, .int x2)] → f_X7_rules_J90 x1 x2 t0 σ = some r → W p l e rmX7_rules s m args below meth c H locs 0 0 Q (F0 m 90 ls [.int t0]) := by
    intro t0 σ H locs ls hP hD hS hl hE
    unfold f_X7_rules_J90 at hE
    refine lv_istore_n (lv' := [(3, .int t0), (0, .ref (aD G 43)), (1, .int x1), (2, .int x2)]) hx hb dX7_rules_90 rfl hl (by decide) rfl (fun ls hl => ?_)
    refine lv_iload_n hx hb dX7_rules_91 rfl (lv_at hl 0 rfl) ?_
    refine lv_if_ne (tgt := 102) hx hb dX7_rules_92 (by decide) (fun c_ => ?_) (fun c_ => ?_)
    · have hE := im c_ hE
      refine lv_aload_n hx hb dX7_rules_102 rfl (lv_at hl 1 rfl) ?_
      refine va_get (ci := 7) (v := .ref (aD G 33)) (C := RX7) (T := TX7) (N := 17) hx hb hts (fun _ h => List.mem_cons_of_mem _ (List.mem_append_right _ h)) hown hK hP 13 rfl rfl 4 (by decide) (hts (.fieldLink RX7 19 "FillCellsModel" "rules" "[I") (List.mem_of_getElem? (i := 1) rfl)) (fun _ h9 => h9) rfl dX7_rules_103 ?_
      refine lv_iload_n hx hb dX7_rules_106 rfl (lv_at hl 2 rfl) ?_
      obtain ⟨h_i, hE⟩ := gd_some hE
      refine ldM hx hb hK hP 3 (by decide) h_i dX7_rules_107 ?_
      refine lv_istore (lv' := [(4, .int (rd σ 3 x1)), (3, .int t0), (0, .ref (aD G 43)), (1, .int x1), (2, .int x2)]) hx hb dX7_rules_108 hl (by decide) rfl (fun ls hl => ?_)
      refine lv_aload_n hx hb dX7_rules_110 rfl (lv_at hl 2 rfl) ?_
      refine va_get (ci := 7) (v := .ref (aD G 33)) (C := RX7) (T := TX7) (N := 17) hx hb hts (fun _ h => List.mem_cons_of_mem _ (List.mem_append_right _ h)) hown hK hP 13 rfl rfl 4 (by decide) (hts (.fieldLink RX7 19 "FillCellsModel" "rules" "[I") (List.mem_of_getElem? (i := 1) rfl)) (fun _ h9 => h9) rfl dX7_rules_111 ?_
      refine lv_iload_n hx hb dX7_rules_114 rfl (lv_at hl 3 rfl) ?_
      refine lv_iload_n hx hb dX7_rules_115 rfl (lv_at hl 4 rfl) ?_
      obtain ⟨h_i, hE⟩ := gd_some hE
      refine stM hx hb hK hP hD hS 3 (by decide) h_i dX7_rules_116 (fun H locs hP hD hS => ?_)
      refine lv_iload hx hb dX7_rules_117 (lv_at hl 0 rfl) ?_
      rw [← hQ, ← Option.some.inj hE]
      exact ri hx hb hr hlocks hK hP hD hS dX7_rules_119
    · have hE := ip c_ hE
      refine lv_aload_n hx hb dX7_rules_95 rfl (lv_at hl 1 rfl) ?_
      refine lv_bipush (v := (-2 : Int32)) hx hb dX7_rules_96 (by decide) ?_
      obtain ⟨r2, hC, hE⟩ := bnd_some hE
      refine ci (va_runV (As := [.int (-2 : Int32)]) (rest := []) ⟨hx, hb, hml, hown, hts⟩ (c_X7_refuses l G (-2 : Int32) σ r2 hC _) (cwV 1 hts gX7_rules_X7_refuses rfl rfl rfl (by decide +kernel) ⟨Nat.le_of_ble_eq_true rfl, Nat.le_of_ble_eq_true rfl⟩) (preV hK hP hD hS hA hX (va_recv hK hP (ci := 7) (q0 := 13) rfl rfl)) rfl rfl hl.1 rfl (lv_room (Nat.le_of_ble_eq_true rfl)) dX7_rules_98 ⟨Nat.le_of_ble_eq_true rfl, Nat.le_of_ble_eq_true rfl⟩) hD hS hA (fun H locs hP hD hS => ?_)
      rw [← hQ, ← Option.some.inj hE]
      exact ri hx hb hr hlocks hK hP hD hS dX7_rules_101
  have J_39 : ∀ (σ : St) (H : Heap) (locs : List Loc) (ls : Array Slot), va_P G.1 vwCl (wM G σ) H → va_D A (wM G σ) → va_S A s.heap H locs → lv_has ls 5 [(0, .ref (aD G 43)), (1, .int x1), (2, .int x2)] → f_X7_rules_J39 x1 x2 σ = some r → W p l e rmX7_rules s m args below meth c H locs 0 0 Q (F0 m 39 ls []) := by
    intro σ H locs ls hP hD hS hl hE
    unfold f_X7_rules_J39 at hE
    refine lv_iload_n hx hb dX7_rules_39 rfl (lv_at hl 2 rfl) ?_
    refine lv_iconst (v := (0 : Int32)) hx hb dX7_rules_40 (by decide) ?_
    refine lv_sipush (v := (720 : Int32)) hx hb dX7_rules_41 (by decide) ?_
    obtain ⟨r1, hC, hE⟩ := bnd_some hE
    refine ci (va_runS (As := [.int x2, .int (0 : Int32), .int (720 : Int32)]) (rest := []) ⟨hx, hb, hml, hown, hts⟩ (c_X7_in l G x2 (0 : Int32) (720 : Int32) σ r1 hC _) (va_cwS 3 hts gX7_rules_X7_in rfl rfl rfl (by decide +kernel) ⟨Nat.le_of_ble_eq_true rfl, Nat.le_of_ble_eq_true rfl⟩) (preS hK hP hD hS hA hX) rfl rfl hl.1 rfl (lv_room (Nat.le_of_ble_eq_true rfl)) dX7_rules_44 ⟨Nat.le_of_ble_eq_true rfl, Nat.le_of_ble_eq_true rfl⟩) hD hS hA (fun H locs hP hD hS => ?_)
    refine lv_goto (tgt := 90) hx hb dX7_rules_47 (by decide) ?_
    exact J_90 r1 σ _ _ _ hP hD hS (lv_sub hl [0, 1, 2] rfl) hE
  have J_89 : ∀ (σ : St) (H : Heap) (locs : List Loc) (ls : Array Slot), va_P G.1 vwCl (wM G σ) H → va_D A (wM G σ) → va_S A s.heap H locs → lv_has ls 5 [(0, .ref (aD G 43)), (1, .int x1), (2, .int x2)] → f_X7_rules_J89 x1 x2 σ = some r → W p l e rmX7_rules s m args below meth c H locs 0 0 Q (F0 m 89 ls []) := by
    intro σ H locs ls hP hD hS hl hE
    unfold f_X7_rules_J89 at hE
    refine lv_iconst (v := (0 : Int32)) hx hb dX7_rules_89 (by decide) ?_
    exact J_90 (0 : Int32) σ _ _ _ hP hD hS (lv_sub hl [0, 1, 2] rfl) hE
  refine lv_iload_n hx hb dX7_rules_0 rfl (lv_at hl 1 rfl) ?_
  refine lv_if_ne (tgt := 14) hx hb dX7_rules_1 (by decide) (fun c_ => ?_) (fun c_ => ?_)
  · have hE := im c_ hE
    refine lv_iload_n hx hb dX7_rules_14 rfl (lv_at hl 1 rfl) ?_
    refine lv_iconst (v := (1 : Int32)) hx hb dX7_rules_15 (by decide) ?_
    refine lv_icmp_ne (tgt := 29) hx hb dX7_rules_16 (by decide) (fun c_ => ?_) (fun c_ => ?_)
    · have hE := im c_ hE
      refine lv_iload_n hx hb dX7_rules_29 rfl (lv_at hl 1 rfl) ?_
      refine lv_iconst (v := (2 : Int32)) hx hb dX7_rules_30 (by decide) ?_
      refine lv_icmp_eq (tgt := 39) hx hb dX7_rules_31 (by decide) (fun c_ => ?_) (fun c_ => ?_)
      · have hE := ip c_ hE
        exact J_39 σ _ _ _ hP hD hS (lv_sub hl [0, 1, 2] rfl) hE
      · have hE := im c_ hE
        refine lv_iload_n hx hb dX7_rules_34 rfl (lv_at hl 1 rfl) ?_
        refine lv_iconst (v := (3 : Int32)) hx hb dX7_rules_35 (by decide) ?_
        refine lv_icmp_ne (tgt := 50) hx hb dX7_rules_36 (by decide) (fun c_ => ?_) (fun c_ => ?_)
        · have hE := im c_ hE
          refine lv_iload_n hx hb dX7_rules_50 rfl (lv_at hl 1 rfl) ?_
          refine lv_bipush (v := (7 : Int32)) hx hb dX7_rules_51 (by decide) ?_
          refine lv_icmp_ne (tgt := 65) hx hb dX7_rules_53 (by decide) (fun c_ => ?_) (fun c_ => ?_)
          · have hE := im c_ hE
            refine lv_iload_n hx hb dX7_rules_65 rfl (lv_at hl 1 rfl) ?_
            refine lv_iconst (v := (4 : Int32)) hx hb dX7_rules_66 (by decide) ?_
            refine lv_bipush (v := (6 : Int32)) hx hb dX7_rules_67 (by decide) ?_
            obtain ⟨r3, hC, hE⟩ := bnd_some hE
            refine ci (va_runS (As := [.int x1, .int (4 : Int32), .int (6 : Int32)]) (rest := []) ⟨hx, hb, hml, hown, hts⟩ (c_X7_in l G x1 (4 : Int32) (6 : Int32) σ r3 hC _) (va_cwS 3 hts gX7_rules_X7_in rfl rfl rfl (by decide +kernel) ⟨Nat.le_of_ble_eq_true rfl, Nat.le_of_ble_eq_true rfl⟩) (preS hK hP hD hS hA hX) rfl rfl hl.1 rfl (lv_room (Nat.le_of_ble_eq_true rfl)) dX7_rules_69 ⟨Nat.le_of_ble_eq_true rfl, Nat.le_of_ble_eq_true rfl⟩) hD hS hA (fun H locs hP hD hS => ?_)
            refine lv_if_eq (tgt := 89) hx hb dX7_rules_72 (by decide) (fun c_ => ?_) (fun c_ => ?_)
            · have hE := ip c_ hE
              exact J_89 σ _ _ _ hP hD hS (lv_sub hl [0, 1, 2] rfl) hE
            · have hE := im c_ hE
              refine lv_iload_n hx hb dX7_rules_75 rfl (lv_at hl 2 rfl) ?_
              refine lv_iconst (v := (0 : Int32)) hx hb dX7_rules_76 (by decide) ?_
              refine lv_bipush (v := (99 : Int32)) hx hb dX7_rules_77 (by decide) ?_
              obtain ⟨r4, hC, hE⟩ := bnd_some hE
              refine ci (va_runS (As := [.int x2, .int (0 : Int32), .int (99 : Int32)]) (rest := []) ⟨hx, hb, hml, hown, hts⟩ (c_X7_in l G x2 (0 : Int32) (99 : Int32) σ r4 hC _) (va_cwS 3 hts gX7_rules_X7_in rfl rfl rfl (by decide +kernel) ⟨Nat.le_of_ble_eq_true rfl, Nat.le_of_ble_eq_true rfl⟩) (preS hK hP hD hS hA hX) rfl rfl hl.1 rfl (lv_room (Nat.le_of_ble_eq_true rfl)) dX7_rules_79 ⟨Nat.le_of_ble_eq_true rfl, Nat.le_of_ble_eq_true rfl⟩) hD hS hA (fun H locs hP hD hS => ?_)
              refine lv_if_eq (tgt := 89) hx hb dX7_rules_82 (by decide) (fun c_ => ?_) (fun c_ => ?_)
              · have hE := ip c_ hE
                exact J_89 σ _ _ _ hP hD hS (lv_sub hl [0, 1, 2] rfl) hE
              · have hE := im c_ hE
                refine lv_iconst (v := (1 : Int32)) hx hb dX7_rules_85 (by decide) ?_
                refine lv_goto (tgt := 90) hx hb dX7_rules_86 (by decide) ?_
                exact J_90 (1 : Int32) σ _ _ _ hP hD hS (lv_sub hl [0, 1, 2] rfl) hE
          · have hE := ip c_ hE
            refine lv_iload_n hx hb dX7_rules_56 rfl (lv_at hl 2 rfl) ?_
            refine lv_iconst (v := (0 : Int32)) hx hb dX7_rules_57 (by decide) ?_
            refine lv_iconst (v := (4 : Int32)) hx hb dX7_rules_58 (by decide) ?_
            obtain ⟨r5, hC, hE⟩ := bnd_some hE
            refine ci (va_runS (As := [.int x2, .int (0 : Int32), .int (4 : Int32)]) (rest := []) ⟨hx, hb, hml, hown, hts⟩ (c_X7_in l G x2 (0 : Int32) (4 : Int32) σ r5 hC _) (va_cwS 3 hts gX7_rules_X7_in rfl rfl rfl (by decide +kernel) ⟨Nat.le_of_ble_eq_true rfl, Nat.le_of_ble_eq_true rfl⟩) (preS hK hP hD hS hA hX) rfl rfl hl.1 rfl (lv_room (Nat.le_of_ble_eq_true rfl)) dX7_rules_59 ⟨Nat.le_of_ble_eq_true rfl, Nat.le_of_ble_eq_true rfl⟩) hD hS hA (fun H locs hP hD hS => ?_)
            refine lv_goto (tgt := 90) hx hb dX7_rules_62 (by decide) ?_
            exact J_90 r5 σ _ _ _ hP hD hS (lv_sub hl [0, 1, 2] rfl) hE
        · have hE := ip c_ hE
          exact J_39 σ _ _ _ hP hD hS (lv_sub hl [0, 1, 2] rfl) hE
    · have hE := ip c_ hE
      refine lv_iload_n hx hb dX7_rules_19 rfl (lv_at hl 2 rfl) ?_
      refine lv_iconst (v := (1 : Int32)) hx hb dX7_rules_20 (by decide) ?_
      refine lv_bipush (v := (10 : Int32)) hx hb dX7_rules_21 (by decide) ?_
      obtain ⟨r6, hC, hE⟩ := bnd_some hE
      refine ci (va_runS (As := [.int x2, .int (1 : Int32), .int (10 : Int32)]) (rest := []) ⟨hx, hb, hml, hown, hts⟩ (c_X7_in l G x2 (1 : Int32) (10 : Int32) σ r6 hC _) (va_cwS 3 hts gX7_rules_X7_in rfl rfl rfl (by decide +kernel) ⟨Nat.le_of_ble_eq_true rfl, Nat.le_of_ble_eq_true rfl⟩) (preS hK hP hD hS hA hX) rfl rfl hl.1 rfl (lv_room (Nat.le_of_ble_eq_true rfl)) dX7_rules_23 ⟨Nat.le_of_ble_eq_true rfl, Nat.le_of_ble_eq_true rfl⟩) hD hS hA (fun H locs hP hD hS => ?_)
      refine lv_goto (tgt := 90) hx hb dX7_rules_26 (by decide) ?_
      exact J_90 r6 σ _ _ _ hP hD hS (lv_sub hl [0, 1, 2] rfl) hE
  · have hE := ip c_ hE
    refine lv_iload_n hx hb dX7_rules_4 rfl (lv_at hl 2 rfl) ?_
    refine lv_iconst (v := (1 : Int32)) hx hb dX7_rules_5 (by decide) ?_
    refine lv_bipush (v := (8 : Int32)) hx hb dX7_rules_6 (by decide) ?_
    obtain ⟨r7, hC, hE⟩ := bnd_some hE
    refine ci (va_runS (As := [.int x2, .int (1 : Int32), .int (8 : Int32)]) (rest := []) ⟨hx, hb, hml, hown, hts⟩ (c_X7_in l G x2 (1 : Int32) (8 : Int32) σ r7 hC _) (va_cwS 3 hts gX7_rules_X7_in rfl rfl rfl (by decide +kernel) ⟨Nat.le_of_ble_eq_true rfl, Nat.le_of_ble_eq_true rfl⟩) (preS hK hP hD hS hA hX) rfl rfl hl.1 rfl (lv_room (Nat.le_of_ble_eq_true rfl)) dX7_rules_8 ⟨Nat.le_of_ble_eq_true rfl, Nat.le_of_ble_eq_true rfl⟩) hD hS hA (fun H locs hP hD hS => ?_)
    refine lv_goto (tgt := 90) hx hb dX7_rules_11 (by decide) ?_
    exact J_90 r7 σ _ _ _ hP hD hS (lv_sub hl [0, 1, 2] rfl) hE
abbrev rmX7_has : Room := { frames := 1, cells := 0, slots := 0, locals := 22 }

def f_X7_has (x1 x2 : Int32) (σ : St) : Option Int32 := gd (0 : Int32) 8 (bnd (f_X7_in ((x2 / (10 : Int32)) - (x1 / (10 : Int32))) (0 : Int32) ((rd σ 3 (0 : Int32)) - (1 : Int32))) (fun r1 => if r1 = 0 then (some (0 : Int32)) else (gd (1 : Int32) 8 (bnd (f_X7_in ((jrem x2 (10 : Int32)) - (jrem x1 (10 : Int32))) (0 : Int32) ((rd σ 3 (1 : Int32)) - (1 : Int32))) (fun r2 => if r2 = 0 then (some (0 : Int32)) else (some (1 : Int32)))))))
set_option maxHeartbeats 4000000 in
set_option maxRecDepth 100000 in
theorem c_X7_has (l : Launch) (G : EV)  (x1 x2 : Int32) (σ : St) (r : Int32) (hE : f_X7_has x1 x2 σ = some r) : MetI l G yX7_has wsX7_has rmX7_has [.ref (aD G 43), .int x1, .int x2] (wM G σ) r (wM G σ) := by
  refine Met.of0 (Qf := PI G r (wM G σ)) (cc := cX7_has) (maxL := 3) (ret := (some .boolean)) (by decide) rfl (Nat.le_of_ble_eq_true rfl) ?_
  intro p e s m below meth c args A hx hb hr hts hown hlocks hml hin0 hA hS hP hK hD hX ls hl
  have hl : lv_has ls 3 [(0, .ref (aD G 43)), (1, .int x1), (2, .int x2)] := hl
  generalize hQ : MQ below (PI G r (wM G σ) A) args s 0 0 A = Q
  unfold f_X7_has at hE
  refine lv_iload_n hx hb dX7_has_0 rfl (lv_at hl 2 rfl) ?_
  refine lv_bipush (v := (10 : Int32)) hx hb dX7_has_1 (by decide) ?_
  refine lv_idiv hx hb dX7_has_3 (by decide) ?_
  refine lv_iload_n hx hb dX7_has_4 rfl (lv_at hl 1 rfl) ?_
  refine lv_bipush (v := (10 : Int32)) hx hb dX7_has_5 (by decide) ?_
  refine lv_idiv hx hb dX7_has_7 (by decide) ?_
  refine lv_isub hx hb dX7_has_8 ?_
  refine lv_iconst (v := (0 : Int32)) hx hb dX7_has_9 (by decide) ?_
  refine lv_aload_n hx hb dX7_has_10 rfl (lv_at hl 0 rfl) ?_
  refine va_get (ci := 7) (v := .ref (aD G 33)) (C := RX7) (T := TX7) (N := 17) hx hb hts (fun _ h => List.mem_cons_of_mem _ (List.mem_append_right _ h)) hown hK hP 13 rfl rfl 4 (by decide) (hts (.fieldLink RX7 19 "FillCellsModel" "rules" "[I") (List.mem_of_getElem? (i := 1) rfl)) (fun _ h9 => h9) rfl dX7_has_11 ?_
  refine lv_iconst (v := (0 : Int32)) hx hb dX7_has_14 (by decide) ?_
  obtain ⟨h_i, hE⟩ := gd_some hE
  refine ldM hx hb hK hP 3 (by decide) h_i dX7_has_15 ?_
  refine lv_iconst (v := (1 : Int32)) hx hb dX7_has_16 (by decide) ?_
  refine lv_isub hx hb dX7_has_17 ?_
  obtain ⟨r1, hC, hE⟩ := bnd_some hE
  refine ci (va_runS (As := [.int ((x2 / (10 : Int32)) - (x1 / (10 : Int32))), .int (0 : Int32), .int ((rd σ 3 (0 : Int32)) - (1 : Int32))]) (rest := []) ⟨hx, hb, hml, hown, hts⟩ (c_X7_in l G ((x2 / (10 : Int32)) - (x1 / (10 : Int32))) (0 : Int32) ((rd σ 3 (0 : Int32)) - (1 : Int32)) σ r1 hC _) (va_cwS 3 hts gX7_has_X7_in rfl rfl rfl (by decide +kernel) ⟨Nat.le_of_ble_eq_true rfl, Nat.le_of_ble_eq_true rfl⟩) (preS hK hP hD hS hA hX) rfl rfl hl.1 rfl (lv_room (Nat.le_of_ble_eq_true rfl)) dX7_has_18 ⟨Nat.le_of_ble_eq_true rfl, Nat.le_of_ble_eq_true rfl⟩) hD hS hA (fun H locs hP hD hS => ?_)
  refine lv_if_eq (tgt := 52) hx hb dX7_has_21 (by decide) (fun c_ => ?_) (fun c_ => ?_)
  · have hE := ip c_ hE
    refine lv_iconst (v := (0 : Int32)) hx hb dX7_has_52 (by decide) ?_
    rw [← hQ, ← Option.some.inj hE]
    exact rz (v := (0 : Int32)) hx hb hr hlocks hK hP hD hS rfl dX7_has_53
  · have hE := im c_ hE
    refine lv_iload_n hx hb dX7_has_24 rfl (lv_at hl 2 rfl) ?_
    refine lv_bipush (v := (10 : Int32)) hx hb dX7_has_25 (by decide) ?_
    refine lv_irem hx hb dX7_has_27 (by decide) ?_
    refine lv_iload_n hx hb dX7_has_28 rfl (lv_at hl 1 rfl) ?_
    refine lv_bipush (v := (10 : Int32)) hx hb dX7_has_29 (by decide) ?_
    refine lv_irem hx hb dX7_has_31 (by decide) ?_
    refine lv_isub hx hb dX7_has_32 ?_
    refine lv_iconst (v := (0 : Int32)) hx hb dX7_has_33 (by decide) ?_
    refine lv_aload_n hx hb dX7_has_34 rfl (lv_at hl 0 rfl) ?_
    refine va_get (ci := 7) (v := .ref (aD G 33)) (C := RX7) (T := TX7) (N := 17) hx hb hts (fun _ h => List.mem_cons_of_mem _ (List.mem_append_right _ h)) hown hK hP 13 rfl rfl 4 (by decide) (hts (.fieldLink RX7 19 "FillCellsModel" "rules" "[I") (List.mem_of_getElem? (i := 1) rfl)) (fun _ h9 => h9) rfl dX7_has_35 ?_
    refine lv_iconst (v := (1 : Int32)) hx hb dX7_has_38 (by decide) ?_
    obtain ⟨h_i, hE⟩ := gd_some hE
    refine ldM hx hb hK hP 3 (by decide) h_i dX7_has_39 ?_
    refine lv_iconst (v := (1 : Int32)) hx hb dX7_has_40 (by decide) ?_
    refine lv_isub hx hb dX7_has_41 ?_
    obtain ⟨r2, hC, hE⟩ := bnd_some hE
    refine ci (va_runS (As := [.int ((jrem x2 (10 : Int32)) - (jrem x1 (10 : Int32))), .int (0 : Int32), .int ((rd σ 3 (1 : Int32)) - (1 : Int32))]) (rest := []) ⟨hx, hb, hml, hown, hts⟩ (c_X7_in l G ((jrem x2 (10 : Int32)) - (jrem x1 (10 : Int32))) (0 : Int32) ((rd σ 3 (1 : Int32)) - (1 : Int32)) σ r2 hC _) (va_cwS 3 hts gX7_has_X7_in rfl rfl rfl (by decide +kernel) ⟨Nat.le_of_ble_eq_true rfl, Nat.le_of_ble_eq_true rfl⟩) (preS hK hP hD hS hA hX) rfl rfl hl.1 rfl (lv_room (Nat.le_of_ble_eq_true rfl)) dX7_has_42 ⟨Nat.le_of_ble_eq_true rfl, Nat.le_of_ble_eq_true rfl⟩) hD hS hA (fun H locs hP hD hS => ?_)
    refine lv_if_eq (tgt := 52) hx hb dX7_has_45 (by decide) (fun c_ => ?_) (fun c_ => ?_)
    · have hE := ip c_ hE
      refine lv_iconst (v := (0 : Int32)) hx hb dX7_has_52 (by decide) ?_
      rw [← hQ, ← Option.some.inj hE]
      exact rz (v := (0 : Int32)) hx hb hr hlocks hK hP hD hS rfl dX7_has_53
    · have hE := im c_ hE
      refine lv_iconst (v := (1 : Int32)) hx hb dX7_has_48 (by decide) ?_
      refine lv_goto (tgt := 53) hx hb dX7_has_49 (by decide) ?_
      rw [← hQ, ← Option.some.inj hE]
      exact rz (v := (1 : Int32)) hx hb hr hlocks hK hP hD hS rfl dX7_has_53
abbrev rmX7_isWindow : Room := { frames := 0, cells := 0, slots := 0, locals := 0 }

def f_X7_isWindow (x1 : Int32) (σ : St) : Option Int32 := gd (0 : Int32) 8 (if (8 : Int32) < ((x1 / (10 : Int32)) + (rd σ 3 (0 : Int32))) then (some (0 : Int32)) else (gd (1 : Int32) 8 (if (10 : Int32) < ((jrem x1 (10 : Int32)) + (rd σ 3 (1 : Int32))) then (some (0 : Int32)) else (some (1 : Int32)))))
set_option maxHeartbeats 4000000 in
set_option maxRecDepth 100000 in
theorem c_X7_isWindow (l : Launch) (G : EV)  (x1 : Int32) (σ : St) (r : Int32) (hE : f_X7_isWindow x1 σ = some r) : MetI l G yX7_isWindow wsX7_isWindow rmX7_isWindow [.ref (aD G 43), .int x1] (wM G σ) r (wM G σ) := by
  refine Met.of0 (Qf := PI G r (wM G σ)) (cc := cX7_isWindow) (maxL := 2) (ret := (some .boolean)) (by decide) rfl (Nat.le_of_ble_eq_true rfl) ?_
  intro p e s m below meth c args A hx hb hr hts hown hlocks hml hin0 hA hS hP hK hD hX ls hl
  have hl : lv_has ls 2 [(0, .ref (aD G 43)), (1, .int x1)] := hl
  generalize hQ : MQ below (PI G r (wM G σ) A) args s 0 0 A = Q
  unfold f_X7_isWindow at hE
  refine lv_iload_n hx hb dX7_isWindow_0 rfl (lv_at hl 1 rfl) ?_
  refine lv_bipush (v := (10 : Int32)) hx hb dX7_isWindow_1 (by decide) ?_
  refine lv_idiv hx hb dX7_isWindow_3 (by decide) ?_
  refine lv_aload_n hx hb dX7_isWindow_4 rfl (lv_at hl 0 rfl) ?_
  refine va_get (ci := 7) (v := .ref (aD G 33)) (C := RX7) (T := TX7) (N := 17) hx hb hts (fun _ h => List.mem_cons_of_mem _ (List.mem_append_right _ h)) hown hK hP 13 rfl rfl 4 (by decide) (hts (.fieldLink RX7 19 "FillCellsModel" "rules" "[I") (List.mem_of_getElem? (i := 1) rfl)) (fun _ h9 => h9) rfl dX7_isWindow_5 ?_
  refine lv_iconst (v := (0 : Int32)) hx hb dX7_isWindow_8 (by decide) ?_
  obtain ⟨h_i, hE⟩ := gd_some hE
  refine ldM hx hb hK hP 3 (by decide) h_i dX7_isWindow_9 ?_
  refine lv_iadd hx hb dX7_isWindow_10 ?_
  refine lv_bipush (v := (8 : Int32)) hx hb dX7_isWindow_11 (by decide) ?_
  refine lv_icmp_gt (tgt := 36) hx hb dX7_isWindow_13 (by decide) (fun c_ => ?_) (fun c_ => ?_)
  · have hE := ip c_ hE
    refine lv_iconst (v := (0 : Int32)) hx hb dX7_isWindow_36 (by decide) ?_
    rw [← hQ, ← Option.some.inj hE]
    exact rz (v := (0 : Int32)) hx hb hr hlocks hK hP hD hS rfl dX7_isWindow_37
  · have hE := im c_ hE
    refine lv_iload_n hx hb dX7_isWindow_16 rfl (lv_at hl 1 rfl) ?_
    refine lv_bipush (v := (10 : Int32)) hx hb dX7_isWindow_17 (by decide) ?_
    refine lv_irem hx hb dX7_isWindow_19 (by decide) ?_
    refine lv_aload_n hx hb dX7_isWindow_20 rfl (lv_at hl 0 rfl) ?_
    refine va_get (ci := 7) (v := .ref (aD G 33)) (C := RX7) (T := TX7) (N := 17) hx hb hts (fun _ h => List.mem_cons_of_mem _ (List.mem_append_right _ h)) hown hK hP 13 rfl rfl 4 (by decide) (hts (.fieldLink RX7 19 "FillCellsModel" "rules" "[I") (List.mem_of_getElem? (i := 1) rfl)) (fun _ h9 => h9) rfl dX7_isWindow_21 ?_
    refine lv_iconst (v := (1 : Int32)) hx hb dX7_isWindow_24 (by decide) ?_
    obtain ⟨h_i, hE⟩ := gd_some hE
    refine ldM hx hb hK hP 3 (by decide) h_i dX7_isWindow_25 ?_
    refine lv_iadd hx hb dX7_isWindow_26 ?_
    refine lv_bipush (v := (10 : Int32)) hx hb dX7_isWindow_27 (by decide) ?_
    refine lv_icmp_gt (tgt := 36) hx hb dX7_isWindow_29 (by decide) (fun c_ => ?_) (fun c_ => ?_)
    · have hE := ip c_ hE
      refine lv_iconst (v := (0 : Int32)) hx hb dX7_isWindow_36 (by decide) ?_
      rw [← hQ, ← Option.some.inj hE]
      exact rz (v := (0 : Int32)) hx hb hr hlocks hK hP hD hS rfl dX7_isWindow_37
    · have hE := im c_ hE
      refine lv_iconst (v := (1 : Int32)) hx hb dX7_isWindow_32 (by decide) ?_
      refine lv_goto (tgt := 37) hx hb dX7_isWindow_33 (by decide) ?_
      rw [← hQ, ← Option.some.inj hE]
      exact rz (v := (1 : Int32)) hx hb hr hlocks hK hP hD hS rfl dX7_isWindow_37
abbrev rmX7_laysSums : Room := { frames := 1, cells := 0, slots := 0, locals := 21 }
def f_X7_laysSums_J87 (x1 : Int32) (σ : St) : Option (((St)) ⊕ (Int32 × St)) := some (.inr ((x1 + (1 : Int32)), σ))
def f_X7_laysSums_J81 (x1 : Int32) (x2 : Int32) (σ : St) : Option (((St)) ⊕ (Int32 × St)) := some (.inr ((x2 + (1 : Int32)), σ))
def f_X7_laysSums_L44 (x1 : Int32) (x2 : Int32) (v44 : Int32 × St) : Option (((St)) ⊕ (Int32 × St)) := gd (1 : Int32) 8 (if (rd v44.2 3 (1 : Int32)) ≤ v44.1 then (some (.inl (v44.2))) else (gd x1 80 (bnd (f_X7_sumOf ((x1 + ((10 : Int32) * x2)) + v44.1) v44.2) (fun r2 => gd x1 80 (some (.inr ((v44.1 + (1 : Int32)), (sA v44.2 6 x1 ((rd v44.2 6 x1) + r2)))))))))
def f_X7_laysSums_J44 (x1 : Int32) (x2 : Int32) (x3 : Int32) (σ : St) : Option (((St)) ⊕ (Int32 × St)) := bnd (loopN (f_X7_laysSums_L44 x1 x2) 4096 (x3, σ)) (fun y44 => f_X7_laysSums_J81 x1 x2 y44)
def f_X7_laysSums_L32 (x1 : Int32) (v32 : Int32 × St) : Option (((St)) ⊕ (Int32 × St)) := gd (0 : Int32) 8 (if (rd v32.2 3 (0 : Int32)) ≤ v32.1 then (some (.inl (v32.2))) else (f_X7_laysSums_J44 x1 v32.1 (0 : Int32) v32.2))
def f_X7_laysSums_J32 (x1 : Int32) (x2 : Int32) (σ : St) : Option (((St)) ⊕ (Int32 × St)) := bnd (loopN (f_X7_laysSums_L32 x1) 4096 (x2, σ)) (fun y32 => f_X7_laysSums_J87 x1 y32)
def f_X7_laysSums_L2  (v2 : Int32 × St) : Option (((St)) ⊕ (Int32 × St)) := if (80 : Int32) ≤ v2.1 then (some (.inl (v2.2))) else (gd v2.1 80 (bnd (f_X7_isWindow v2.1 (sA v2.2 6 v2.1 (-1 : Int32))) (fun r1 => if r1 = 0 then (f_X7_laysSums_J87 v2.1 (sA v2.2 6 v2.1 (-1 : Int32))) else (gd v2.1 80 (f_X7_laysSums_J32 v2.1 (0 : Int32) (sA (sA v2.2 6 v2.1 (-1 : Int32)) 6 v2.1 (0 : Int32)))))))
def f_X7_laysSums_J2 (x1 : Int32) (σ : St) : Option St := bnd (loopN (f_X7_laysSums_L2 ) 4096 (x1, σ)) (fun y2 => some y2)
def f_X7_laysSums (σ : St) : Option St := f_X7_laysSums_J2 (0 : Int32) σ
set_option maxHeartbeats 4000000 in
set_option maxRecDepth 100000 in
theorem c_X7_laysSums (l : Launch) (G : EV)   (σ : St) (r : St) (hE : f_X7_laysSums σ = some r) : MetV l G yX7_laysSums wsX7_laysSums rmX7_laysSums [.ref (aD G 43)] (wM G σ) (wM G r) := by
  refine Met.of0 (Qf := PV G (wM G r)) (cc := cX7_laysSums) (maxL := 4) (ret := none) (by decide) rfl (Nat.le_of_ble_eq_true rfl) ?_
  intro p e s m below meth c args A hx hb hr hts hown hlocks hml hin0 hA hS hP hK hD hX ls hl
  have hl : lv_has ls 4 [(0, .ref (aD G 43))] := hl
  generalize hQ : MQ below (PV G (wM G r) A) args s 0 0 A = Q
  unfold f_X7_laysSums at hE
  have J_2 : ∀ (x1 : Int32) (σ : St) (H : Heap) (locs : List Loc) (ls : Array Slot), va_P G.1 vwCl (wM G σ) H → va_D A (wM G σ) → va_S A s.heap H locs → lv_has ls 4 [(0, .ref (aD G 43)), (1, .int x1)] → f_X7_laysSums_J2 x1 σ = some r → W p l e rmX7_laysSums s m args below meth c H locs 0 0 Q (F0 m 2 ls []) := by
    intro x1 σ H locs ls hP hD hS hl hE
    unfold f_X7_laysSums_J2 at hE
    obtain ⟨y2, hL, hE2⟩ := bnd_some hE
    refine loop_W (body := f_X7_laysSums_L2 ) (y := y2) (P := fun v2 => ∀ (H : Heap) (locs : List Loc) (ls : Array Slot), va_P G.1 vwCl (wM G v2.2) H → va_D A (wM G v2.2) → va_S A s.heap H locs → lv_has ls 4 [(0, .ref (aD G 43)), (1, .int v2.1)] → W p l e rmX7_laysSums s m args below meth c H locs 0 0 Q (F0 m 2 ls [])) ?_ _ _ hL H locs ls hP hD hS hl
    clear hP hD hS hl hE hL
    intro v2 t2 hE hN2 hY2
    intro H locs ls hP hD hS hl
    unfold f_X7_laysSums_L2 at hE
    have J_87 : ∀ (x1 : Int32) (σ : St) (H : Heap) (locs : List Loc) (ls : Array Slot), va_P G.1 vwCl (wM G σ) H → va_D A (wM G σ) → va_S A s.heap H locs → lv_has ls 4 [(0, .ref (aD G 43)), (1, .int x1)] → f_X7_laysSums_J87 x1 σ = some t2 → W p l e rmX7_laysSums s m args below meth c H locs 0 0 Q (F0 m 87 ls []) := by
      intro x1 σ H locs ls hP hD hS hl hE
      unfold f_X7_laysSums_J87 at hE
      refine lv_iinc (v := (x1 + (1 : Int32))) (lv' := [(1, .int (x1 + (1 : Int32))), (0, .ref (aD G 43))]) hx hb dX7_laysSums_87 hl (k := 1) rfl rfl (by decide) rfl (fun ls hl => ?_)
      refine lv_goto (tgt := 2) hx hb dX7_laysSums_90 (by decide) ?_
      exact hN2 _ (Option.some.inj hE).symm _ _ _ hP hD hS (lv_sub hl [1, 0] rfl)
    have J_32 : ∀ (x1 : Int32) (x2 : Int32) (σ : St) (H : Heap) (locs : List Loc) (ls : Array Slot), va_P G.1 vwCl (wM G σ) H → va_D A (wM G σ) → va_S A s.heap H locs → lv_has ls 4 [(0, .ref (aD G 43)), (1, .int x1), (2, .int x2)] → f_X7_laysSums_J32 x1 x2 σ = some t2 → W p l e rmX7_laysSums s m args below meth c H locs 0 0 Q (F0 m 32 ls []) := by
      intro x1 x2 σ H locs ls hP hD hS hl hE
      unfold f_X7_laysSums_J32 at hE
      obtain ⟨y32, hL, hE32⟩ := bnd_some hE
      refine loop_W (body := f_X7_laysSums_L32 x1) (y := y32) (P := fun v32 => ∀ (H : Heap) (locs : List Loc) (ls : Array Slot), va_P G.1 vwCl (wM G v32.2) H → va_D A (wM G v32.2) → va_S A s.heap H locs → lv_has ls 4 [(0, .ref (aD G 43)), (1, .int x1), (2, .int v32.1)] → W p l e rmX7_laysSums s m args below meth c H locs 0 0 Q (F0 m 32 ls [])) ?_ _ _ hL H locs ls hP hD hS hl
      clear hP hD hS hl hE hL
      intro v32 t32 hE hN32 hY32
      intro H locs ls hP hD hS hl
      unfold f_X7_laysSums_L32 at hE
      have J_81 : ∀ (x2 : Int32) (σ : St) (H : Heap) (locs : List Loc) (ls : Array Slot), va_P G.1 vwCl (wM G σ) H → va_D A (wM G σ) → va_S A s.heap H locs → lv_has ls 4 [(0, .ref (aD G 43)), (1, .int x1), (2, .int x2)] → f_X7_laysSums_J81 x1 x2 σ = some t32 → W p l e rmX7_laysSums s m args below meth c H locs 0 0 Q (F0 m 81 ls []) := by
        intro x2 σ H locs ls hP hD hS hl hE
        unfold f_X7_laysSums_J81 at hE
        refine lv_iinc (v := (x2 + (1 : Int32))) (lv' := [(2, .int (x2 + (1 : Int32))), (0, .ref (aD G 43)), (1, .int x1)]) hx hb dX7_laysSums_81 hl (k := 2) rfl rfl (by decide) rfl (fun ls hl => ?_)
        refine lv_goto (tgt := 32) hx hb dX7_laysSums_84 (by decide) ?_
        exact hN32 _ (Option.some.inj hE).symm _ _ _ hP hD hS (lv_sub hl [1, 2, 0] rfl)
      have J_44 : ∀ (x2 : Int32) (x3 : Int32) (σ : St) (H : Heap) (locs : List Loc) (ls : Array Slot), va_P G.1 vwCl (wM G σ) H → va_D A (wM G σ) → va_S A s.heap H locs → lv_has ls 4 [(0, .ref (aD G 43)), (1, .int x1), (2, .int x2), (3, .int x3)] → f_X7_laysSums_J44 x1 x2 x3 σ = some t32 → W p l e rmX7_laysSums s m args below meth c H locs 0 0 Q (F0 m 44 ls []) := by
        intro x2 x3 σ H locs ls hP hD hS hl hE
        unfold f_X7_laysSums_J44 at hE
        obtain ⟨y44, hL, hE44⟩ := bnd_some hE
        refine loop_W (body := f_X7_laysSums_L44 x1 x2) (y := y44) (P := fun v44 => ∀ (H : Heap) (locs : List Loc) (ls : Array Slot), va_P G.1 vwCl (wM G v44.2) H → va_D A (wM G v44.2) → va_S A s.heap H locs → lv_has ls 4 [(0, .ref (aD G 43)), (1, .int x1), (2, .int x2), (3, .int v44.1)] → W p l e rmX7_laysSums s m args below meth c H locs 0 0 Q (F0 m 44 ls [])) ?_ _ _ hL H locs ls hP hD hS hl
        clear hP hD hS hl hE hL
        intro v44 t44 hE hN44 hY44
        intro H locs ls hP hD hS hl
        unfold f_X7_laysSums_L44 at hE
        refine lv_iload_n hx hb dX7_laysSums_44 rfl (lv_at hl 3 rfl) ?_
        refine lv_aload_n hx hb dX7_laysSums_45 rfl (lv_at hl 0 rfl) ?_
        refine va_get (ci := 7) (v := .ref (aD G 33)) (C := RX7) (T := TX7) (N := 17) hx hb hts (fun _ h => List.mem_cons_of_mem _ (List.mem_append_right _ h)) hown hK hP 13 rfl rfl 4 (by decide) (hts (.fieldLink RX7 19 "FillCellsModel" "rules" "[I") (List.mem_of_getElem? (i := 2) rfl)) (fun _ h9 => h9) rfl dX7_laysSums_46 ?_
        refine lv_iconst (v := (1 : Int32)) hx hb dX7_laysSums_49 (by decide) ?_
        obtain ⟨h_i, hE⟩ := gd_some hE
        refine ldM hx hb hK hP 3 (by decide) h_i dX7_laysSums_50 ?_
        refine lv_icmp_ge (tgt := 81) hx hb dX7_laysSums_51 (by decide) (fun c_ => ?_) (fun c_ => ?_)
        · have hE := ip c_ hE
          have e9 := hY44 _ (Option.some.inj hE).symm
          have hE := hE44
          rw [← e9] at hE
          exact J_81 x2 v44.2 _ _ _ hP hD hS (lv_sub hl [0, 1, 2] rfl) hE
        · have hE := im c_ hE
          refine lv_aload_n hx hb dX7_laysSums_54 rfl (lv_at hl 0 rfl) ?_
          refine va_get (ci := 7) (v := .ref (aD G 36)) (C := RX7) (T := TX7) (N := 17) hx hb hts (fun _ h => List.mem_cons_of_mem _ (List.mem_append_right _ h)) hown hK hP 13 rfl rfl 9 (by decide) (hts (.fieldLink RX7 28 "FillCellsModel" "sums" "[I") (List.mem_of_getElem? (i := 1) rfl)) (fun _ h9 => h9) rfl dX7_laysSums_55 ?_
          refine lv_iload_n hx hb dX7_laysSums_58 rfl (lv_at hl 1 rfl) ?_
          refine lv_dup2_11 hx hb dX7_laysSums_59 rfl rfl ?_
          obtain ⟨h_i, hE⟩ := gd_some hE
          refine ldM hx hb hK hP 6 (by decide) h_i dX7_laysSums_60 ?_
          refine lv_aload_n hx hb dX7_laysSums_61 rfl (lv_at hl 0 rfl) ?_
          refine lv_iload_n hx hb dX7_laysSums_62 rfl (lv_at hl 1 rfl) ?_
          refine lv_bipush (v := (10 : Int32)) hx hb dX7_laysSums_63 (by decide) ?_
          refine lv_iload_n hx hb dX7_laysSums_65 rfl (lv_at hl 2 rfl) ?_
          refine lv_imul hx hb dX7_laysSums_66 ?_
          refine lv_iadd hx hb dX7_laysSums_67 ?_
          refine lv_iload_n hx hb dX7_laysSums_68 rfl (lv_at hl 3 rfl) ?_
          refine lv_iadd hx hb dX7_laysSums_69 ?_
          obtain ⟨r2, hC, hE⟩ := bnd_some hE
          refine ci (va_runV (As := [.int ((x1 + ((10 : Int32) * x2)) + v44.1)]) (rest := [.int (rd v44.2 6 x1), .int x1, .ref (aD G 36)]) ⟨hx, hb, hml, hown, hts⟩ (c_X7_sumOf l G ((x1 + ((10 : Int32) * x2)) + v44.1) v44.2 r2 hC _) (cwV 1 hts gX7_laysSums_X7_sumOf rfl rfl rfl (by decide +kernel) ⟨Nat.le_of_ble_eq_true rfl, Nat.le_of_ble_eq_true rfl⟩) (preV hK hP hD hS hA hX (va_recv hK hP (ci := 7) (q0 := 13) rfl rfl)) rfl rfl hl.1 rfl (lv_room (Nat.le_of_ble_eq_true rfl)) dX7_laysSums_70 ⟨Nat.le_of_ble_eq_true rfl, Nat.le_of_ble_eq_true rfl⟩) hD hS hA (fun H locs hP hD hS => ?_)
          refine lv_iadd hx hb dX7_laysSums_73 ?_
          obtain ⟨h_i, hE⟩ := gd_some hE
          refine stM hx hb hK hP hD hS 6 (by decide) h_i dX7_laysSums_74 (fun H locs hP hD hS => ?_)
          refine lv_iinc (v := (v44.1 + (1 : Int32))) (lv' := [(3, .int (v44.1 + (1 : Int32))), (0, .ref (aD G 43)), (1, .int x1), (2, .int x2)]) hx hb dX7_laysSums_75 hl (k := 3) rfl rfl (by decide) rfl (fun ls hl => ?_)
          refine lv_goto (tgt := 44) hx hb dX7_laysSums_78 (by decide) ?_
          exact hN44 _ (Option.some.inj hE).symm _ _ _ hP hD hS (lv_sub hl [1, 2, 3, 0] rfl)
      refine lv_iload_n hx hb dX7_laysSums_32 rfl (lv_at hl 2 rfl) ?_
      refine lv_aload_n hx hb dX7_laysSums_33 rfl (lv_at hl 0 rfl) ?_
      refine va_get (ci := 7) (v := .ref (aD G 33)) (C := RX7) (T := TX7) (N := 17) hx hb hts (fun _ h => List.mem_cons_of_mem _ (List.mem_append_right _ h)) hown hK hP 13 rfl rfl 4 (by decide) (hts (.fieldLink RX7 19 "FillCellsModel" "rules" "[I") (List.mem_of_getElem? (i := 2) rfl)) (fun _ h9 => h9) rfl dX7_laysSums_34 ?_
      refine lv_iconst (v := (0 : Int32)) hx hb dX7_laysSums_37 (by decide) ?_
      obtain ⟨h_i, hE⟩ := gd_some hE
      refine ldM hx hb hK hP 3 (by decide) h_i dX7_laysSums_38 ?_
      refine lv_icmp_ge (tgt := 87) hx hb dX7_laysSums_39 (by decide) (fun c_ => ?_) (fun c_ => ?_)
      · have hE := ip c_ hE
        have e9 := hY32 _ (Option.some.inj hE).symm
        have hE := hE32
        rw [← e9] at hE
        exact J_87 x1 v32.2 _ _ _ hP hD hS (lv_sub hl [0, 1] rfl) hE
      · have hE := im c_ hE
        refine lv_iconst (v := (0 : Int32)) hx hb dX7_laysSums_42 (by decide) ?_
        refine lv_istore_n (lv' := [(3, .int (0 : Int32)), (0, .ref (aD G 43)), (1, .int x1), (2, .int v32.1)]) hx hb dX7_laysSums_43 rfl hl (by decide) rfl (fun ls hl => ?_)
        exact J_44 v32.1 (0 : Int32) v32.2 _ _ _ hP hD hS (lv_sub hl [1, 2, 3, 0] rfl) hE
    refine lv_iload_n hx hb dX7_laysSums_2 rfl (lv_at hl 1 rfl) ?_
    refine lv_bipush (v := (80 : Int32)) hx hb dX7_laysSums_3 (by decide) ?_
    refine lv_icmp_ge (tgt := 93) hx hb dX7_laysSums_5 (by decide) (fun c_ => ?_) (fun c_ => ?_)
    · have hE := ip c_ hE
      have e9 := hY2 _ (Option.some.inj hE).symm
      have hE := hE2
      rw [← e9] at hE
      rw [← hQ, ← Option.some.inj hE]
      exact rv hx hb hr hlocks hK hP hD hS dX7_laysSums_93
    · have hE := im c_ hE
      refine lv_aload_n hx hb dX7_laysSums_8 rfl (lv_at hl 0 rfl) ?_
      refine va_get (ci := 7) (v := .ref (aD G 36)) (C := RX7) (T := TX7) (N := 17) hx hb hts (fun _ h => List.mem_cons_of_mem _ (List.mem_append_right _ h)) hown hK hP 13 rfl rfl 9 (by decide) (hts (.fieldLink RX7 28 "FillCellsModel" "sums" "[I") (List.mem_of_getElem? (i := 1) rfl)) (fun _ h9 => h9) rfl dX7_laysSums_9 ?_
      refine lv_iload_n hx hb dX7_laysSums_12 rfl (lv_at hl 1 rfl) ?_
      refine lv_iconst (v := (-1 : Int32)) hx hb dX7_laysSums_13 (by decide) ?_
      obtain ⟨h_i, hE⟩ := gd_some hE
      refine stM hx hb hK hP hD hS 6 (by decide) h_i dX7_laysSums_14 (fun H locs hP hD hS => ?_)
      refine lv_aload_n hx hb dX7_laysSums_15 rfl (lv_at hl 0 rfl) ?_
      refine lv_iload_n hx hb dX7_laysSums_16 rfl (lv_at hl 1 rfl) ?_
      obtain ⟨r1, hC, hE⟩ := bnd_some hE
      refine ci (va_runV (As := [.int v2.1]) (rest := []) ⟨hx, hb, hml, hown, hts⟩ (c_X7_isWindow l G v2.1 (sA v2.2 6 v2.1 (-1 : Int32)) r1 hC _) (cwV 1 hts gX7_laysSums_X7_isWindow rfl rfl rfl (by decide +kernel) ⟨Nat.le_of_ble_eq_true rfl, Nat.le_of_ble_eq_true rfl⟩) (preV hK hP hD hS hA hX (va_recv hK hP (ci := 7) (q0 := 13) rfl rfl)) rfl rfl hl.1 rfl (lv_room (Nat.le_of_ble_eq_true rfl)) dX7_laysSums_17 ⟨Nat.le_of_ble_eq_true rfl, Nat.le_of_ble_eq_true rfl⟩) hD hS hA (fun H locs hP hD hS => ?_)
      refine lv_if_eq (tgt := 87) hx hb dX7_laysSums_20 (by decide) (fun c_ => ?_) (fun c_ => ?_)
      · have hE := ip c_ hE
        exact J_87 v2.1 (sA v2.2 6 v2.1 (-1 : Int32)) _ _ _ hP hD hS (lv_sub hl [0, 1] rfl) hE
      · have hE := im c_ hE
        refine lv_aload_n hx hb dX7_laysSums_23 rfl (lv_at hl 0 rfl) ?_
        refine va_get (ci := 7) (v := .ref (aD G 36)) (C := RX7) (T := TX7) (N := 17) hx hb hts (fun _ h => List.mem_cons_of_mem _ (List.mem_append_right _ h)) hown hK hP 13 rfl rfl 9 (by decide) (hts (.fieldLink RX7 28 "FillCellsModel" "sums" "[I") (List.mem_of_getElem? (i := 1) rfl)) (fun _ h9 => h9) rfl dX7_laysSums_24 ?_
        refine lv_iload_n hx hb dX7_laysSums_27 rfl (lv_at hl 1 rfl) ?_
        refine lv_iconst (v := (0 : Int32)) hx hb dX7_laysSums_28 (by decide) ?_
        obtain ⟨h_i, hE⟩ := gd_some hE
        refine stM hx hb hK hP hD hS 6 (by decide) h_i dX7_laysSums_29 (fun H locs hP hD hS => ?_)
        refine lv_iconst (v := (0 : Int32)) hx hb dX7_laysSums_30 (by decide) ?_
        refine lv_istore_n (lv' := [(2, .int (0 : Int32)), (0, .ref (aD G 43)), (1, .int v2.1)]) hx hb dX7_laysSums_31 rfl hl (by decide) rfl (fun ls hl => ?_)
        exact J_32 v2.1 (0 : Int32) (sA (sA v2.2 6 v2.1 (-1 : Int32)) 6 v2.1 (0 : Int32)) _ _ _ hP hD hS (lv_sub hl [1, 2, 0] rfl) hE
  refine lv_iconst (v := (0 : Int32)) hx hb dX7_laysSums_0 (by decide) ?_
  refine lv_istore_n (lv' := [(1, .int (0 : Int32)), (0, .ref (aD G 43))]) hx hb dX7_laysSums_1 rfl hl (by decide) rfl (fun ls hl => ?_)
  exact J_2 (0 : Int32) σ _ _ _ hP hD hS (lv_sub hl [1, 0] rfl) hE
abbrev rmX7_isThin : Room := { frames := 0, cells := 0, slots := 0, locals := 0 }

def f_X7_isThin (x1 : Int32) (σ : St) : Option Int32 := gd x1 80 (if (rd σ 6 x1) < 0 then (some (0 : Int32)) else (gd x1 80 (gd (2 : Int32) 8 (if (rd σ 3 (2 : Int32)) ≤ (rd σ 6 x1) then (some (0 : Int32)) else (some (1 : Int32))))))
set_option maxHeartbeats 4000000 in
set_option maxRecDepth 100000 in
theorem c_X7_isThin (l : Launch) (G : EV)  (x1 : Int32) (σ : St) (r : Int32) (hE : f_X7_isThin x1 σ = some r) : MetI l G yX7_isThin wsX7_isThin rmX7_isThin [.ref (aD G 43), .int x1] (wM G σ) r (wM G σ) := by
  refine Met.of0 (Qf := PI G r (wM G σ)) (cc := cX7_isThin) (maxL := 2) (ret := (some .boolean)) (by decide) rfl (Nat.le_of_ble_eq_true rfl) ?_
  intro p e s m below meth c args A hx hb hr hts hown hlocks hml hin0 hA hS hP hK hD hX ls hl
  have hl : lv_has ls 2 [(0, .ref (aD G 43)), (1, .int x1)] := hl
  generalize hQ : MQ below (PI G r (wM G σ) A) args s 0 0 A = Q
  unfold f_X7_isThin at hE
  refine lv_aload_n hx hb dX7_isThin_0 rfl (lv_at hl 0 rfl) ?_
  refine va_get (ci := 7) (v := .ref (aD G 36)) (C := RX7) (T := TX7) (N := 17) hx hb hts (fun _ h => List.mem_cons_of_mem _ (List.mem_append_right _ h)) hown hK hP 13 rfl rfl 9 (by decide) (hts (.fieldLink RX7 28 "FillCellsModel" "sums" "[I") (List.mem_of_getElem? (i := 1) rfl)) (fun _ h9 => h9) rfl dX7_isThin_1 ?_
  refine lv_iload_n hx hb dX7_isThin_4 rfl (lv_at hl 1 rfl) ?_
  obtain ⟨h_i, hE⟩ := gd_some hE
  refine ldM hx hb hK hP 6 (by decide) h_i dX7_isThin_5 ?_
  refine lv_if_lt (tgt := 28) hx hb dX7_isThin_6 (by decide) (fun c_ => ?_) (fun c_ => ?_)
  · have hE := ip c_ hE
    refine lv_iconst (v := (0 : Int32)) hx hb dX7_isThin_28 (by decide) ?_
    rw [← hQ, ← Option.some.inj hE]
    exact rz (v := (0 : Int32)) hx hb hr hlocks hK hP hD hS rfl dX7_isThin_29
  · have hE := im c_ hE
    refine lv_aload_n hx hb dX7_isThin_9 rfl (lv_at hl 0 rfl) ?_
    refine va_get (ci := 7) (v := .ref (aD G 36)) (C := RX7) (T := TX7) (N := 17) hx hb hts (fun _ h => List.mem_cons_of_mem _ (List.mem_append_right _ h)) hown hK hP 13 rfl rfl 9 (by decide) (hts (.fieldLink RX7 28 "FillCellsModel" "sums" "[I") (List.mem_of_getElem? (i := 1) rfl)) (fun _ h9 => h9) rfl dX7_isThin_10 ?_
    refine lv_iload_n hx hb dX7_isThin_13 rfl (lv_at hl 1 rfl) ?_
    obtain ⟨h_i, hE⟩ := gd_some hE
    refine ldM hx hb hK hP 6 (by decide) h_i dX7_isThin_14 ?_
    refine lv_aload_n hx hb dX7_isThin_15 rfl (lv_at hl 0 rfl) ?_
    refine va_get (ci := 7) (v := .ref (aD G 33)) (C := RX7) (T := TX7) (N := 17) hx hb hts (fun _ h => List.mem_cons_of_mem _ (List.mem_append_right _ h)) hown hK hP 13 rfl rfl 4 (by decide) (hts (.fieldLink RX7 19 "FillCellsModel" "rules" "[I") (List.mem_of_getElem? (i := 2) rfl)) (fun _ h9 => h9) rfl dX7_isThin_16 ?_
    refine lv_iconst (v := (2 : Int32)) hx hb dX7_isThin_19 (by decide) ?_
    obtain ⟨h_i, hE⟩ := gd_some hE
    refine ldM hx hb hK hP 3 (by decide) h_i dX7_isThin_20 ?_
    refine lv_icmp_ge (tgt := 28) hx hb dX7_isThin_21 (by decide) (fun c_ => ?_) (fun c_ => ?_)
    · have hE := ip c_ hE
      refine lv_iconst (v := (0 : Int32)) hx hb dX7_isThin_28 (by decide) ?_
      rw [← hQ, ← Option.some.inj hE]
      exact rz (v := (0 : Int32)) hx hb hr hlocks hK hP hD hS rfl dX7_isThin_29
    · have hE := im c_ hE
      refine lv_iconst (v := (1 : Int32)) hx hb dX7_isThin_24 (by decide) ?_
      refine lv_goto (tgt := 29) hx hb dX7_isThin_25 (by decide) ?_
      rw [← hQ, ← Option.some.inj hE]
      exact rz (v := (1 : Int32)) hx hb hr hlocks hK hP hD hS rfl dX7_isThin_29
abbrev rmX7_laysThin : Room := { frames := 1, cells := 0, slots := 0, locals := 21 }
def f_X7_laysThin_J93 (x1 : Int32) (σ : St) : Option (((St)) ⊕ (Int32 × St)) := some (.inr ((x1 + (1 : Int32)), σ))
def f_X7_laysThin_L31 (x1 : Int32) (v31 : Int32 × St) : Option (((St)) ⊕ (Int32 × St)) := gd (0 : Int32) 8 (gd (1 : Int32) 8 (if ((rd v31.2 3 (0 : Int32)) * (rd v31.2 3 (1 : Int32))) ≤ v31.1 then (some (.inl (v31.2))) else (bnd (f_X7_isThin x1 v31.2) (fun r1 => if r1 = 0 then (some (.inl (v31.2))) else (gd (1 : Int32) 8 (dz (rd v31.2 3 (1 : Int32)) (gd (1 : Int32) 8 (dz (rd v31.2 3 (1 : Int32)) (gd ((x1 + ((10 : Int32) * (v31.1 / (rd v31.2 3 (1 : Int32))))) + (jrem v31.1 (rd v31.2 3 (1 : Int32)))) 80 (gd ((x1 + ((10 : Int32) * (v31.1 / (rd v31.2 3 (1 : Int32))))) + (jrem v31.1 (rd v31.2 3 (1 : Int32)))) 80 (some (.inr ((v31.1 + (1 : Int32)), (sA v31.2 7 ((x1 + ((10 : Int32) * (v31.1 / (rd v31.2 3 (1 : Int32))))) + (jrem v31.1 (rd v31.2 3 (1 : Int32)))) ((rd v31.2 7 ((x1 + ((10 : Int32) * (v31.1 / (rd v31.2 3 (1 : Int32))))) + (jrem v31.1 (rd v31.2 3 (1 : Int32))))) + (1 : Int32))))))))))))))))
def f_X7_laysThin_J31 (x1 : Int32) (x2 : Int32) (σ : St) : Option (((St)) ⊕ (Int32 × St)) := bnd (loopN (f_X7_laysThin_L31 x1) 4096 (x2, σ)) (fun y31 => f_X7_laysThin_J93 x1 y31)
def f_X7_laysThin_L23  (v23 : Int32 × St) : Option (((St)) ⊕ (Int32 × St)) := if (80 : Int32) ≤ v23.1 then (some (.inl (v23.2))) else (f_X7_laysThin_J31 v23.1 (0 : Int32) v23.2)
def f_X7_laysThin_J23 (x1 : Int32) (σ : St) : Option St := bnd (loopN (f_X7_laysThin_L23 ) 4096 (x1, σ)) (fun y23 => some y23)
def f_X7_laysThin_J21 (σ : St) : Option St := f_X7_laysThin_J23 (0 : Int32) σ
def f_X7_laysThin_L2  (v2 : Int32 × St) : Option (((St)) ⊕ (Int32 × St)) := if (80 : Int32) ≤ v2.1 then (some (.inl (v2.2))) else (gd v2.1 80 (some (.inr ((v2.1 + (1 : Int32)), (sA v2.2 7 v2.1 (0 : Int32))))))
def f_X7_laysThin_J2 (x1 : Int32) (σ : St) : Option St := bnd (loopN (f_X7_laysThin_L2 ) 4096 (x1, σ)) (fun y2 => f_X7_laysThin_J21 y2)
def f_X7_laysThin (σ : St) : Option St := f_X7_laysThin_J2 (0 : Int32) σ
set_option maxHeartbeats 4000000 in
set_option maxRecDepth 100000 in
theorem c_X7_laysThin (l : Launch) (G : EV)   (σ : St) (r : St) (hE : f_X7_laysThin σ = some r) : MetV l G yX7_laysThin wsX7_laysThin rmX7_laysThin [.ref (aD G 43)] (wM G σ) (wM G r) := by
  refine Met.of0 (Qf := PV G (wM G r)) (cc := cX7_laysThin) (maxL := 3) (ret := none) (by decide) rfl (Nat.le_of_ble_eq_true rfl) ?_
  intro p e s m below meth c args A hx hb hr hts hown hlocks hml hin0 hA hS hP hK hD hX ls hl
  have hl : lv_has ls 3 [(0, .ref (aD G 43))] := hl
  generalize hQ : MQ below (PV G (wM G r) A) args s 0 0 A = Q
  unfold f_X7_laysThin at hE
  have J_23 : ∀ (x1 : Int32) (σ : St) (H : Heap) (locs : List Loc) (ls : Array Slot), va_P G.1 vwCl (wM G σ) H → va_D A (wM G σ) → va_S A s.heap H locs → lv_has ls 3 [(0, .ref (aD G 43)), (1, .int x1)] → f_X7_laysThin_J23 x1 σ = some r → W p l e rmX7_laysThin s m args below meth c H locs 0 0 Q (F0 m 23 ls []) := by
    intro x1 σ H locs ls hP hD hS hl hE
    unfold f_X7_laysThin_J23 at hE
    obtain ⟨y23, hL, hE23⟩ := bnd_some hE
    refine loop_W (body := f_X7_laysThin_L23 ) (y := y23) (P := fun v23 => ∀ (H : Heap) (locs : List Loc) (ls : Array Slot), va_P G.1 vwCl (wM G v23.2) H → va_D A (wM G v23.2) → va_S A s.heap H locs → lv_has ls 3 [(0, .ref (aD G 43)), (1, .int v23.1)] → W p l e rmX7_laysThin s m args below meth c H locs 0 0 Q (F0 m 23 ls [])) ?_ _ _ hL H locs ls hP hD hS hl
    clear hP hD hS hl hE hL
    intro v23 t23 hE hN23 hY23
    intro H locs ls hP hD hS hl
    unfold f_X7_laysThin_L23 at hE
    have J_93 : ∀ (x1 : Int32) (σ : St) (H : Heap) (locs : List Loc) (ls : Array Slot), va_P G.1 vwCl (wM G σ) H → va_D A (wM G σ) → va_S A s.heap H locs → lv_has ls 3 [(0, .ref (aD G 43)), (1, .int x1)] → f_X7_laysThin_J93 x1 σ = some t23 → W p l e rmX7_laysThin s m args below meth c H locs 0 0 Q (F0 m 93 ls []) := by
      intro x1 σ H locs ls hP hD hS hl hE
      unfold f_X7_laysThin_J93 at hE
      refine lv_iinc (v := (x1 + (1 : Int32))) (lv' := [(1, .int (x1 + (1 : Int32))), (0, .ref (aD G 43))]) hx hb dX7_laysThin_93 hl (k := 1) rfl rfl (by decide) rfl (fun ls hl => ?_)
      refine lv_goto (tgt := 23) hx hb dX7_laysThin_96 (by decide) ?_
      exact hN23 _ (Option.some.inj hE).symm _ _ _ hP hD hS (lv_sub hl [1, 0] rfl)
    have J_31 : ∀ (x1 : Int32) (x2 : Int32) (σ : St) (H : Heap) (locs : List Loc) (ls : Array Slot), va_P G.1 vwCl (wM G σ) H → va_D A (wM G σ) → va_S A s.heap H locs → lv_has ls 3 [(0, .ref (aD G 43)), (1, .int x1), (2, .int x2)] → f_X7_laysThin_J31 x1 x2 σ = some t23 → W p l e rmX7_laysThin s m args below meth c H locs 0 0 Q (F0 m 31 ls []) := by
      intro x1 x2 σ H locs ls hP hD hS hl hE
      unfold f_X7_laysThin_J31 at hE
      obtain ⟨y31, hL, hE31⟩ := bnd_some hE
      refine loop_W (body := f_X7_laysThin_L31 x1) (y := y31) (P := fun v31 => ∀ (H : Heap) (locs : List Loc) (ls : Array Slot), va_P G.1 vwCl (wM G v31.2) H → va_D A (wM G v31.2) → va_S A s.heap H locs → lv_has ls 3 [(0, .ref (aD G 43)), (1, .int x1), (2, .int v31.1)] → W p l e rmX7_laysThin s m args below meth c H locs 0 0 Q (F0 m 31 ls [])) ?_ _ _ hL H locs ls hP hD hS hl
      clear hP hD hS hl hE hL
      intro v31 t31 hE hN31 hY31
      intro H locs ls hP hD hS hl
      unfold f_X7_laysThin_L31 at hE
      refine lv_iload_n hx hb dX7_laysThin_31 rfl (lv_at hl 2 rfl) ?_
      refine lv_aload_n hx hb dX7_laysThin_32 rfl (lv_at hl 0 rfl) ?_
      refine va_get (ci := 7) (v := .ref (aD G 33)) (C := RX7) (T := TX7) (N := 17) hx hb hts (fun _ h => List.mem_cons_of_mem _ (List.mem_append_right _ h)) hown hK hP 13 rfl rfl 4 (by decide) (hts (.fieldLink RX7 19 "FillCellsModel" "rules" "[I") (List.mem_of_getElem? (i := 2) rfl)) (fun _ h9 => h9) rfl dX7_laysThin_33 ?_
      refine lv_iconst (v := (0 : Int32)) hx hb dX7_laysThin_36 (by decide) ?_
      obtain ⟨h_i, hE⟩ := gd_some hE
      refine ldM hx hb hK hP 3 (by decide) h_i dX7_laysThin_37 ?_
      refine lv_aload_n hx hb dX7_laysThin_38 rfl (lv_at hl 0 rfl) ?_
      refine va_get (ci := 7) (v := .ref (aD G 33)) (C := RX7) (T := TX7) (N := 17) hx hb hts (fun _ h => List.mem_cons_of_mem _ (List.mem_append_right _ h)) hown hK hP 13 rfl rfl 4 (by decide) (hts (.fieldLink RX7 19 "FillCellsModel" "rules" "[I") (List.mem_of_getElem? (i := 2) rfl)) (fun _ h9 => h9) rfl dX7_laysThin_39 ?_
      refine lv_iconst (v := (1 : Int32)) hx hb dX7_laysThin_42 (by decide) ?_
      obtain ⟨h_i, hE⟩ := gd_some hE
      refine ldM hx hb hK hP 3 (by decide) h_i dX7_laysThin_43 ?_
      refine lv_imul hx hb dX7_laysThin_44 ?_
      refine lv_icmp_ge (tgt := 93) hx hb dX7_laysThin_45 (by decide) (fun c_ => ?_) (fun c_ => ?_)
      · have hE := ip c_ hE
        have e9 := hY31 _ (Option.some.inj hE).symm
        have hE := hE31
        rw [← e9] at hE
        exact J_93 x1 v31.2 _ _ _ hP hD hS (lv_sub hl [0, 1] rfl) hE
      · have hE := im c_ hE
        refine lv_aload_n hx hb dX7_laysThin_48 rfl (lv_at hl 0 rfl) ?_
        refine lv_iload_n hx hb dX7_laysThin_49 rfl (lv_at hl 1 rfl) ?_
        obtain ⟨r1, hC, hE⟩ := bnd_some hE
        refine ci (va_runV (As := [.int x1]) (rest := []) ⟨hx, hb, hml, hown, hts⟩ (c_X7_isThin l G x1 v31.2 r1 hC _) (cwV 1 hts gX7_laysThin_X7_isThin rfl rfl rfl (by decide +kernel) ⟨Nat.le_of_ble_eq_true rfl, Nat.le_of_ble_eq_true rfl⟩) (preV hK hP hD hS hA hX (va_recv hK hP (ci := 7) (q0 := 13) rfl rfl)) rfl rfl hl.1 rfl (lv_room (Nat.le_of_ble_eq_true rfl)) dX7_laysThin_50 ⟨Nat.le_of_ble_eq_true rfl, Nat.le_of_ble_eq_true rfl⟩) hD hS hA (fun H locs hP hD hS => ?_)
        refine lv_if_eq (tgt := 93) hx hb dX7_laysThin_53 (by decide) (fun c_ => ?_) (fun c_ => ?_)
        · have hE := ip c_ hE
          have e9 := hY31 _ (Option.some.inj hE).symm
          have hE := hE31
          rw [← e9] at hE
          exact J_93 x1 v31.2 _ _ _ hP hD hS (lv_sub hl [0, 1] rfl) hE
        · have hE := im c_ hE
          refine lv_aload_n hx hb dX7_laysThin_56 rfl (lv_at hl 0 rfl) ?_
          refine va_get (ci := 7) (v := .ref (aD G 37)) (C := RX7) (T := TX7) (N := 17) hx hb hts (fun _ h => List.mem_cons_of_mem _ (List.mem_append_right _ h)) hown hK hP 13 rfl rfl 10 (by decide) (hts (.fieldLink RX7 31 "FillCellsModel" "thin" "[I") (List.mem_of_getElem? (i := 1) rfl)) (fun _ h9 => h9) rfl dX7_laysThin_57 ?_
          refine lv_iload_n hx hb dX7_laysThin_60 rfl (lv_at hl 1 rfl) ?_
          refine lv_bipush (v := (10 : Int32)) hx hb dX7_laysThin_61 (by decide) ?_
          refine lv_iload_n hx hb dX7_laysThin_63 rfl (lv_at hl 2 rfl) ?_
          refine lv_aload_n hx hb dX7_laysThin_64 rfl (lv_at hl 0 rfl) ?_
          refine va_get (ci := 7) (v := .ref (aD G 33)) (C := RX7) (T := TX7) (N := 17) hx hb hts (fun _ h => List.mem_cons_of_mem _ (List.mem_append_right _ h)) hown hK hP 13 rfl rfl 4 (by decide) (hts (.fieldLink RX7 19 "FillCellsModel" "rules" "[I") (List.mem_of_getElem? (i := 2) rfl)) (fun _ h9 => h9) rfl dX7_laysThin_65 ?_
          refine lv_iconst (v := (1 : Int32)) hx hb dX7_laysThin_68 (by decide) ?_
          obtain ⟨h_i, hE⟩ := gd_some hE
          refine ldM hx hb hK hP 3 (by decide) h_i dX7_laysThin_69 ?_
          obtain ⟨h_z, hE⟩ := dz_some hE
          refine lv_idiv hx hb dX7_laysThin_70 h_z ?_
          refine lv_imul hx hb dX7_laysThin_71 ?_
          refine lv_iadd hx hb dX7_laysThin_72 ?_
          refine lv_iload_n hx hb dX7_laysThin_73 rfl (lv_at hl 2 rfl) ?_
          refine lv_aload_n hx hb dX7_laysThin_74 rfl (lv_at hl 0 rfl) ?_
          refine va_get (ci := 7) (v := .ref (aD G 33)) (C := RX7) (T := TX7) (N := 17) hx hb hts (fun _ h => List.mem_cons_of_mem _ (List.mem_append_right _ h)) hown hK hP 13 rfl rfl 4 (by decide) (hts (.fieldLink RX7 19 "FillCellsModel" "rules" "[I") (List.mem_of_getElem? (i := 2) rfl)) (fun _ h9 => h9) rfl dX7_laysThin_75 ?_
          refine lv_iconst (v := (1 : Int32)) hx hb dX7_laysThin_78 (by decide) ?_
          obtain ⟨h_i, hE⟩ := gd_some hE
          refine ldM hx hb hK hP 3 (by decide) h_i dX7_laysThin_79 ?_
          obtain ⟨h_z, hE⟩ := dz_some hE
          refine lv_irem hx hb dX7_laysThin_80 h_z ?_
          refine lv_iadd hx hb dX7_laysThin_81 ?_
          refine lv_dup2_11 hx hb dX7_laysThin_82 rfl rfl ?_
          obtain ⟨h_i, hE⟩ := gd_some hE
          refine ldM hx hb hK hP 7 (by decide) h_i dX7_laysThin_83 ?_
          refine lv_iconst (v := (1 : Int32)) hx hb dX7_laysThin_84 (by decide) ?_
          refine lv_iadd hx hb dX7_laysThin_85 ?_
          obtain ⟨h_i, hE⟩ := gd_some hE
          refine stM hx hb hK hP hD hS 7 (by decide) h_i dX7_laysThin_86 (fun H locs hP hD hS => ?_)
          refine lv_iinc (v := (v31.1 + (1 : Int32))) (lv' := [(2, .int (v31.1 + (1 : Int32))), (0, .ref (aD G 43)), (1, .int x1)]) hx hb dX7_laysThin_87 hl (k := 2) rfl rfl (by decide) rfl (fun ls hl => ?_)
          refine lv_goto (tgt := 31) hx hb dX7_laysThin_90 (by decide) ?_
          exact hN31 _ (Option.some.inj hE).symm _ _ _ hP hD hS (lv_sub hl [1, 2, 0] rfl)
    refine lv_iload_n hx hb dX7_laysThin_23 rfl (lv_at hl 1 rfl) ?_
    refine lv_bipush (v := (80 : Int32)) hx hb dX7_laysThin_24 (by decide) ?_
    refine lv_icmp_ge (tgt := 99) hx hb dX7_laysThin_26 (by decide) (fun c_ => ?_) (fun c_ => ?_)
    · have hE := ip c_ hE
      have e9 := hY23 _ (Option.some.inj hE).symm
      have hE := hE23
      rw [← e9] at hE
      rw [← hQ, ← Option.some.inj hE]
      exact rv hx hb hr hlocks hK hP hD hS dX7_laysThin_99
    · have hE := im c_ hE
      refine lv_iconst (v := (0 : Int32)) hx hb dX7_laysThin_29 (by decide) ?_
      refine lv_istore_n (lv' := [(2, .int (0 : Int32)), (0, .ref (aD G 43)), (1, .int v23.1)]) hx hb dX7_laysThin_30 rfl hl (by decide) rfl (fun ls hl => ?_)
      exact J_31 v23.1 (0 : Int32) v23.2 _ _ _ hP hD hS (lv_sub hl [1, 2, 0] rfl) hE
  have J_21 : ∀ (σ : St) (H : Heap) (locs : List Loc) (ls : Array Slot), va_P G.1 vwCl (wM G σ) H → va_D A (wM G σ) → va_S A s.heap H locs → lv_has ls 3 [(0, .ref (aD G 43))] → f_X7_laysThin_J21 σ = some r → W p l e rmX7_laysThin s m args below meth c H locs 0 0 Q (F0 m 21 ls []) := by
    intro σ H locs ls hP hD hS hl hE
    unfold f_X7_laysThin_J21 at hE
    refine lv_iconst (v := (0 : Int32)) hx hb dX7_laysThin_21 (by decide) ?_
    refine lv_istore_n (lv' := [(1, .int (0 : Int32)), (0, .ref (aD G 43))]) hx hb dX7_laysThin_22 rfl hl (by decide) rfl (fun ls hl => ?_)
    exact J_23 (0 : Int32) σ _ _ _ hP hD hS (lv_sub hl [1, 0] rfl) hE
  have J_2 : ∀ (x1 : Int32) (σ : St) (H : Heap) (locs : List Loc) (ls : Array Slot), va_P G.1 vwCl (wM G σ) H → va_D A (wM G σ) → va_S A s.heap H locs → lv_has ls 3 [(0, .ref (aD G 43)), (1, .int x1)] → f_X7_laysThin_J2 x1 σ = some r → W p l e rmX7_laysThin s m args below meth c H locs 0 0 Q (F0 m 2 ls []) := by
    intro x1 σ H locs ls hP hD hS hl hE
    unfold f_X7_laysThin_J2 at hE
    obtain ⟨y2, hL, hE2⟩ := bnd_some hE
    refine loop_W (body := f_X7_laysThin_L2 ) (y := y2) (P := fun v2 => ∀ (H : Heap) (locs : List Loc) (ls : Array Slot), va_P G.1 vwCl (wM G v2.2) H → va_D A (wM G v2.2) → va_S A s.heap H locs → lv_has ls 3 [(0, .ref (aD G 43)), (1, .int v2.1)] → W p l e rmX7_laysThin s m args below meth c H locs 0 0 Q (F0 m 2 ls [])) ?_ _ _ hL H locs ls hP hD hS hl
    clear hP hD hS hl hE hL
    intro v2 t2 hE hN2 hY2
    intro H locs ls hP hD hS hl
    unfold f_X7_laysThin_L2 at hE
    refine lv_iload_n hx hb dX7_laysThin_2 rfl (lv_at hl 1 rfl) ?_
    refine lv_bipush (v := (80 : Int32)) hx hb dX7_laysThin_3 (by decide) ?_
    refine lv_icmp_ge (tgt := 21) hx hb dX7_laysThin_5 (by decide) (fun c_ => ?_) (fun c_ => ?_)
    · have hE := ip c_ hE
      have e9 := hY2 _ (Option.some.inj hE).symm
      have hE := hE2
      rw [← e9] at hE
      exact J_21 v2.2 _ _ _ hP hD hS (lv_sub hl [0] rfl) hE
    · have hE := im c_ hE
      refine lv_aload_n hx hb dX7_laysThin_8 rfl (lv_at hl 0 rfl) ?_
      refine va_get (ci := 7) (v := .ref (aD G 37)) (C := RX7) (T := TX7) (N := 17) hx hb hts (fun _ h => List.mem_cons_of_mem _ (List.mem_append_right _ h)) hown hK hP 13 rfl rfl 10 (by decide) (hts (.fieldLink RX7 31 "FillCellsModel" "thin" "[I") (List.mem_of_getElem? (i := 1) rfl)) (fun _ h9 => h9) rfl dX7_laysThin_9 ?_
      refine lv_iload_n hx hb dX7_laysThin_12 rfl (lv_at hl 1 rfl) ?_
      refine lv_iconst (v := (0 : Int32)) hx hb dX7_laysThin_13 (by decide) ?_
      obtain ⟨h_i, hE⟩ := gd_some hE
      refine stM hx hb hK hP hD hS 7 (by decide) h_i dX7_laysThin_14 (fun H locs hP hD hS => ?_)
      refine lv_iinc (v := (v2.1 + (1 : Int32))) (lv' := [(1, .int (v2.1 + (1 : Int32))), (0, .ref (aD G 43))]) hx hb dX7_laysThin_15 hl (k := 1) rfl rfl (by decide) rfl (fun ls hl => ?_)
      refine lv_goto (tgt := 2) hx hb dX7_laysThin_18 (by decide) ?_
      exact hN2 _ (Option.some.inj hE).symm _ _ _ hP hD hS (lv_sub hl [1, 0] rfl)
  refine lv_iconst (v := (0 : Int32)) hx hb dX7_laysThin_0 (by decide) ?_
  refine lv_istore_n (lv' := [(1, .int (0 : Int32)), (0, .ref (aD G 43))]) hx hb dX7_laysThin_1 rfl hl (by decide) rfl (fun ls hl => ?_)
  exact J_2 (0 : Int32) σ _ _ _ hP hD hS (lv_sub hl [1, 0] rfl) hE
abbrev rmX7_liesBeside : Room := { frames := 0, cells := 0, slots := 0, locals := 0 }
def f_X7_liesBeside_J93 (σ : St) : Option Int32 := some (1 : Int32)
def f_X7_liesBeside_J71 (x1 : Int32) (x2 : Int32) (x3 : Int32) (σ : St) : Option Int32 := if (9 : Int32) ≤ x3 then (some (0 : Int32)) else (gd (((160 : Int32) + x1) + (1 : Int32)) 400 (if (rd σ 0 (((160 : Int32) + x1) + (1 : Int32))) = x2 then (f_X7_liesBeside_J93 σ) else (some (0 : Int32))))
def f_X7_liesBeside_J51 (x1 : Int32) (x2 : Int32) (x3 : Int32) (σ : St) : Option Int32 := if x3 ≤ 0 then (f_X7_liesBeside_J71 x1 x2 x3 σ) else (gd (((160 : Int32) + x1) - (1 : Int32)) 400 (if (rd σ 0 (((160 : Int32) + x1) - (1 : Int32))) = x2 then (f_X7_liesBeside_J93 σ) else (f_X7_liesBeside_J71 x1 x2 x3 σ)))
def f_X7_liesBeside_J28 (x1 : Int32) (x2 : Int32) (x3 : Int32) (σ : St) : Option Int32 := if (70 : Int32) ≤ x1 then (f_X7_liesBeside_J51 x1 x2 x3 σ) else (gd (((160 : Int32) + x1) + (10 : Int32)) 400 (if (rd σ 0 (((160 : Int32) + x1) + (10 : Int32))) = x2 then (f_X7_liesBeside_J93 σ) else (f_X7_liesBeside_J51 x1 x2 x3 σ)))
def f_X7_liesBeside (x1 x2 : Int32) (σ : St) : Option Int32 := if x1 < (10 : Int32) then (f_X7_liesBeside_J28 x1 x2 (jrem x1 (10 : Int32)) σ) else (gd (((160 : Int32) + x1) - (10 : Int32)) 400 (if (rd σ 0 (((160 : Int32) + x1) - (10 : Int32))) = x2 then (f_X7_liesBeside_J93 σ) else (f_X7_liesBeside_J28 x1 x2 (jrem x1 (10 : Int32)) σ)))
set_option maxHeartbeats 4000000 in
set_option maxRecDepth 100000 in
theorem c_X7_liesBeside (l : Launch) (G : EV)  (x1 x2 : Int32) (σ : St) (r : Int32) (hE : f_X7_liesBeside x1 x2 σ = some r) : MetI l G yX7_liesBeside wsX7_liesBeside rmX7_liesBeside [.ref (aD G 43), .int x1, .int x2] (wM G σ) r (wM G σ) := by
  refine Met.of0 (Qf := PI G r (wM G σ)) (cc := cX7_liesBeside) (maxL := 4) (ret := (some .boolean)) (by decide) rfl (Nat.le_of_ble_eq_true rfl) ?_
  intro p e s m below meth c args A hx hb hr hts hown hlocks hml hin0 hA hS hP hK hD hX ls hl
  have hl : lv_has ls 4 [(0, .ref (aD G 43)), (1, .int x1), (2, .int x2)] := hl
  generalize hQ : MQ below (PI G r (wM G σ) A) args s 0 0 A = Q
  unfold f_X7_liesBeside at hE
  have J_93 : ∀ (H : Heap) (locs : List Loc) (ls : Array Slot), va_P G.1 vwCl (wM G σ) H → va_D A (wM G σ) → va_S A s.heap H locs → lv_has ls 4 [] → f_X7_liesBeside_J93 σ = some r → W p l e rmX7_liesBeside s m args below meth c H locs 0 0 Q (F0 m 93 ls []) := by
    intro  H locs ls hP hD hS hl hE
    unfold f_X7_liesBeside_J93 at hE
    refine lv_iconst (v := (1 : Int32)) hx hb dX7_liesBeside_93 (by decide) ?_
    refine lv_goto (tgt := 98) hx hb dX7_liesBeside_94 (by decide) ?_
    rw [← hQ, ← Option.some.inj hE]
    exact rz (v := (1 : Int32)) hx hb hr hlocks hK hP hD hS rfl dX7_liesBeside_98
  have J_71 : ∀ (x3 : Int32) (H : Heap) (locs : List Loc) (ls : Array Slot), va_P G.1 vwCl (wM G σ) H → va_D A (wM G σ) → va_S A s.heap H locs → lv_has ls 4 [(0, .ref (aD G 43)), (1, .int x1), (2, .int x2), (3, .int x3)] → f_X7_liesBeside_J71 x1 x2 x3 σ = some r → W p l e rmX7_liesBeside s m args below meth c H locs 0 0 Q (F0 m 71 ls []) := by
    intro x3 H locs ls hP hD hS hl hE
    unfold f_X7_liesBeside_J71 at hE
    refine lv_iload_n hx hb dX7_liesBeside_71 rfl (lv_at hl 3 rfl) ?_
    refine lv_bipush (v := (9 : Int32)) hx hb dX7_liesBeside_72 (by decide) ?_
    refine lv_icmp_ge (tgt := 97) hx hb dX7_liesBeside_74 (by decide) (fun c_ => ?_) (fun c_ => ?_)
    · have hE := ip c_ hE
      refine lv_iconst (v := (0 : Int32)) hx hb dX7_liesBeside_97 (by decide) ?_
      rw [← hQ, ← Option.some.inj hE]
      exact rz (v := (0 : Int32)) hx hb hr hlocks hK hP hD hS rfl dX7_liesBeside_98
    · have hE := im c_ hE
      refine lv_aload_n hx hb dX7_liesBeside_77 rfl (lv_at hl 0 rfl) ?_
      refine va_get (ci := 7) (v := .ref (aD G 30)) (C := RX7) (T := TX7) (N := 17) hx hb hts (fun _ h => List.mem_cons_of_mem _ (List.mem_append_right _ h)) hown hK hP 13 rfl rfl 0 (by decide) (hts (.fieldLink RX7 7 "FillCellsModel" "s" "[I") (List.mem_of_getElem? (i := 1) rfl)) (fun _ h9 => h9) rfl dX7_liesBeside_78 ?_
      refine lv_sipush (v := (160 : Int32)) hx hb dX7_liesBeside_81 (by decide) ?_
      refine lv_iload_n hx hb dX7_liesBeside_84 rfl (lv_at hl 1 rfl) ?_
      refine lv_iadd hx hb dX7_liesBeside_85 ?_
      refine lv_iconst (v := (1 : Int32)) hx hb dX7_liesBeside_86 (by decide) ?_
      refine lv_iadd hx hb dX7_liesBeside_87 ?_
      obtain ⟨h_i, hE⟩ := gd_some hE
      refine ldM hx hb hK hP 0 (by decide) h_i dX7_liesBeside_88 ?_
      refine lv_iload_n hx hb dX7_liesBeside_89 rfl (lv_at hl 2 rfl) ?_
      refine lv_icmp_ne (tgt := 97) hx hb dX7_liesBeside_90 (by decide) (fun c_ => ?_) (fun c_ => ?_)
      · have hE := im c_ hE
        refine lv_iconst (v := (0 : Int32)) hx hb dX7_liesBeside_97 (by decide) ?_
        rw [← hQ, ← Option.some.inj hE]
        exact rz (v := (0 : Int32)) hx hb hr hlocks hK hP hD hS rfl dX7_liesBeside_98
      · have hE := ip c_ hE
        exact J_93  _ _ _ hP hD hS (lv_sub hl [] rfl) hE
  have J_51 : ∀ (x3 : Int32) (H : Heap) (locs : List Loc) (ls : Array Slot), va_P G.1 vwCl (wM G σ) H → va_D A (wM G σ) → va_S A s.heap H locs → lv_has ls 4 [(0, .ref (aD G 43)), (1, .int x1), (2, .int x2), (3, .int x3)] → f_X7_liesBeside_J51 x1 x2 x3 σ = some r → W p l e rmX7_liesBeside s m args below meth c H locs 0 0 Q (F0 m 51 ls []) := by
    intro x3 H locs ls hP hD hS hl hE
    unfold f_X7_liesBeside_J51 at hE
    refine lv_iload_n hx hb dX7_liesBeside_51 rfl (lv_at hl 3 rfl) ?_
    refine lv_if_le (tgt := 71) hx hb dX7_liesBeside_52 (by decide) (fun c_ => ?_) (fun c_ => ?_)
    · have hE := ip c_ hE
      exact J_71 x3 _ _ _ hP hD hS (lv_sub hl [0, 1, 2, 3] rfl) hE
    · have hE := im c_ hE
      refine lv_aload_n hx hb dX7_liesBeside_55 rfl (lv_at hl 0 rfl) ?_
      refine va_get (ci := 7) (v := .ref (aD G 30)) (C := RX7) (T := TX7) (N := 17) hx hb hts (fun _ h => List.mem_cons_of_mem _ (List.mem_append_right _ h)) hown hK hP 13 rfl rfl 0 (by decide) (hts (.fieldLink RX7 7 "FillCellsModel" "s" "[I") (List.mem_of_getElem? (i := 1) rfl)) (fun _ h9 => h9) rfl dX7_liesBeside_56 ?_
      refine lv_sipush (v := (160 : Int32)) hx hb dX7_liesBeside_59 (by decide) ?_
      refine lv_iload_n hx hb dX7_liesBeside_62 rfl (lv_at hl 1 rfl) ?_
      refine lv_iadd hx hb dX7_liesBeside_63 ?_
      refine lv_iconst (v := (1 : Int32)) hx hb dX7_liesBeside_64 (by decide) ?_
      refine lv_isub hx hb dX7_liesBeside_65 ?_
      obtain ⟨h_i, hE⟩ := gd_some hE
      refine ldM hx hb hK hP 0 (by decide) h_i dX7_liesBeside_66 ?_
      refine lv_iload_n hx hb dX7_liesBeside_67 rfl (lv_at hl 2 rfl) ?_
      refine lv_icmp_eq (tgt := 93) hx hb dX7_liesBeside_68 (by decide) (fun c_ => ?_) (fun c_ => ?_)
      · have hE := ip c_ hE
        exact J_93  _ _ _ hP hD hS (lv_sub hl [] rfl) hE
      · have hE := im c_ hE
        exact J_71 x3 _ _ _ hP hD hS (lv_sub hl [0, 1, 2, 3] rfl) hE
  have J_28 : ∀ (x3 : Int32) (H : Heap) (locs : List Loc) (ls : Array Slot), va_P G.1 vwCl (wM G σ) H → va_D A (wM G σ) → va_S A s.heap H locs → lv_has ls 4 [(0, .ref (aD G 43)), (1, .int x1), (2, .int x2), (3, .int x3)] → f_X7_liesBeside_J28 x1 x2 x3 σ = some r → W p l e rmX7_liesBeside s m args below meth c H locs 0 0 Q (F0 m 28 ls []) := by
    intro x3 H locs ls hP hD hS hl hE
    unfold f_X7_liesBeside_J28 at hE
    refine lv_iload_n hx hb dX7_liesBeside_28 rfl (lv_at hl 1 rfl) ?_
    refine lv_bipush (v := (70 : Int32)) hx hb dX7_liesBeside_29 (by decide) ?_
    refine lv_icmp_ge (tgt := 51) hx hb dX7_liesBeside_31 (by decide) (fun c_ => ?_) (fun c_ => ?_)
    · have hE := ip c_ hE
      exact J_51 x3 _ _ _ hP hD hS (lv_sub hl [0, 1, 2, 3] rfl) hE
    · have hE := im c_ hE
      refine lv_aload_n hx hb dX7_liesBeside_34 rfl (lv_at hl 0 rfl) ?_
      refine va_get (ci := 7) (v := .ref (aD G 30)) (C := RX7) (T := TX7) (N := 17) hx hb hts (fun _ h => List.mem_cons_of_mem _ (List.mem_append_right _ h)) hown hK hP 13 rfl rfl 0 (by decide) (hts (.fieldLink RX7 7 "FillCellsModel" "s" "[I") (List.mem_of_getElem? (i := 1) rfl)) (fun _ h9 => h9) rfl dX7_liesBeside_35 ?_
      refine lv_sipush (v := (160 : Int32)) hx hb dX7_liesBeside_38 (by decide) ?_
      refine lv_iload_n hx hb dX7_liesBeside_41 rfl (lv_at hl 1 rfl) ?_
      refine lv_iadd hx hb dX7_liesBeside_42 ?_
      refine lv_bipush (v := (10 : Int32)) hx hb dX7_liesBeside_43 (by decide) ?_
      refine lv_iadd hx hb dX7_liesBeside_45 ?_
      obtain ⟨h_i, hE⟩ := gd_some hE
      refine ldM hx hb hK hP 0 (by decide) h_i dX7_liesBeside_46 ?_
      refine lv_iload_n hx hb dX7_liesBeside_47 rfl (lv_at hl 2 rfl) ?_
      refine lv_icmp_eq (tgt := 93) hx hb dX7_liesBeside_48 (by decide) (fun c_ => ?_) (fun c_ => ?_)
      · have hE := ip c_ hE
        exact J_93  _ _ _ hP hD hS (lv_sub hl [] rfl) hE
      · have hE := im c_ hE
        exact J_51 x3 _ _ _ hP hD hS (lv_sub hl [0, 1, 2, 3] rfl) hE
  refine lv_iload_n hx hb dX7_liesBeside_0 rfl (lv_at hl 1 rfl) ?_
  refine lv_bipush (v := (10 : Int32)) hx hb dX7_liesBeside_1 (by decide) ?_
  refine lv_irem hx hb dX7_liesBeside_3 (by decide) ?_
  refine lv_istore_n (lv' := [(3, .int (jrem x1 (10 : Int32))), (0, .ref (aD G 43)), (1, .int x1), (2, .int x2)]) hx hb dX7_liesBeside_4 rfl hl (by decide) rfl (fun ls hl => ?_)
  refine lv_iload_n hx hb dX7_liesBeside_5 rfl (lv_at hl 2 rfl) ?_
  refine lv_bipush (v := (10 : Int32)) hx hb dX7_liesBeside_6 (by decide) ?_
  refine lv_icmp_lt (tgt := 28) hx hb dX7_liesBeside_8 (by decide) (fun c_ => ?_) (fun c_ => ?_)
  · have hE := ip c_ hE
    exact J_28 (jrem x1 (10 : Int32)) _ _ _ hP hD hS (lv_sub hl [1, 2, 3, 0] rfl) hE
  · have hE := im c_ hE
    refine lv_aload_n hx hb dX7_liesBeside_11 rfl (lv_at hl 1 rfl) ?_
    refine va_get (ci := 7) (v := .ref (aD G 30)) (C := RX7) (T := TX7) (N := 17) hx hb hts (fun _ h => List.mem_cons_of_mem _ (List.mem_append_right _ h)) hown hK hP 13 rfl rfl 0 (by decide) (hts (.fieldLink RX7 7 "FillCellsModel" "s" "[I") (List.mem_of_getElem? (i := 1) rfl)) (fun _ h9 => h9) rfl dX7_liesBeside_12 ?_
    refine lv_sipush (v := (160 : Int32)) hx hb dX7_liesBeside_15 (by decide) ?_
    refine lv_iload_n hx hb dX7_liesBeside_18 rfl (lv_at hl 2 rfl) ?_
    refine lv_iadd hx hb dX7_liesBeside_19 ?_
    refine lv_bipush (v := (10 : Int32)) hx hb dX7_liesBeside_20 (by decide) ?_
    refine lv_isub hx hb dX7_liesBeside_22 ?_
    obtain ⟨h_i, hE⟩ := gd_some hE
    refine ldM hx hb hK hP 0 (by decide) h_i dX7_liesBeside_23 ?_
    refine lv_iload_n hx hb dX7_liesBeside_24 rfl (lv_at hl 3 rfl) ?_
    refine lv_icmp_eq (tgt := 93) hx hb dX7_liesBeside_25 (by decide) (fun c_ => ?_) (fun c_ => ?_)
    · have hE := ip c_ hE
      exact J_93  _ _ _ hP hD hS (lv_sub hl [] rfl) hE
    · have hE := im c_ hE
      exact J_28 (jrem x1 (10 : Int32)) _ _ _ hP hD hS (lv_sub hl [1, 2, 3, 0] rfl) hE
abbrev rmX7_isBurden : Room := { frames := 1, cells := 0, slots := 0, locals := 23 }

def f_X7_isBurden (x1 x2 : Int32) (σ : St) : Option Int32 := gd ((160 : Int32) + x1) 400 (if (rd σ 0 ((160 : Int32) + x1)) = x2 then (some (0 : Int32)) else (bnd (f_X7_liesBeside x1 x2 σ) (fun r1 => if r1 = 0 then (some (0 : Int32)) else (some (1 : Int32)))))
set_option maxHeartbeats 4000000 in
set_option maxRecDepth 100000 in
theorem c_X7_isBurden (l : Launch) (G : EV)  (x1 x2 : Int32) (σ : St) (r : Int32) (hE : f_X7_isBurden x1 x2 σ = some r) : MetI l G yX7_isBurden wsX7_isBurden rmX7_isBurden [.ref (aD G 43), .int x1, .int x2] (wM G σ) r (wM G σ) := by
  refine Met.of0 (Qf := PI G r (wM G σ)) (cc := cX7_isBurden) (maxL := 3) (ret := (some .boolean)) (by decide) rfl (Nat.le_of_ble_eq_true rfl) ?_
  intro p e s m below meth c args A hx hb hr hts hown hlocks hml hin0 hA hS hP hK hD hX ls hl
  have hl : lv_has ls 3 [(0, .ref (aD G 43)), (1, .int x1), (2, .int x2)] := hl
  generalize hQ : MQ below (PI G r (wM G σ) A) args s 0 0 A = Q
  unfold f_X7_isBurden at hE
  refine lv_aload_n hx hb dX7_isBurden_0 rfl (lv_at hl 0 rfl) ?_
  refine va_get (ci := 7) (v := .ref (aD G 30)) (C := RX7) (T := TX7) (N := 17) hx hb hts (fun _ h => List.mem_cons_of_mem _ (List.mem_append_right _ h)) hown hK hP 13 rfl rfl 0 (by decide) (hts (.fieldLink RX7 7 "FillCellsModel" "s" "[I") (List.mem_of_getElem? (i := 1) rfl)) (fun _ h9 => h9) rfl dX7_isBurden_1 ?_
  refine lv_sipush (v := (160 : Int32)) hx hb dX7_isBurden_4 (by decide) ?_
  refine lv_iload_n hx hb dX7_isBurden_7 rfl (lv_at hl 1 rfl) ?_
  refine lv_iadd hx hb dX7_isBurden_8 ?_
  obtain ⟨h_i, hE⟩ := gd_some hE
  refine ldM hx hb hK hP 0 (by decide) h_i dX7_isBurden_9 ?_
  refine lv_iload_n hx hb dX7_isBurden_10 rfl (lv_at hl 2 rfl) ?_
  refine lv_icmp_eq (tgt := 27) hx hb dX7_isBurden_11 (by decide) (fun c_ => ?_) (fun c_ => ?_)
  · have hE := ip c_ hE
    refine lv_iconst (v := (0 : Int32)) hx hb dX7_isBurden_27 (by decide) ?_
    rw [← hQ, ← Option.some.inj hE]
    exact rz (v := (0 : Int32)) hx hb hr hlocks hK hP hD hS rfl dX7_isBurden_28
  · have hE := im c_ hE
    refine lv_aload_n hx hb dX7_isBurden_14 rfl (lv_at hl 0 rfl) ?_
    refine lv_iload_n hx hb dX7_isBurden_15 rfl (lv_at hl 1 rfl) ?_
    refine lv_iload_n hx hb dX7_isBurden_16 rfl (lv_at hl 2 rfl) ?_
    obtain ⟨r1, hC, hE⟩ := bnd_some hE
    refine ci (va_runV (As := [.int x1, .int x2]) (rest := []) ⟨hx, hb, hml, hown, hts⟩ (c_X7_liesBeside l G x1 x2 σ r1 hC _) (cwV 2 hts gX7_isBurden_X7_liesBeside rfl rfl rfl (by decide +kernel) ⟨Nat.le_of_ble_eq_true rfl, Nat.le_of_ble_eq_true rfl⟩) (preV hK hP hD hS hA hX (va_recv hK hP (ci := 7) (q0 := 13) rfl rfl)) rfl rfl hl.1 rfl (lv_room (Nat.le_of_ble_eq_true rfl)) dX7_isBurden_17 ⟨Nat.le_of_ble_eq_true rfl, Nat.le_of_ble_eq_true rfl⟩) hD hS hA (fun H locs hP hD hS => ?_)
    refine lv_if_eq (tgt := 27) hx hb dX7_isBurden_20 (by decide) (fun c_ => ?_) (fun c_ => ?_)
    · have hE := ip c_ hE
      refine lv_iconst (v := (0 : Int32)) hx hb dX7_isBurden_27 (by decide) ?_
      rw [← hQ, ← Option.some.inj hE]
      exact rz (v := (0 : Int32)) hx hb hr hlocks hK hP hD hS rfl dX7_isBurden_28
    · have hE := im c_ hE
      refine lv_iconst (v := (1 : Int32)) hx hb dX7_isBurden_23 (by decide) ?_
      refine lv_goto (tgt := 28) hx hb dX7_isBurden_24 (by decide) ?_
      rw [← hQ, ← Option.some.inj hE]
      exact rz (v := (1 : Int32)) hx hb hr hlocks hK hP hD hS rfl dX7_isBurden_28
abbrev rmX7_laysBurdens : Room := { frames := 2, cells := 0, slots := 0, locals := 45 }
def f_X7_laysBurdens_J73 (x1 : Int32) (σ : St) : Option (((St)) ⊕ (Int32 × St)) := some (.inr ((x1 + (1 : Int32)), σ))
def f_X7_laysBurdens_J65 (x1 : Int32) (x2 : Int32) (t0 : Int32) (t1 : Int32) (t2 : Int32) (σ : St) : Option (((St)) ⊕ (Int32 × St)) := gd t2 4 (some (.inr ((x2 + (1 : Int32)), (sA σ 10 t2 (t1 + t0)))))
def f_X7_laysBurdens_J64 (x1 : Int32) (x2 : Int32) (t0 : Int32) (t1 : Int32) (σ : St) : Option (((St)) ⊕ (Int32 × St)) := f_X7_laysBurdens_J65 x1 x2 (0 : Int32) t0 t1 σ
def f_X7_laysBurdens_L16 (x1 : Int32) (v16 : Int32 × St) : Option (((St)) ⊕ (Int32 × St)) := if (80 : Int32) ≤ v16.1 then (some (.inl (v16.2))) else (gd x1 4 (gd ((320 : Int32) + v16.1) 400 (if (rd v16.2 0 ((320 : Int32) + v16.1)) ≤ 0 then (f_X7_laysBurdens_J64 x1 v16.1 (rd v16.2 10 x1) x1 v16.2) else (bnd (f_X7_isBurden v16.1 x1 v16.2) (fun r1 => if r1 = 0 then (f_X7_laysBurdens_J64 x1 v16.1 (rd v16.2 10 x1) x1 v16.2) else (gd ((320 : Int32) + v16.1) 400 (f_X7_laysBurdens_J65 x1 v16.1 (rd v16.2 0 ((320 : Int32) + v16.1)) (rd v16.2 10 x1) x1 v16.2)))))))
def f_X7_laysBurdens_J16 (x1 : Int32) (x2 : Int32) (σ : St) : Option (((St)) ⊕ (Int32 × St)) := bnd (loopN (f_X7_laysBurdens_L16 x1) 4096 (x2, σ)) (fun y16 => f_X7_laysBurdens_J73 x1 y16)
def f_X7_laysBurdens_L2  (v2 : Int32 × St) : Option (((St)) ⊕ (Int32 × St)) := if (4 : Int32) ≤ v2.1 then (some (.inl (v2.2))) else (gd v2.1 4 (f_X7_laysBurdens_J16 v2.1 (0 : Int32) (sA v2.2 10 v2.1 (0 : Int32))))
def f_X7_laysBurdens_J2 (x1 : Int32) (σ : St) : Option St := bnd (loopN (f_X7_laysBurdens_L2 ) 4096 (x1, σ)) (fun y2 => some y2)
def f_X7_laysBurdens (σ : St) : Option St := f_X7_laysBurdens_J2 (1 : Int32) σ
set_option maxHeartbeats 4000000 in
set_option maxRecDepth 100000 in
theorem c_X7_laysBurdens (l : Launch) (G : EV)   (σ : St) (r : St) (hE : f_X7_laysBurdens σ = some r) : MetV l G yX7_laysBurdens wsX7_laysBurdens rmX7_laysBurdens [.ref (aD G 43)] (wM G σ) (wM G r) := by
  refine Met.of0 (Qf := PV G (wM G r)) (cc := cX7_laysBurdens) (maxL := 3) (ret := none) (by decide) rfl (Nat.le_of_ble_eq_true rfl) ?_
  intro p e s m below meth c args A hx hb hr hts hown hlocks hml hin0 hA hS hP hK hD hX ls hl
  have hl : lv_has ls 3 [(0, .ref (aD G 43))] := hl
  generalize hQ : MQ below (PV G (wM G r) A) args s 0 0 A = Q
  unfold f_X7_laysBurdens at hE
  have J_2 : ∀ (x1 : Int32) (σ : St) (H : Heap) (locs : List Loc) (ls : Array Slot), va_P G.1 vwCl (wM G σ) H → va_D A (wM G σ) → va_S A s.heap H locs → lv_has ls 3 [(0, .ref (aD G 43)), (1, .int x1)] → f_X7_laysBurdens_J2 x1 σ = some r → W p l e rmX7_laysBurdens s m args below meth c H locs 0 0 Q (F0 m 2 ls []) := by
    intro x1 σ H locs ls hP hD hS hl hE
    unfold f_X7_laysBurdens_J2 at hE
    obtain ⟨y2, hL, hE2⟩ := bnd_some hE
    refine loop_W (body := f_X7_laysBurdens_L2 ) (y := y2) (P := fun v2 => ∀ (H : Heap) (locs : List Loc) (ls : Array Slot), va_P G.1 vwCl (wM G v2.2) H → va_D A (wM G v2.2) → va_S A s.heap H locs → lv_has ls 3 [(0, .ref (aD G 43)), (1, .int v2.1)] → W p l e rmX7_laysBurdens s m args below meth c H locs 0 0 Q (F0 m 2 ls [])) ?_ _ _ hL H locs ls hP hD hS hl
    clear hP hD hS hl hE hL
    intro v2 t2 hE hN2 hY2
    intro H locs ls hP hD hS hl
    unfold f_X7_laysBurdens_L2 at hE
    have J_73 : ∀ (x1 : Int32) (σ : St) (H : Heap) (locs : List Loc) (ls : Array Slot), va_P G.1 vwCl (wM G σ) H → va_D A (wM G σ) → va_S A s.heap H locs → lv_has ls 3 [(0, .ref (aD G 43)), (1, .int x1)] → f_X7_laysBurdens_J73 x1 σ = some t2 → W p l e rmX7_laysBurdens s m args below meth c H locs 0 0 Q (F0 m 73 ls []) := by
      intro x1 σ H locs ls hP hD hS hl hE
      unfold f_X7_laysBurdens_J73 at hE
      refine lv_iinc (v := (x1 + (1 : Int32))) (lv' := [(1, .int (x1 + (1 : Int32))), (0, .ref (aD G 43))]) hx hb dX7_laysBurdens_73 hl (k := 1) rfl rfl (by decide) rfl (fun ls hl => ?_)
      refine lv_goto (tgt := 2) hx hb dX7_laysBurdens_76 (by decide) ?_
      exact hN2 _ (Option.some.inj hE).symm _ _ _ hP hD hS (lv_sub hl [1, 0] rfl)
    have J_16 : ∀ (x1 : Int32) (x2 : Int32) (σ : St) (H : Heap) (locs : List Loc) (ls : Array Slot), va_P G.1 vwCl (wM G σ) H → va_D A (wM G σ) → va_S A s.heap H locs → lv_has ls 3 [(0, .ref (aD G 43)), (1, .int x1), (2, .int x2)] → f_X7_laysBurdens_J16 x1 x2 σ = some t2 → W p l e rmX7_laysBurdens s m args below meth c H locs 0 0 Q (F0 m 16 ls []) := by
      intro x1 x2 σ H locs ls hP hD hS hl hE
      unfold f_X7_laysBurdens_J16 at hE
      obtain ⟨y16, hL, hE16⟩ := bnd_some hE
      refine loop_W (body := f_X7_laysBurdens_L16 x1) (y := y16) (P := fun v16 => ∀ (H : Heap) (locs : List Loc) (ls : Array Slot), va_P G.1 vwCl (wM G v16.2) H → va_D A (wM G v16.2) → va_S A s.heap H locs → lv_has ls 3 [(0, .ref (aD G 43)), (1, .int x1), (2, .int v16.1)] → W p l e rmX7_laysBurdens s m args below meth c H locs 0 0 Q (F0 m 16 ls [])) ?_ _ _ hL H locs ls hP hD hS hl
      clear hP hD hS hl hE hL
      intro v16 t16 hE hN16 hY16
      intro H locs ls hP hD hS hl
      unfold f_X7_laysBurdens_L16 at hE
      have J_65 : ∀ (x2 : Int32) (t0 : Int32) (t1 : Int32) (t2 : Int32) (σ : St) (H : Heap) (locs : List Loc) (ls : Array Slot), va_P G.1 vwCl (wM G σ) H → va_D A (wM G σ) → va_S A s.heap H locs → lv_has ls 3 [(0, .ref (aD G 43)), (1, .int x1), (2, .int x2)] → f_X7_laysBurdens_J65 x1 x2 t0 t1 t2 σ = some t16 → W p l e rmX7_laysBurdens s m args below meth c H locs 0 0 Q (F0 m 65 ls [.int t0, .int t1, .int t2, .ref (aD G 40)]) := by
        intro x2 t0 t1 t2 σ H locs ls hP hD hS hl hE
        unfold f_X7_laysBurdens_J65 at hE
        refine lv_iadd hx hb dX7_laysBurdens_65 ?_
        obtain ⟨h_i, hE⟩ := gd_some hE
        refine stM hx hb hK hP hD hS 10 (by decide) h_i dX7_laysBurdens_66 (fun H locs hP hD hS => ?_)
        refine lv_iinc (v := (x2 + (1 : Int32))) (lv' := [(2, .int (x2 + (1 : Int32))), (0, .ref (aD G 43)), (1, .int x1)]) hx hb dX7_laysBurdens_67 hl (k := 2) rfl rfl (by decide) rfl (fun ls hl => ?_)
        refine lv_goto (tgt := 16) hx hb dX7_laysBurdens_70 (by decide) ?_
        exact hN16 _ (Option.some.inj hE).symm _ _ _ hP hD hS (lv_sub hl [1, 2, 0] rfl)
      have J_64 : ∀ (x2 : Int32) (t0 : Int32) (t1 : Int32) (σ : St) (H : Heap) (locs : List Loc) (ls : Array Slot), va_P G.1 vwCl (wM G σ) H → va_D A (wM G σ) → va_S A s.heap H locs → lv_has ls 3 [(0, .ref (aD G 43)), (1, .int x1), (2, .int x2)] → f_X7_laysBurdens_J64 x1 x2 t0 t1 σ = some t16 → W p l e rmX7_laysBurdens s m args below meth c H locs 0 0 Q (F0 m 64 ls [.int t0, .int t1, .ref (aD G 40)]) := by
        intro x2 t0 t1 σ H locs ls hP hD hS hl hE
        unfold f_X7_laysBurdens_J64 at hE
        refine lv_iconst (v := (0 : Int32)) hx hb dX7_laysBurdens_64 (by decide) ?_
        exact J_65 x2 (0 : Int32) t0 t1 σ _ _ _ hP hD hS (lv_sub hl [0, 1, 2] rfl) hE
      refine lv_iload_n hx hb dX7_laysBurdens_16 rfl (lv_at hl 2 rfl) ?_
      refine lv_bipush (v := (80 : Int32)) hx hb dX7_laysBurdens_17 (by decide) ?_
      refine lv_icmp_ge (tgt := 73) hx hb dX7_laysBurdens_19 (by decide) (fun c_ => ?_) (fun c_ => ?_)
      · have hE := ip c_ hE
        have e9 := hY16 _ (Option.some.inj hE).symm
        have hE := hE16
        rw [← e9] at hE
        exact J_73 x1 v16.2 _ _ _ hP hD hS (lv_sub hl [0, 1] rfl) hE
      · have hE := im c_ hE
        refine lv_aload_n hx hb dX7_laysBurdens_22 rfl (lv_at hl 0 rfl) ?_
        refine va_get (ci := 7) (v := .ref (aD G 40)) (C := RX7) (T := TX7) (N := 17) hx hb hts (fun _ h => List.mem_cons_of_mem _ (List.mem_append_right _ h)) hown hK hP 13 rfl rfl 14 (by decide) (hts (.fieldLink RX7 40 "FillCellsModel" "burdens" "[I") (List.mem_of_getElem? (i := 1) rfl)) (fun _ h9 => h9) rfl dX7_laysBurdens_23 ?_
        refine lv_iload_n hx hb dX7_laysBurdens_26 rfl (lv_at hl 1 rfl) ?_
        refine lv_dup2_11 hx hb dX7_laysBurdens_27 rfl rfl ?_
        obtain ⟨h_i, hE⟩ := gd_some hE
        refine ldM hx hb hK hP 10 (by decide) h_i dX7_laysBurdens_28 ?_
        refine lv_aload_n hx hb dX7_laysBurdens_29 rfl (lv_at hl 0 rfl) ?_
        refine va_get (ci := 7) (v := .ref (aD G 30)) (C := RX7) (T := TX7) (N := 17) hx hb hts (fun _ h => List.mem_cons_of_mem _ (List.mem_append_right _ h)) hown hK hP 13 rfl rfl 0 (by decide) (hts (.fieldLink RX7 7 "FillCellsModel" "s" "[I") (List.mem_of_getElem? (i := 2) rfl)) (fun _ h9 => h9) rfl dX7_laysBurdens_30 ?_
        refine lv_sipush (v := (320 : Int32)) hx hb dX7_laysBurdens_33 (by decide) ?_
        refine lv_iload_n hx hb dX7_laysBurdens_36 rfl (lv_at hl 2 rfl) ?_
        refine lv_iadd hx hb dX7_laysBurdens_37 ?_
        obtain ⟨h_i, hE⟩ := gd_some hE
        refine ldM hx hb hK hP 0 (by decide) h_i dX7_laysBurdens_38 ?_
        refine lv_if_le (tgt := 64) hx hb dX7_laysBurdens_39 (by decide) (fun c_ => ?_) (fun c_ => ?_)
        · have hE := ip c_ hE
          exact J_64 v16.1 (rd v16.2 10 x1) x1 v16.2 _ _ _ hP hD hS (lv_sub hl [0, 1, 2] rfl) hE
        · have hE := im c_ hE
          refine lv_aload_n hx hb dX7_laysBurdens_42 rfl (lv_at hl 0 rfl) ?_
          refine lv_iload_n hx hb dX7_laysBurdens_43 rfl (lv_at hl 2 rfl) ?_
          refine lv_iload_n hx hb dX7_laysBurdens_44 rfl (lv_at hl 1 rfl) ?_
          obtain ⟨r1, hC, hE⟩ := bnd_some hE
          refine ci (va_runV (As := [.int v16.1, .int x1]) (rest := [.int (rd v16.2 10 x1), .int x1, .ref (aD G 40)]) ⟨hx, hb, hml, hown, hts⟩ (c_X7_isBurden l G v16.1 x1 v16.2 r1 hC _) (cwV 2 hts gX7_laysBurdens_X7_isBurden rfl rfl rfl (by decide +kernel) ⟨Nat.le_of_ble_eq_true rfl, Nat.le_of_ble_eq_true rfl⟩) (preV hK hP hD hS hA hX (va_recv hK hP (ci := 7) (q0 := 13) rfl rfl)) rfl rfl hl.1 rfl (lv_room (Nat.le_of_ble_eq_true rfl)) dX7_laysBurdens_45 ⟨Nat.le_of_ble_eq_true rfl, Nat.le_of_ble_eq_true rfl⟩) hD hS hA (fun H locs hP hD hS => ?_)
          refine lv_if_eq (tgt := 64) hx hb dX7_laysBurdens_48 (by decide) (fun c_ => ?_) (fun c_ => ?_)
          · have hE := ip c_ hE
            exact J_64 v16.1 (rd v16.2 10 x1) x1 v16.2 _ _ _ hP hD hS (lv_sub hl [0, 1, 2] rfl) hE
          · have hE := im c_ hE
            refine lv_aload_n hx hb dX7_laysBurdens_51 rfl (lv_at hl 0 rfl) ?_
            refine va_get (ci := 7) (v := .ref (aD G 30)) (C := RX7) (T := TX7) (N := 17) hx hb hts (fun _ h => List.mem_cons_of_mem _ (List.mem_append_right _ h)) hown hK hP 13 rfl rfl 0 (by decide) (hts (.fieldLink RX7 7 "FillCellsModel" "s" "[I") (List.mem_of_getElem? (i := 2) rfl)) (fun _ h9 => h9) rfl dX7_laysBurdens_52 ?_
            refine lv_sipush (v := (320 : Int32)) hx hb dX7_laysBurdens_55 (by decide) ?_
            refine lv_iload_n hx hb dX7_laysBurdens_58 rfl (lv_at hl 2 rfl) ?_
            refine lv_iadd hx hb dX7_laysBurdens_59 ?_
            obtain ⟨h_i, hE⟩ := gd_some hE
            refine ldM hx hb hK hP 0 (by decide) h_i dX7_laysBurdens_60 ?_
            refine lv_goto (tgt := 65) hx hb dX7_laysBurdens_61 (by decide) ?_
            exact J_65 v16.1 (rd v16.2 0 ((320 : Int32) + v16.1)) (rd v16.2 10 x1) x1 v16.2 _ _ _ hP hD hS (lv_sub hl [0, 1, 2] rfl) hE
    refine lv_iload_n hx hb dX7_laysBurdens_2 rfl (lv_at hl 1 rfl) ?_
    refine lv_iconst (v := (4 : Int32)) hx hb dX7_laysBurdens_3 (by decide) ?_
    refine lv_icmp_ge (tgt := 79) hx hb dX7_laysBurdens_4 (by decide) (fun c_ => ?_) (fun c_ => ?_)
    · have hE := ip c_ hE
      have e9 := hY2 _ (Option.some.inj hE).symm
      have hE := hE2
      rw [← e9] at hE
      rw [← hQ, ← Option.some.inj hE]
      exact rv hx hb hr hlocks hK hP hD hS dX7_laysBurdens_79
    · have hE := im c_ hE
      refine lv_aload_n hx hb dX7_laysBurdens_7 rfl (lv_at hl 0 rfl) ?_
      refine va_get (ci := 7) (v := .ref (aD G 40)) (C := RX7) (T := TX7) (N := 17) hx hb hts (fun _ h => List.mem_cons_of_mem _ (List.mem_append_right _ h)) hown hK hP 13 rfl rfl 14 (by decide) (hts (.fieldLink RX7 40 "FillCellsModel" "burdens" "[I") (List.mem_of_getElem? (i := 1) rfl)) (fun _ h9 => h9) rfl dX7_laysBurdens_8 ?_
      refine lv_iload_n hx hb dX7_laysBurdens_11 rfl (lv_at hl 1 rfl) ?_
      refine lv_iconst (v := (0 : Int32)) hx hb dX7_laysBurdens_12 (by decide) ?_
      obtain ⟨h_i, hE⟩ := gd_some hE
      refine stM hx hb hK hP hD hS 10 (by decide) h_i dX7_laysBurdens_13 (fun H locs hP hD hS => ?_)
      refine lv_iconst (v := (0 : Int32)) hx hb dX7_laysBurdens_14 (by decide) ?_
      refine lv_istore_n (lv' := [(2, .int (0 : Int32)), (0, .ref (aD G 43)), (1, .int v2.1)]) hx hb dX7_laysBurdens_15 rfl hl (by decide) rfl (fun ls hl => ?_)
      exact J_16 v2.1 (0 : Int32) (sA v2.2 10 v2.1 (0 : Int32)) _ _ _ hP hD hS (lv_sub hl [1, 2, 0] rfl) hE
  refine lv_iconst (v := (1 : Int32)) hx hb dX7_laysBurdens_0 (by decide) ?_
  refine lv_istore_n (lv' := [(1, .int (1 : Int32)), (0, .ref (aD G 43))]) hx hb dX7_laysBurdens_1 rfl hl (by decide) rfl (fun ls hl => ?_)
  exact J_2 (1 : Int32) σ _ _ _ hP hD hS (lv_sub hl [1, 0] rfl) hE
abbrev rmX7_lays : Room := { frames := 3, cells := 0, slots := 0, locals := 67 }

def f_X7_lays (σ : St) : Option St := bnd (f_X7_laysSums σ) (fun r1 => bnd (f_X7_laysThin r1) (fun r2 => bnd (f_X7_laysBurdens r2) (fun r3 => some r3)))
set_option maxHeartbeats 4000000 in
set_option maxRecDepth 100000 in
theorem c_X7_lays (l : Launch) (G : EV)   (σ : St) (r : St) (hE : f_X7_lays σ = some r) : MetV l G yX7_lays wsX7_lays rmX7_lays [.ref (aD G 43)] (wM G σ) (wM G r) := by
  refine Met.of0 (Qf := PV G (wM G r)) (cc := cX7_lays) (maxL := 1) (ret := none) (by decide) rfl (Nat.le_of_ble_eq_true rfl) ?_
  intro p e s m below meth c args A hx hb hr hts hown hlocks hml hin0 hA hS hP hK hD hX ls hl
  have hl : lv_has ls 1 [(0, .ref (aD G 43))] := hl
  generalize hQ : MQ below (PV G (wM G r) A) args s 0 0 A = Q
  unfold f_X7_lays at hE
  refine lv_aload_n hx hb dX7_lays_0 rfl (lv_at hl 0 rfl) ?_
  obtain ⟨r1, hC, hE⟩ := bnd_some hE
  refine cv (va_runV (As := []) (rest := []) ⟨hx, hb, hml, hown, hts⟩ (c_X7_laysSums l G σ r1 hC _) (cwV 0 hts gX7_lays_X7_laysSums rfl rfl rfl (by decide +kernel) ⟨Nat.le_of_ble_eq_true rfl, Nat.le_of_ble_eq_true rfl⟩) (preV hK hP hD hS hA hX (va_recv hK hP (ci := 7) (q0 := 13) rfl rfl)) rfl rfl hl.1 rfl (lv_room (Nat.le_of_ble_eq_true rfl)) dX7_lays_1 ⟨Nat.le_of_ble_eq_true rfl, Nat.le_of_ble_eq_true rfl⟩) hD hS hA (fun H locs hP hD hS => ?_)
  refine lv_aload_n hx hb dX7_lays_4 rfl (lv_at hl 0 rfl) ?_
  obtain ⟨r2, hC, hE⟩ := bnd_some hE
  refine cv (va_runV (As := []) (rest := []) ⟨hx, hb, hml, hown, hts⟩ (c_X7_laysThin l G r1 r2 hC _) (cwV 0 hts gX7_lays_X7_laysThin rfl rfl rfl (by decide +kernel) ⟨Nat.le_of_ble_eq_true rfl, Nat.le_of_ble_eq_true rfl⟩) (preV hK hP hD hS hA hX (va_recv hK hP (ci := 7) (q0 := 13) rfl rfl)) rfl rfl hl.1 rfl (lv_room (Nat.le_of_ble_eq_true rfl)) dX7_lays_5 ⟨Nat.le_of_ble_eq_true rfl, Nat.le_of_ble_eq_true rfl⟩) hD hS hA (fun H locs hP hD hS => ?_)
  refine lv_aload_n hx hb dX7_lays_8 rfl (lv_at hl 0 rfl) ?_
  obtain ⟨r3, hC, hE⟩ := bnd_some hE
  refine cv (va_runV (As := []) (rest := []) ⟨hx, hb, hml, hown, hts⟩ (c_X7_laysBurdens l G r2 r3 hC _) (cwV 0 hts gX7_lays_X7_laysBurdens rfl rfl rfl (by decide +kernel) ⟨Nat.le_of_ble_eq_true rfl, Nat.le_of_ble_eq_true rfl⟩) (preV hK hP hD hS hA hX (va_recv hK hP (ci := 7) (q0 := 13) rfl rfl)) rfl rfl hl.1 rfl (lv_room (Nat.le_of_ble_eq_true rfl)) dX7_lays_9 ⟨Nat.le_of_ble_eq_true rfl, Nat.le_of_ble_eq_true rfl⟩) hD hS hA (fun H locs hP hD hS => ?_)
  rw [← hQ, ← Option.some.inj hE]
  exact rv hx hb hr hlocks hK hP hD hS dX7_lays_12
abbrev rmX7_marks : Room := { frames := 0, cells := 0, slots := 0, locals := 0 }
def f_X7_marks_J54 (x1 : Int32) (x2 : Int32) (x3 : Int32) (σ : St) : Option (((St)) ⊕ (Int32 × St)) := gd x3 80 (gd (gI (sA σ 8 x3 (1 : Int32)) 3) 80 (some (.inr ((x3 + (1 : Int32)), (sI (sA (sA σ 8 x3 (1 : Int32)) 9 (gI (sA σ 8 x3 (1 : Int32)) 3) x3) 3 ((gI (sA (sA σ 8 x3 (1 : Int32)) 9 (gI (sA σ 8 x3 (1 : Int32)) 3) x3) 3) + (1 : Int32)))))))
def f_X7_marks_L18 (x1 : Int32) (x2 : Int32) (v18 : Int32 × St) : Option (((St)) ⊕ (Int32 × St)) := if (80 : Int32) ≤ v18.1 then (some (.inl (v18.2))) else (gd v18.1 80 (if v18.1 = x1 then (f_X7_marks_J54 x1 x2 v18.1 (sA v18.2 8 v18.1 (0 : Int32))) else (if x2 ≤ 0 then (some (.inr ((v18.1 + (1 : Int32)), (sA v18.2 8 v18.1 (0 : Int32))))) else (gd ((240 : Int32) + v18.1) 400 (if (rd (sA v18.2 8 v18.1 (0 : Int32)) 0 ((240 : Int32) + v18.1)) = x2 then (f_X7_marks_J54 x1 x2 v18.1 (sA v18.2 8 v18.1 (0 : Int32))) else (some (.inr ((v18.1 + (1 : Int32)), (sA v18.2 8 v18.1 (0 : Int32))))))))))
def f_X7_marks_J18 (x1 : Int32) (x2 : Int32) (x3 : Int32) (σ : St) : Option St := bnd (loopN (f_X7_marks_L18 x1 x2) 4096 (x3, σ)) (fun y18 => some y18)
def f_X7_marks (x1 : Int32) (σ : St) : Option St := gd ((240 : Int32) + x1) 400 (f_X7_marks_J18 x1 (rd σ 0 ((240 : Int32) + x1)) (0 : Int32) (sI σ 3 (0 : Int32)))
set_option maxHeartbeats 4000000 in
set_option maxRecDepth 100000 in
theorem c_X7_marks (l : Launch) (G : EV)  (x1 : Int32) (σ : St) (r : St) (hE : f_X7_marks x1 σ = some r) : MetV l G yX7_marks wsX7_marks rmX7_marks [.ref (aD G 43), .int x1] (wM G σ) (wM G r) := by
  refine Met.of0 (Qf := PV G (wM G r)) (cc := cX7_marks) (maxL := 4) (ret := none) (by decide) rfl (Nat.le_of_ble_eq_true rfl) ?_
  intro p e s m below meth c args A hx hb hr hts hown hlocks hml hin0 hA hS hP hK hD hX ls hl
  have hl : lv_has ls 4 [(0, .ref (aD G 43)), (1, .int x1)] := hl
  generalize hQ : MQ below (PV G (wM G r) A) args s 0 0 A = Q
  unfold f_X7_marks at hE
  have J_18 : ∀ (x2 : Int32) (x3 : Int32) (σ : St) (H : Heap) (locs : List Loc) (ls : Array Slot), va_P G.1 vwCl (wM G σ) H → va_D A (wM G σ) → va_S A s.heap H locs → lv_has ls 4 [(0, .ref (aD G 43)), (1, .int x1), (2, .int x2), (3, .int x3)] → f_X7_marks_J18 x1 x2 x3 σ = some r → W p l e rmX7_marks s m args below meth c H locs 0 0 Q (F0 m 18 ls []) := by
    intro x2 x3 σ H locs ls hP hD hS hl hE
    unfold f_X7_marks_J18 at hE
    obtain ⟨y18, hL, hE18⟩ := bnd_some hE
    refine loop_W (body := f_X7_marks_L18 x1 x2) (y := y18) (P := fun v18 => ∀ (H : Heap) (locs : List Loc) (ls : Array Slot), va_P G.1 vwCl (wM G v18.2) H → va_D A (wM G v18.2) → va_S A s.heap H locs → lv_has ls 4 [(0, .ref (aD G 43)), (1, .int x1), (2, .int x2), (3, .int v18.1)] → W p l e rmX7_marks s m args below meth c H locs 0 0 Q (F0 m 18 ls [])) ?_ _ _ hL H locs ls hP hD hS hl
    clear hP hD hS hl hE hL
    intro v18 t18 hE hN18 hY18
    intro H locs ls hP hD hS hl
    unfold f_X7_marks_L18 at hE
    have J_54 : ∀ (x3 : Int32) (σ : St) (H : Heap) (locs : List Loc) (ls : Array Slot), va_P G.1 vwCl (wM G σ) H → va_D A (wM G σ) → va_S A s.heap H locs → lv_has ls 4 [(0, .ref (aD G 43)), (1, .int x1), (2, .int x2), (3, .int x3)] → f_X7_marks_J54 x1 x2 x3 σ = some t18 → W p l e rmX7_marks s m args below meth c H locs 0 0 Q (F0 m 54 ls []) := by
      intro x3 σ H locs ls hP hD hS hl hE
      unfold f_X7_marks_J54 at hE
      refine lv_aload_n hx hb dX7_marks_54 rfl (lv_at hl 0 rfl) ?_
      refine va_get (ci := 7) (v := .ref (aD G 38)) (C := RX7) (T := TX7) (N := 17) hx hb hts (fun _ h => List.mem_cons_of_mem _ (List.mem_append_right _ h)) hown hK hP 13 rfl rfl 11 (by decide) (hts (.fieldLink RX7 34 "FillCellsModel" "family" "[I") (List.mem_of_getElem? (i := 3) rfl)) (fun _ h9 => h9) rfl dX7_marks_55 ?_
      refine lv_iload_n hx hb dX7_marks_58 rfl (lv_at hl 3 rfl) ?_
      refine lv_iconst (v := (1 : Int32)) hx hb dX7_marks_59 (by decide) ?_
      obtain ⟨h_i, hE⟩ := gd_some hE
      refine stM hx hb hK hP hD hS 8 (by decide) h_i dX7_marks_60 (fun H locs hP hD hS => ?_)
      refine lv_aload_n hx hb dX7_marks_61 rfl (lv_at hl 0 rfl) ?_
      refine va_get (ci := 7) (v := .ref (aD G 39)) (C := RX7) (T := TX7) (N := 17) hx hb hts (fun _ h => List.mem_cons_of_mem _ (List.mem_append_right _ h)) hown hK hP 13 rfl rfl 12 (by decide) (hts (.fieldLink RX7 37 "FillCellsModel" "members" "[I") (List.mem_of_getElem? (i := 4) rfl)) (fun _ h9 => h9) rfl dX7_marks_62 ?_
      refine lv_aload_n hx hb dX7_marks_65 rfl (lv_at hl 0 rfl) ?_
      refine va_get (ci := 7) (v := .int (gI (sA σ 8 x3 (1 : Int32)) 3)) (C := RX7) (T := TX7) (N := 17) hx hb hts (fun _ h => List.mem_cons_of_mem _ (List.mem_append_right _ h)) hown hK hP 13 rfl rfl 13 (by decide) (hts (.fieldLink RX7 112 "FillCellsModel" "size" "I") (List.mem_of_getElem? (i := 2) rfl)) (fun _ h9 => h9) rfl dX7_marks_66 ?_
      refine lv_iload_n hx hb dX7_marks_69 rfl (lv_at hl 3 rfl) ?_
      obtain ⟨h_i, hE⟩ := gd_some hE
      refine stM hx hb hK hP hD hS 9 (by decide) h_i dX7_marks_70 (fun H locs hP hD hS => ?_)
      refine lv_aload_n hx hb dX7_marks_71 rfl (lv_at hl 0 rfl) ?_
      refine lv_dup hx hb dX7_marks_72 rfl ?_
      refine va_get (ci := 7) (v := .int (gI (sA (sA σ 8 x3 (1 : Int32)) 9 (gI (sA σ 8 x3 (1 : Int32)) 3) x3) 3)) (C := RX7) (T := TX7) (N := 17) hx hb hts (fun _ h => List.mem_cons_of_mem _ (List.mem_append_right _ h)) hown hK hP 13 rfl rfl 13 (by decide) (hts (.fieldLink RX7 112 "FillCellsModel" "size" "I") (List.mem_of_getElem? (i := 2) rfl)) (fun _ h9 => h9) rfl dX7_marks_73 ?_
      refine lv_iconst (v := (1 : Int32)) hx hb dX7_marks_76 (by decide) ?_
      refine lv_iadd hx hb dX7_marks_77 ?_
      refine va_put (ci := 7) (v := .int ((gI (sA (sA σ 8 x3 (1 : Int32)) 9 (gI (sA σ 8 x3 (1 : Int32)) 3) x3) 3) + (1 : Int32))) (ty := .int) (C := RX7) (T := TX7) (N := 17) hx hb hts (fun _ h => List.mem_cons_of_mem _ (List.mem_append_right _ h)) tyX7 tyX7_ok nmX7 hown hK hP hD hS 13 rfl rfl 13 (by decide) (hts (.fieldLink RX7 112 "FillCellsModel" "size" "I") (List.mem_of_getElem? (i := 2) rfl)) (fun _ h9 => h9) rfl (by decide +kernel) rfl rfl (Nat.le_of_ble_eq_true rfl) dX7_marks_78 (fun H locs hP hD hS => ?_)
      have hP : va_P G.1 vwCl (wM G (sI (sA (sA σ 8 x3 (1 : Int32)) 9 (gI (sA σ 8 x3 (1 : Int32)) 3) x3) 3 ((gI (sA (sA σ 8 x3 (1 : Int32)) 9 (gI (sA σ 8 x3 (1 : Int32)) 3) x3) 3) + (1 : Int32)))) H := hP
      have hD : va_D A (wM G (sI (sA (sA σ 8 x3 (1 : Int32)) 9 (gI (sA σ 8 x3 (1 : Int32)) 3) x3) 3 ((gI (sA (sA σ 8 x3 (1 : Int32)) 9 (gI (sA σ 8 x3 (1 : Int32)) 3) x3) 3) + (1 : Int32)))) := hD
      refine lv_iinc (v := (x3 + (1 : Int32))) (lv' := [(3, .int (x3 + (1 : Int32))), (0, .ref (aD G 43)), (1, .int x1), (2, .int x2)]) hx hb dX7_marks_81 hl (k := 3) rfl rfl (by decide) rfl (fun ls hl => ?_)
      refine lv_goto (tgt := 18) hx hb dX7_marks_84 (by decide) ?_
      exact hN18 _ (Option.some.inj hE).symm _ _ _ hP hD hS (lv_sub hl [1, 2, 3, 0] rfl)
    refine lv_iload_n hx hb dX7_marks_18 rfl (lv_at hl 3 rfl) ?_
    refine lv_bipush (v := (80 : Int32)) hx hb dX7_marks_19 (by decide) ?_
    refine lv_icmp_ge (tgt := 87) hx hb dX7_marks_21 (by decide) (fun c_ => ?_) (fun c_ => ?_)
    · have hE := ip c_ hE
      have e9 := hY18 _ (Option.some.inj hE).symm
      have hE := hE18
      rw [← e9] at hE
      rw [← hQ, ← Option.some.inj hE]
      exact rv hx hb hr hlocks hK hP hD hS dX7_marks_87
    · have hE := im c_ hE
      refine lv_aload_n hx hb dX7_marks_24 rfl (lv_at hl 0 rfl) ?_
      refine va_get (ci := 7) (v := .ref (aD G 38)) (C := RX7) (T := TX7) (N := 17) hx hb hts (fun _ h => List.mem_cons_of_mem _ (List.mem_append_right _ h)) hown hK hP 13 rfl rfl 11 (by decide) (hts (.fieldLink RX7 34 "FillCellsModel" "family" "[I") (List.mem_of_getElem? (i := 3) rfl)) (fun _ h9 => h9) rfl dX7_marks_25 ?_
      refine lv_iload_n hx hb dX7_marks_28 rfl (lv_at hl 3 rfl) ?_
      refine lv_iconst (v := (0 : Int32)) hx hb dX7_marks_29 (by decide) ?_
      obtain ⟨h_i, hE⟩ := gd_some hE
      refine stM hx hb hK hP hD hS 8 (by decide) h_i dX7_marks_30 (fun H locs hP hD hS => ?_)
      refine lv_iload_n hx hb dX7_marks_31 rfl (lv_at hl 3 rfl) ?_
      refine lv_iload_n hx hb dX7_marks_32 rfl (lv_at hl 1 rfl) ?_
      refine lv_icmp_eq (tgt := 54) hx hb dX7_marks_33 (by decide) (fun c_ => ?_) (fun c_ => ?_)
      · have hE := ip c_ hE
        exact J_54 v18.1 (sA v18.2 8 v18.1 (0 : Int32)) _ _ _ hP hD hS (lv_sub hl [0, 1, 2, 3] rfl) hE
      · have hE := im c_ hE
        refine lv_iload_n hx hb dX7_marks_36 rfl (lv_at hl 2 rfl) ?_
        refine lv_if_le (tgt := 81) hx hb dX7_marks_37 (by decide) (fun c_ => ?_) (fun c_ => ?_)
        · have hE := ip c_ hE
          refine lv_iinc (v := (v18.1 + (1 : Int32))) (lv' := [(3, .int (v18.1 + (1 : Int32))), (0, .ref (aD G 43)), (1, .int x1), (2, .int x2)]) hx hb dX7_marks_81 hl (k := 3) rfl rfl (by decide) rfl (fun ls hl => ?_)
          refine lv_goto (tgt := 18) hx hb dX7_marks_84 (by decide) ?_
          exact hN18 _ (Option.some.inj hE).symm _ _ _ hP hD hS (lv_sub hl [1, 2, 3, 0] rfl)
        · have hE := im c_ hE
          refine lv_aload_n hx hb dX7_marks_40 rfl (lv_at hl 0 rfl) ?_
          refine va_get (ci := 7) (v := .ref (aD G 30)) (C := RX7) (T := TX7) (N := 17) hx hb hts (fun _ h => List.mem_cons_of_mem _ (List.mem_append_right _ h)) hown hK hP 13 rfl rfl 0 (by decide) (hts (.fieldLink RX7 7 "FillCellsModel" "s" "[I") (List.mem_of_getElem? (i := 1) rfl)) (fun _ h9 => h9) rfl dX7_marks_41 ?_
          refine lv_sipush (v := (240 : Int32)) hx hb dX7_marks_44 (by decide) ?_
          refine lv_iload_n hx hb dX7_marks_47 rfl (lv_at hl 3 rfl) ?_
          refine lv_iadd hx hb dX7_marks_48 ?_
          obtain ⟨h_i, hE⟩ := gd_some hE
          refine ldM hx hb hK hP 0 (by decide) h_i dX7_marks_49 ?_
          refine lv_iload_n hx hb dX7_marks_50 rfl (lv_at hl 2 rfl) ?_
          refine lv_icmp_ne (tgt := 81) hx hb dX7_marks_51 (by decide) (fun c_ => ?_) (fun c_ => ?_)
          · have hE := im c_ hE
            refine lv_iinc (v := (v18.1 + (1 : Int32))) (lv' := [(3, .int (v18.1 + (1 : Int32))), (0, .ref (aD G 43)), (1, .int x1), (2, .int x2)]) hx hb dX7_marks_81 hl (k := 3) rfl rfl (by decide) rfl (fun ls hl => ?_)
            refine lv_goto (tgt := 18) hx hb dX7_marks_84 (by decide) ?_
            exact hN18 _ (Option.some.inj hE).symm _ _ _ hP hD hS (lv_sub hl [1, 2, 3, 0] rfl)
          · have hE := ip c_ hE
            exact J_54 v18.1 (sA v18.2 8 v18.1 (0 : Int32)) _ _ _ hP hD hS (lv_sub hl [0, 1, 2, 3] rfl) hE
  refine lv_aload_n hx hb dX7_marks_0 rfl (lv_at hl 0 rfl) ?_
  refine va_get (ci := 7) (v := .ref (aD G 30)) (C := RX7) (T := TX7) (N := 17) hx hb hts (fun _ h => List.mem_cons_of_mem _ (List.mem_append_right _ h)) hown hK hP 13 rfl rfl 0 (by decide) (hts (.fieldLink RX7 7 "FillCellsModel" "s" "[I") (List.mem_of_getElem? (i := 1) rfl)) (fun _ h9 => h9) rfl dX7_marks_1 ?_
  refine lv_sipush (v := (240 : Int32)) hx hb dX7_marks_4 (by decide) ?_
  refine lv_iload_n hx hb dX7_marks_7 rfl (lv_at hl 1 rfl) ?_
  refine lv_iadd hx hb dX7_marks_8 ?_
  obtain ⟨h_i, hE⟩ := gd_some hE
  refine ldM hx hb hK hP 0 (by decide) h_i dX7_marks_9 ?_
  refine lv_istore_n (lv' := [(2, .int (rd σ 0 ((240 : Int32) + x1))), (0, .ref (aD G 43)), (1, .int x1)]) hx hb dX7_marks_10 rfl hl (by decide) rfl (fun ls hl => ?_)
  refine lv_aload_n hx hb dX7_marks_11 rfl (lv_at hl 1 rfl) ?_
  refine lv_iconst (v := (0 : Int32)) hx hb dX7_marks_12 (by decide) ?_
  refine va_put (ci := 7) (v := .int (0 : Int32)) (ty := .int) (C := RX7) (T := TX7) (N := 17) hx hb hts (fun _ h => List.mem_cons_of_mem _ (List.mem_append_right _ h)) tyX7 tyX7_ok nmX7 hown hK hP hD hS 13 rfl rfl 13 (by decide) (hts (.fieldLink RX7 112 "FillCellsModel" "size" "I") (List.mem_of_getElem? (i := 2) rfl)) (fun _ h9 => h9) rfl (by decide +kernel) rfl rfl (Nat.le_of_ble_eq_true rfl) dX7_marks_13 (fun H locs hP hD hS => ?_)
  have hP : va_P G.1 vwCl (wM G (sI σ 3 (0 : Int32))) H := hP
  have hD : va_D A (wM G (sI σ 3 (0 : Int32))) := hD
  refine lv_iconst (v := (0 : Int32)) hx hb dX7_marks_16 (by decide) ?_
  refine lv_istore_n (lv' := [(3, .int (0 : Int32)), (2, .int (rd σ 0 ((240 : Int32) + x1))), (0, .ref (aD G 43)), (1, .int x1)]) hx hb dX7_marks_17 rfl hl (by decide) rfl (fun ls hl => ?_)
  exact J_18 (rd σ 0 ((240 : Int32) + x1)) (0 : Int32) (sI σ 3 (0 : Int32)) _ _ _ hP hD hS (lv_sub hl [2, 3, 1, 0] rfl) hE
abbrev rmX7_manyIn : Room := { frames := 0, cells := 0, slots := 0, locals := 0 }
def f_X7_manyIn_L4 (x1 : Int32) (σ : St) (v4 : Int32 × Int32) : Option (((Int32)) ⊕ (Int32 × Int32)) := gd (0 : Int32) 8 (gd (1 : Int32) 8 (if ((rd σ 3 (0 : Int32)) * (rd σ 3 (1 : Int32))) ≤ v4.2 then (some (.inl (v4.1))) else (gd (1 : Int32) 8 (dz (rd σ 3 (1 : Int32)) (gd (1 : Int32) 8 (dz (rd σ 3 (1 : Int32)) (gd ((x1 + ((10 : Int32) * (v4.2 / (rd σ 3 (1 : Int32))))) + (jrem v4.2 (rd σ 3 (1 : Int32)))) 80 (some (.inr ((v4.1 + (rd σ 8 ((x1 + ((10 : Int32) * (v4.2 / (rd σ 3 (1 : Int32))))) + (jrem v4.2 (rd σ 3 (1 : Int32)))))), (v4.2 + (1 : Int32))))))))))))
def f_X7_manyIn_J4 (x1 : Int32) (x2 : Int32) (x3 : Int32) (σ : St) : Option Int32 := bnd (loopN (f_X7_manyIn_L4 x1 σ) 4096 (x2, x3)) (fun y4 => some y4)
def f_X7_manyIn (x1 : Int32) (σ : St) : Option Int32 := f_X7_manyIn_J4 x1 (0 : Int32) (0 : Int32) σ
set_option maxHeartbeats 4000000 in
set_option maxRecDepth 100000 in
theorem c_X7_manyIn (l : Launch) (G : EV)  (x1 : Int32) (σ : St) (r : Int32) (hE : f_X7_manyIn x1 σ = some r) : MetI l G yX7_manyIn wsX7_manyIn rmX7_manyIn [.ref (aD G 43), .int x1] (wM G σ) r (wM G σ) := by
  refine Met.of0 (Qf := PI G r (wM G σ)) (cc := cX7_manyIn) (maxL := 4) (ret := (some .int)) (by decide) rfl (Nat.le_of_ble_eq_true rfl) ?_
  intro p e s m below meth c args A hx hb hr hts hown hlocks hml hin0 hA hS hP hK hD hX ls hl
  have hl : lv_has ls 4 [(0, .ref (aD G 43)), (1, .int x1)] := hl
  generalize hQ : MQ below (PI G r (wM G σ) A) args s 0 0 A = Q
  unfold f_X7_manyIn at hE
  have J_4 : ∀ (x2 : Int32) (x3 : Int32) (H : Heap) (locs : List Loc) (ls : Array Slot), va_P G.1 vwCl (wM G σ) H → va_D A (wM G σ) → va_S A s.heap H locs → lv_has ls 4 [(0, .ref (aD G 43)), (1, .int x1), (2, .int x2), (3, .int x3)] → f_X7_manyIn_J4 x1 x2 x3 σ = some r → W p l e rmX7_manyIn s m args below meth c H locs 0 0 Q (F0 m 4 ls []) := by
    intro x2 x3 H locs ls hP hD hS hl hE
    unfold f_X7_manyIn_J4 at hE
    obtain ⟨y4, hL, hE4⟩ := bnd_some hE
    refine loop_W (body := f_X7_manyIn_L4 x1 σ) (y := y4) (P := fun v4 => ∀ (H : Heap) (locs : List Loc) (ls : Array Slot), va_P G.1 vwCl (wM G σ) H → va_D A (wM G σ) → va_S A s.heap H locs → lv_has ls 4 [(0, .ref (aD G 43)), (1, .int x1), (2, .int v4.1), (3, .int v4.2)] → W p l e rmX7_manyIn s m args below meth c H locs 0 0 Q (F0 m 4 ls [])) ?_ _ _ hL H locs ls hP hD hS hl
    clear hP hD hS hl hE hL
    intro v4 t4 hE hN4 hY4
    intro H locs ls hP hD hS hl
    unfold f_X7_manyIn_L4 at hE
    refine lv_iload_n hx hb dX7_manyIn_4 rfl (lv_at hl 3 rfl) ?_
    refine lv_aload_n hx hb dX7_manyIn_5 rfl (lv_at hl 0 rfl) ?_
    refine va_get (ci := 7) (v := .ref (aD G 33)) (C := RX7) (T := TX7) (N := 17) hx hb hts (fun _ h => List.mem_cons_of_mem _ (List.mem_append_right _ h)) hown hK hP 13 rfl rfl 4 (by decide) (hts (.fieldLink RX7 19 "FillCellsModel" "rules" "[I") (List.mem_of_getElem? (i := 1) rfl)) (fun _ h9 => h9) rfl dX7_manyIn_6 ?_
    refine lv_iconst (v := (0 : Int32)) hx hb dX7_manyIn_9 (by decide) ?_
    obtain ⟨h_i, hE⟩ := gd_some hE
    refine ldM hx hb hK hP 3 (by decide) h_i dX7_manyIn_10 ?_
    refine lv_aload_n hx hb dX7_manyIn_11 rfl (lv_at hl 0 rfl) ?_
    refine va_get (ci := 7) (v := .ref (aD G 33)) (C := RX7) (T := TX7) (N := 17) hx hb hts (fun _ h => List.mem_cons_of_mem _ (List.mem_append_right _ h)) hown hK hP 13 rfl rfl 4 (by decide) (hts (.fieldLink RX7 19 "FillCellsModel" "rules" "[I") (List.mem_of_getElem? (i := 1) rfl)) (fun _ h9 => h9) rfl dX7_manyIn_12 ?_
    refine lv_iconst (v := (1 : Int32)) hx hb dX7_manyIn_15 (by decide) ?_
    obtain ⟨h_i, hE⟩ := gd_some hE
    refine ldM hx hb hK hP 3 (by decide) h_i dX7_manyIn_16 ?_
    refine lv_imul hx hb dX7_manyIn_17 ?_
    refine lv_icmp_ge (tgt := 57) hx hb dX7_manyIn_18 (by decide) (fun c_ => ?_) (fun c_ => ?_)
    · have hE := ip c_ hE
      have e9 := hY4 _ (Option.some.inj hE).symm
      have hE := hE4
      rw [← e9] at hE
      refine lv_iload_n hx hb dX7_manyIn_57 rfl (lv_at hl 2 rfl) ?_
      rw [← hQ, ← Option.some.inj hE]
      exact ri hx hb hr hlocks hK hP hD hS dX7_manyIn_58
    · have hE := im c_ hE
      refine lv_iload_n hx hb dX7_manyIn_21 rfl (lv_at hl 2 rfl) ?_
      refine lv_aload_n hx hb dX7_manyIn_22 rfl (lv_at hl 0 rfl) ?_
      refine va_get (ci := 7) (v := .ref (aD G 38)) (C := RX7) (T := TX7) (N := 17) hx hb hts (fun _ h => List.mem_cons_of_mem _ (List.mem_append_right _ h)) hown hK hP 13 rfl rfl 11 (by decide) (hts (.fieldLink RX7 34 "FillCellsModel" "family" "[I") (List.mem_of_getElem? (i := 2) rfl)) (fun _ h9 => h9) rfl dX7_manyIn_23 ?_
      refine lv_iload_n hx hb dX7_manyIn_26 rfl (lv_at hl 1 rfl) ?_
      refine lv_bipush (v := (10 : Int32)) hx hb dX7_manyIn_27 (by decide) ?_
      refine lv_iload_n hx hb dX7_manyIn_29 rfl (lv_at hl 3 rfl) ?_
      refine lv_aload_n hx hb dX7_manyIn_30 rfl (lv_at hl 0 rfl) ?_
      refine va_get (ci := 7) (v := .ref (aD G 33)) (C := RX7) (T := TX7) (N := 17) hx hb hts (fun _ h => List.mem_cons_of_mem _ (List.mem_append_right _ h)) hown hK hP 13 rfl rfl 4 (by decide) (hts (.fieldLink RX7 19 "FillCellsModel" "rules" "[I") (List.mem_of_getElem? (i := 1) rfl)) (fun _ h9 => h9) rfl dX7_manyIn_31 ?_
      refine lv_iconst (v := (1 : Int32)) hx hb dX7_manyIn_34 (by decide) ?_
      obtain ⟨h_i, hE⟩ := gd_some hE
      refine ldM hx hb hK hP 3 (by decide) h_i dX7_manyIn_35 ?_
      obtain ⟨h_z, hE⟩ := dz_some hE
      refine lv_idiv hx hb dX7_manyIn_36 h_z ?_
      refine lv_imul hx hb dX7_manyIn_37 ?_
      refine lv_iadd hx hb dX7_manyIn_38 ?_
      refine lv_iload_n hx hb dX7_manyIn_39 rfl (lv_at hl 3 rfl) ?_
      refine lv_aload_n hx hb dX7_manyIn_40 rfl (lv_at hl 0 rfl) ?_
      refine va_get (ci := 7) (v := .ref (aD G 33)) (C := RX7) (T := TX7) (N := 17) hx hb hts (fun _ h => List.mem_cons_of_mem _ (List.mem_append_right _ h)) hown hK hP 13 rfl rfl 4 (by decide) (hts (.fieldLink RX7 19 "FillCellsModel" "rules" "[I") (List.mem_of_getElem? (i := 1) rfl)) (fun _ h9 => h9) rfl dX7_manyIn_41 ?_
      refine lv_iconst (v := (1 : Int32)) hx hb dX7_manyIn_44 (by decide) ?_
      obtain ⟨h_i, hE⟩ := gd_some hE
      refine ldM hx hb hK hP 3 (by decide) h_i dX7_manyIn_45 ?_
      obtain ⟨h_z, hE⟩ := dz_some hE
      refine lv_irem hx hb dX7_manyIn_46 h_z ?_
      refine lv_iadd hx hb dX7_manyIn_47 ?_
      obtain ⟨h_i, hE⟩ := gd_some hE
      refine ldM hx hb hK hP 8 (by decide) h_i dX7_manyIn_48 ?_
      refine lv_iadd hx hb dX7_manyIn_49 ?_
      refine lv_istore_n (lv' := [(2, .int (v4.1 + (rd σ 8 ((x1 + ((10 : Int32) * (v4.2 / (rd σ 3 (1 : Int32))))) + (jrem v4.2 (rd σ 3 (1 : Int32))))))), (0, .ref (aD G 43)), (1, .int x1), (3, .int v4.2)]) hx hb dX7_manyIn_50 rfl hl (by decide) rfl (fun ls hl => ?_)
      refine lv_iinc (v := (v4.2 + (1 : Int32))) (lv' := [(3, .int (v4.2 + (1 : Int32))), (2, .int (v4.1 + (rd σ 8 ((x1 + ((10 : Int32) * (v4.2 / (rd σ 3 (1 : Int32))))) + (jrem v4.2 (rd σ 3 (1 : Int32))))))), (0, .ref (aD G 43)), (1, .int x1)]) hx hb dX7_manyIn_51 hl (k := 3) rfl rfl (by decide) rfl (fun ls hl => ?_)
      refine lv_goto (tgt := 4) hx hb dX7_manyIn_54 (by decide) ?_
      exact hN4 _ (Option.some.inj hE).symm _ _ _ hP hD hS (lv_sub hl [2, 3, 1, 0] rfl)
  refine lv_iconst (v := (0 : Int32)) hx hb dX7_manyIn_0 (by decide) ?_
  refine lv_istore_n (lv' := [(2, .int (0 : Int32)), (0, .ref (aD G 43)), (1, .int x1)]) hx hb dX7_manyIn_1 rfl hl (by decide) rfl (fun ls hl => ?_)
  refine lv_iconst (v := (0 : Int32)) hx hb dX7_manyIn_2 (by decide) ?_
  refine lv_istore_n (lv' := [(3, .int (0 : Int32)), (2, .int (0 : Int32)), (0, .ref (aD G 43)), (1, .int x1)]) hx hb dX7_manyIn_3 rfl hl (by decide) rfl (fun ls hl => ?_)
  exact J_4 (0 : Int32) (0 : Int32) _ _ _ hP hD hS (lv_sub hl [2, 3, 1, 0] rfl) hE
abbrev rmX7_may : Room := { frames := 2, cells := 0, slots := 0, locals := 45 }
def f_X7_may_J257 (x3 : Int32) (σ : St) : Option (((Int32)) ⊕ (Int32 × Int32)) := some (.inr ((1 : Int32), (x3 + (1 : Int32))))
def f_X7_may_L179 (σ : St) (v179 : Int32 × Int32) : Option (((Int32)) ⊕ (Int32 × Int32)) := if (80 : Int32) ≤ v179.2 then (some (.inl (v179.1))) else (if v179.1 = 0 then (some (.inl (v179.1))) else (gd v179.2 80 (if (rd σ 6 v179.2) < 0 then (some (.inr (v179.1, (v179.2 + (1 : Int32))))) else (gd v179.2 80 (gd (0 : Int32) 8 (gd (1 : Int32) 8 (gd (3 : Int32) 8 (if ((rd σ 6 v179.2) + ((rd σ 3 (0 : Int32)) * (rd σ 3 (1 : Int32)))) ≤ (rd σ 3 (3 : Int32)) then (some (.inr (v179.1, (v179.2 + (1 : Int32))))) else (bnd (f_X7_manyIn v179.2 σ) (fun r2 => if r2 = 0 then (f_X7_may_J257 v179.2 σ) else (gd v179.2 80 (gd (3 : Int32) 8 (if (rd σ 3 (3 : Int32)) < ((rd σ 6 v179.2) + r2) then (some (.inr ((0 : Int32), (v179.2 + (1 : Int32))))) else (f_X7_may_J257 v179.2 σ))))))))))))))
def f_X7_may_J179 (x2 : Int32) (x3 : Int32) (σ : St) : Option (Int32 × St) := bnd (loopN (f_X7_may_L179 σ) 4096 (x2, x3)) (fun y179 => gb y179 (some (y179, σ)))
def f_X7_may_J177 (x2 : Int32) (σ : St) : Option (Int32 × St) := f_X7_may_J179 x2 (0 : Int32) σ
def f_X7_may_J169 (x3 : Int32) (σ : St) : Option (((Int32)) ⊕ (Int32 × Int32)) := some (.inr ((0 : Int32), (x3 + (1 : Int32))))
def f_X7_may_L121 (σ : St) (v121 : Int32 × Int32) : Option (((Int32)) ⊕ (Int32 × Int32)) := if (gI σ 3) ≤ v121.2 then (some (.inl (v121.1))) else (if v121.1 = 0 then (some (.inl (v121.1))) else (gd v121.2 80 (gd ((80 : Int32) + (rd σ 9 v121.2)) 400 (if (rd σ 0 ((80 : Int32) + (rd σ 9 v121.2))) = 0 then (gd v121.2 80 (bnd (f_X7_sumOf (rd σ 9 v121.2) σ) (fun r3 => if (9 : Int32) ≤ r3 then (f_X7_may_J169 v121.2 σ) else (some (.inr ((1 : Int32), (v121.2 + (1 : Int32)))))))) else (f_X7_may_J169 v121.2 σ)))))
def f_X7_may_J121 (x2 : Int32) (x3 : Int32) (σ : St) : Option (Int32 × St) := bnd (loopN (f_X7_may_L121 σ) 4096 (x2, x3)) (fun y121 => f_X7_may_J177 y121 σ)
def f_X7_may_J119 (x2 : Int32) (σ : St) : Option (Int32 × St) := f_X7_may_J121 x2 (0 : Int32) σ
def f_X7_may_J111 (x3 : Int32) (σ : St) : Option (((Int32 × St)) ⊕ (Int32 × Int32 × St)) := some (.inr ((0 : Int32), (x3 + (1 : Int32)), σ))
def f_X7_may_J107 (x3 : Int32) (σ : St) : Option (((Int32 × St)) ⊕ (Int32 × Int32 × St)) := some (.inr ((1 : Int32), (x3 + (1 : Int32)), σ))
def f_X7_may_J68 (x2 : Int32) (x3 : Int32) (σ : St) : Option (((Int32 × St)) ⊕ (Int32 × Int32 × St)) := if x2 = 0 then (f_X7_may_J111 x3 σ) else (gd x3 4 (if (rd σ 11 x3) = 0 then (f_X7_may_J107 x3 σ) else (gd x3 4 (gd x3 4 (gd (((4 : Int32) + x3) - (1 : Int32)) 8 (if (rd σ 3 (((4 : Int32) + x3) - (1 : Int32))) < ((rd σ 10 x3) + (rd σ 11 x3)) then (f_X7_may_J111 x3 σ) else (f_X7_may_J107 x3 σ)))))))
def f_X7_may_J60 (x2 : Int32) (x3 : Int32) (x4 : Int32) (t0 : Int32) (t1 : Int32) (t2 : Int32) (σ : St) : Option (((St)) ⊕ (Int32 × St)) := gd t2 4 (some (.inr ((x4 + (1 : Int32)), (sA σ 11 t2 (t1 + t0)))))
def f_X7_may_L24 (x2 : Int32) (x3 : Int32) (v24 : Int32 × St) : Option (((St)) ⊕ (Int32 × St)) := if (gI v24.2 3) ≤ v24.1 then (some (.inl (v24.2))) else (gd x3 4 (gd v24.1 80 (bnd (f_X7_isBurden (rd v24.2 9 v24.1) x3 v24.2) (fun r4 => if r4 = 0 then (f_X7_may_J60 x2 x3 v24.1 (0 : Int32) (rd v24.2 11 x3) x3 v24.2) else (f_X7_may_J60 x2 x3 v24.1 (1 : Int32) (rd v24.2 11 x3) x3 v24.2)))))
def f_X7_may_J24 (x2 : Int32) (x3 : Int32) (x4 : Int32) (σ : St) : Option (((Int32 × St)) ⊕ (Int32 × Int32 × St)) := bnd (loopN (f_X7_may_L24 x2 x3) 4096 (x4, σ)) (fun y24 => f_X7_may_J68 x2 x3 y24)
def f_X7_may_L9  (v9 : Int32 × Int32 × St) : Option (((Int32 × St)) ⊕ (Int32 × Int32 × St)) := if (4 : Int32) ≤ v9.2.1 then (some (.inl (v9.1, v9.2.2))) else (gd v9.2.1 4 (f_X7_may_J24 v9.1 v9.2.1 (0 : Int32) (sA v9.2.2 11 v9.2.1 (0 : Int32))))
def f_X7_may_J9 (x2 : Int32) (x3 : Int32) (σ : St) : Option (Int32 × St) := bnd (loopN (f_X7_may_L9 ) 4096 (x2, x3, σ)) (fun y9 => f_X7_may_J119 y9.1 y9.2)
def f_X7_may (x1 : Int32) (σ : St) : Option (Int32 × St) := bnd (f_X7_marks x1 σ) (fun r1 => f_X7_may_J9 (1 : Int32) (1 : Int32) r1)
set_option maxHeartbeats 4000000 in
set_option maxRecDepth 100000 in
theorem c_X7_may (l : Launch) (G : EV)  (x1 : Int32) (σ : St) (r : (Int32 × St)) (hE : f_X7_may x1 σ = some r) : MetI l G yX7_may wsX7_may rmX7_may [.ref (aD G 43), .int x1] (wM G σ) r.1 (wM G r.2) := by
  refine Met.of0 (Qf := PI G r.1 (wM G r.2)) (cc := cX7_may) (maxL := 5) (ret := (some .boolean)) (by decide) rfl (Nat.le_of_ble_eq_true rfl) ?_
  intro p e s m below meth c args A hx hb hr hts hown hlocks hml hin0 hA hS hP hK hD hX ls hl
  have hl : lv_has ls 5 [(0, .ref (aD G 43)), (1, .int x1)] := hl
  generalize hQ : MQ below (PI G r.1 (wM G r.2) A) args s 0 0 A = Q
  unfold f_X7_may at hE
  have J_179 : ∀ (x2 : Int32) (x3 : Int32) (σ : St) (H : Heap) (locs : List Loc) (ls : Array Slot), va_P G.1 vwCl (wM G σ) H → va_D A (wM G σ) → va_S A s.heap H locs → lv_has ls 5 [(0, .ref (aD G 43)), (2, .int x2), (3, .int x3)] → f_X7_may_J179 x2 x3 σ = some r → W p l e rmX7_may s m args below meth c H locs 0 0 Q (F0 m 179 ls []) := by
    intro x2 x3 σ H locs ls hP hD hS hl hE
    unfold f_X7_may_J179 at hE
    obtain ⟨y179, hL, hE179⟩ := bnd_some hE
    refine loop_W (body := f_X7_may_L179 σ) (y := y179) (P := fun v179 => ∀ (H : Heap) (locs : List Loc) (ls : Array Slot), va_P G.1 vwCl (wM G σ) H → va_D A (wM G σ) → va_S A s.heap H locs → lv_has ls 5 [(0, .ref (aD G 43)), (2, .int v179.1), (3, .int v179.2)] → W p l e rmX7_may s m args below meth c H locs 0 0 Q (F0 m 179 ls [])) ?_ _ _ hL H locs ls hP hD hS hl
    clear hP hD hS hl hE hL
    intro v179 t179 hE hN179 hY179
    intro H locs ls hP hD hS hl
    unfold f_X7_may_L179 at hE
    have J_257 : ∀ (x3 : Int32) (H : Heap) (locs : List Loc) (ls : Array Slot), va_P G.1 vwCl (wM G σ) H → va_D A (wM G σ) → va_S A s.heap H locs → lv_has ls 5 [(0, .ref (aD G 43)), (3, .int x3)] → f_X7_may_J257 x3 σ = some t179 → W p l e rmX7_may s m args below meth c H locs 0 0 Q (F0 m 257 ls []) := by
      intro x3 H locs ls hP hD hS hl hE
      unfold f_X7_may_J257 at hE
      refine lv_iconst (v := (1 : Int32)) hx hb dX7_may_257 (by decide) ?_
      refine lv_goto (tgt := 262) hx hb dX7_may_258 (by decide) ?_
      refine lv_istore_n (lv' := [(2, .int (1 : Int32)), (0, .ref (aD G 43)), (3, .int x3)]) hx hb dX7_may_262 rfl hl (by decide) rfl (fun ls hl => ?_)
      refine lv_iinc (v := (x3 + (1 : Int32))) (lv' := [(3, .int (x3 + (1 : Int32))), (2, .int (1 : Int32)), (0, .ref (aD G 43))]) hx hb dX7_may_263 hl (k := 2) rfl rfl (by decide) rfl (fun ls hl => ?_)
      refine lv_goto (tgt := 179) hx hb dX7_may_266 (by decide) ?_
      exact hN179 _ (Option.some.inj hE).symm _ _ _ hP hD hS (lv_sub hl [2, 1, 0] rfl)
    refine lv_iload_n hx hb dX7_may_179 rfl (lv_at hl 2 rfl) ?_
    refine lv_bipush (v := (80 : Int32)) hx hb dX7_may_180 (by decide) ?_
    refine lv_icmp_ge (tgt := 269) hx hb dX7_may_182 (by decide) (fun c_ => ?_) (fun c_ => ?_)
    · have hE := ip c_ hE
      have e9 := hY179 _ (Option.some.inj hE).symm
      have hE := hE179
      rw [← e9] at hE
      refine lv_iload_n hx hb dX7_may_269 rfl (lv_at hl 1 rfl) ?_
      obtain ⟨h_n, hE⟩ := gb_some hE
      rw [← hQ, ← Option.some.inj hE]
      exact rz hx hb hr hlocks hK hP hD hS h_n dX7_may_270
    · have hE := im c_ hE
      refine lv_iload_n hx hb dX7_may_185 rfl (lv_at hl 1 rfl) ?_
      refine lv_if_eq (tgt := 269) hx hb dX7_may_186 (by decide) (fun c_ => ?_) (fun c_ => ?_)
      · have hE := ip c_ hE
        have e9 := hY179 _ (Option.some.inj hE).symm
        have hE := hE179
        rw [← e9] at hE
        refine lv_iload_n hx hb dX7_may_269 rfl (lv_at hl 1 rfl) ?_
        obtain ⟨h_n, hE⟩ := gb_some hE
        rw [← hQ, ← Option.some.inj hE]
        exact rz hx hb hr hlocks hK hP hD hS h_n dX7_may_270
      · have hE := im c_ hE
        refine lv_aload_n hx hb dX7_may_189 rfl (lv_at hl 0 rfl) ?_
        refine va_get (ci := 7) (v := .ref (aD G 36)) (C := RX7) (T := TX7) (N := 17) hx hb hts (fun _ h => List.mem_cons_of_mem _ (List.mem_append_right _ h)) hown hK hP 13 rfl rfl 9 (by decide) (hts (.fieldLink RX7 28 "FillCellsModel" "sums" "[I") (List.mem_of_getElem? (i := 7) rfl)) (fun _ h9 => h9) rfl dX7_may_190 ?_
        refine lv_iload_n hx hb dX7_may_193 rfl (lv_at hl 2 rfl) ?_
        obtain ⟨h_i, hE⟩ := gd_some hE
        refine ldM hx hb hK hP 6 (by decide) h_i dX7_may_194 ?_
        refine lv_if_lt (tgt := 263) hx hb dX7_may_195 (by decide) (fun c_ => ?_) (fun c_ => ?_)
        · have hE := ip c_ hE
          refine lv_iinc (v := (v179.2 + (1 : Int32))) (lv' := [(3, .int (v179.2 + (1 : Int32))), (0, .ref (aD G 43)), (2, .int v179.1)]) hx hb dX7_may_263 hl (k := 2) rfl rfl (by decide) rfl (fun ls hl => ?_)
          refine lv_goto (tgt := 179) hx hb dX7_may_266 (by decide) ?_
          exact hN179 _ (Option.some.inj hE).symm _ _ _ hP hD hS (lv_sub hl [1, 2, 0] rfl)
        · have hE := im c_ hE
          refine lv_aload_n hx hb dX7_may_198 rfl (lv_at hl 0 rfl) ?_
          refine va_get (ci := 7) (v := .ref (aD G 36)) (C := RX7) (T := TX7) (N := 17) hx hb hts (fun _ h => List.mem_cons_of_mem _ (List.mem_append_right _ h)) hown hK hP 13 rfl rfl 9 (by decide) (hts (.fieldLink RX7 28 "FillCellsModel" "sums" "[I") (List.mem_of_getElem? (i := 7) rfl)) (fun _ h9 => h9) rfl dX7_may_199 ?_
          refine lv_iload_n hx hb dX7_may_202 rfl (lv_at hl 2 rfl) ?_
          obtain ⟨h_i, hE⟩ := gd_some hE
          refine ldM hx hb hK hP 6 (by decide) h_i dX7_may_203 ?_
          refine lv_aload_n hx hb dX7_may_204 rfl (lv_at hl 0 rfl) ?_
          refine va_get (ci := 7) (v := .ref (aD G 33)) (C := RX7) (T := TX7) (N := 17) hx hb hts (fun _ h => List.mem_cons_of_mem _ (List.mem_append_right _ h)) hown hK hP 13 rfl rfl 4 (by decide) (hts (.fieldLink RX7 19 "FillCellsModel" "rules" "[I") (List.mem_of_getElem? (i := 5) rfl)) (fun _ h9 => h9) rfl dX7_may_205 ?_
          refine lv_iconst (v := (0 : Int32)) hx hb dX7_may_208 (by decide) ?_
          obtain ⟨h_i, hE⟩ := gd_some hE
          refine ldM hx hb hK hP 3 (by decide) h_i dX7_may_209 ?_
          refine lv_aload_n hx hb dX7_may_210 rfl (lv_at hl 0 rfl) ?_
          refine va_get (ci := 7) (v := .ref (aD G 33)) (C := RX7) (T := TX7) (N := 17) hx hb hts (fun _ h => List.mem_cons_of_mem _ (List.mem_append_right _ h)) hown hK hP 13 rfl rfl 4 (by decide) (hts (.fieldLink RX7 19 "FillCellsModel" "rules" "[I") (List.mem_of_getElem? (i := 5) rfl)) (fun _ h9 => h9) rfl dX7_may_211 ?_
          refine lv_iconst (v := (1 : Int32)) hx hb dX7_may_214 (by decide) ?_
          obtain ⟨h_i, hE⟩ := gd_some hE
          refine ldM hx hb hK hP 3 (by decide) h_i dX7_may_215 ?_
          refine lv_imul hx hb dX7_may_216 ?_
          refine lv_iadd hx hb dX7_may_217 ?_
          refine lv_aload_n hx hb dX7_may_218 rfl (lv_at hl 0 rfl) ?_
          refine va_get (ci := 7) (v := .ref (aD G 33)) (C := RX7) (T := TX7) (N := 17) hx hb hts (fun _ h => List.mem_cons_of_mem _ (List.mem_append_right _ h)) hown hK hP 13 rfl rfl 4 (by decide) (hts (.fieldLink RX7 19 "FillCellsModel" "rules" "[I") (List.mem_of_getElem? (i := 5) rfl)) (fun _ h9 => h9) rfl dX7_may_219 ?_
          refine lv_iconst (v := (3 : Int32)) hx hb dX7_may_222 (by decide) ?_
          obtain ⟨h_i, hE⟩ := gd_some hE
          refine ldM hx hb hK hP 3 (by decide) h_i dX7_may_223 ?_
          refine lv_icmp_le (tgt := 263) hx hb dX7_may_224 (by decide) (fun c_ => ?_) (fun c_ => ?_)
          · have hE := ip c_ hE
            refine lv_iinc (v := (v179.2 + (1 : Int32))) (lv' := [(3, .int (v179.2 + (1 : Int32))), (0, .ref (aD G 43)), (2, .int v179.1)]) hx hb dX7_may_263 hl (k := 2) rfl rfl (by decide) rfl (fun ls hl => ?_)
            refine lv_goto (tgt := 179) hx hb dX7_may_266 (by decide) ?_
            exact hN179 _ (Option.some.inj hE).symm _ _ _ hP hD hS (lv_sub hl [1, 2, 0] rfl)
          · have hE := im c_ hE
            refine lv_aload_n hx hb dX7_may_227 rfl (lv_at hl 0 rfl) ?_
            refine lv_iload_n hx hb dX7_may_228 rfl (lv_at hl 2 rfl) ?_
            obtain ⟨r2, hC, hE⟩ := bnd_some hE
            refine ci (va_runV (As := [.int v179.2]) (rest := []) ⟨hx, hb, hml, hown, hts⟩ (c_X7_manyIn l G v179.2 σ r2 hC _) (cwV 1 hts gX7_may_X7_manyIn rfl rfl rfl (by decide +kernel) ⟨Nat.le_of_ble_eq_true rfl, Nat.le_of_ble_eq_true rfl⟩) (preV hK hP hD hS hA hX (va_recv hK hP (ci := 7) (q0 := 13) rfl rfl)) rfl rfl hl.1 rfl (lv_room (Nat.le_of_ble_eq_true rfl)) dX7_may_229 ⟨Nat.le_of_ble_eq_true rfl, Nat.le_of_ble_eq_true rfl⟩) hD hS hA (fun H locs hP hD hS => ?_)
            refine lv_istore (lv' := [(4, .int r2), (0, .ref (aD G 43)), (2, .int v179.1), (3, .int v179.2)]) hx hb dX7_may_232 hl (by decide) rfl (fun ls hl => ?_)
            refine lv_iload hx hb dX7_may_234 (lv_at hl 0 rfl) ?_
            refine lv_if_eq (tgt := 257) hx hb dX7_may_236 (by decide) (fun c_ => ?_) (fun c_ => ?_)
            · have hE := ip c_ hE
              exact J_257 v179.2 _ _ _ hP hD hS (lv_sub hl [1, 3] rfl) hE
            · have hE := im c_ hE
              refine lv_aload_n hx hb dX7_may_239 rfl (lv_at hl 1 rfl) ?_
              refine va_get (ci := 7) (v := .ref (aD G 36)) (C := RX7) (T := TX7) (N := 17) hx hb hts (fun _ h => List.mem_cons_of_mem _ (List.mem_append_right _ h)) hown hK hP 13 rfl rfl 9 (by decide) (hts (.fieldLink RX7 28 "FillCellsModel" "sums" "[I") (List.mem_of_getElem? (i := 7) rfl)) (fun _ h9 => h9) rfl dX7_may_240 ?_
              refine lv_iload_n hx hb dX7_may_243 rfl (lv_at hl 3 rfl) ?_
              obtain ⟨h_i, hE⟩ := gd_some hE
              refine ldM hx hb hK hP 6 (by decide) h_i dX7_may_244 ?_
              refine lv_iload hx hb dX7_may_245 (lv_at hl 0 rfl) ?_
              refine lv_iadd hx hb dX7_may_247 ?_
              refine lv_aload_n hx hb dX7_may_248 rfl (lv_at hl 1 rfl) ?_
              refine va_get (ci := 7) (v := .ref (aD G 33)) (C := RX7) (T := TX7) (N := 17) hx hb hts (fun _ h => List.mem_cons_of_mem _ (List.mem_append_right _ h)) hown hK hP 13 rfl rfl 4 (by decide) (hts (.fieldLink RX7 19 "FillCellsModel" "rules" "[I") (List.mem_of_getElem? (i := 5) rfl)) (fun _ h9 => h9) rfl dX7_may_249 ?_
              refine lv_iconst (v := (3 : Int32)) hx hb dX7_may_252 (by decide) ?_
              obtain ⟨h_i, hE⟩ := gd_some hE
              refine ldM hx hb hK hP 3 (by decide) h_i dX7_may_253 ?_
              refine lv_icmp_gt (tgt := 261) hx hb dX7_may_254 (by decide) (fun c_ => ?_) (fun c_ => ?_)
              · have hE := ip c_ hE
                refine lv_iconst (v := (0 : Int32)) hx hb dX7_may_261 (by decide) ?_
                refine lv_istore_n (lv' := [(2, .int (0 : Int32)), (4, .int r2), (0, .ref (aD G 43)), (3, .int v179.2)]) hx hb dX7_may_262 rfl hl (by decide) rfl (fun ls hl => ?_)
                refine lv_iinc (v := (v179.2 + (1 : Int32))) (lv' := [(3, .int (v179.2 + (1 : Int32))), (2, .int (0 : Int32)), (4, .int r2), (0, .ref (aD G 43))]) hx hb dX7_may_263 hl (k := 3) rfl rfl (by decide) rfl (fun ls hl => ?_)
                refine lv_goto (tgt := 179) hx hb dX7_may_266 (by decide) ?_
                exact hN179 _ (Option.some.inj hE).symm _ _ _ hP hD hS (lv_sub hl [3, 1, 0] rfl)
              · have hE := im c_ hE
                exact J_257 v179.2 _ _ _ hP hD hS (lv_sub hl [1, 3] rfl) hE
  have J_177 : ∀ (x2 : Int32) (σ : St) (H : Heap) (locs : List Loc) (ls : Array Slot), va_P G.1 vwCl (wM G σ) H → va_D A (wM G σ) → va_S A s.heap H locs → lv_has ls 5 [(0, .ref (aD G 43)), (2, .int x2)] → f_X7_may_J177 x2 σ = some r → W p l e rmX7_may s m args below meth c H locs 0 0 Q (F0 m 177 ls []) := by
    intro x2 σ H locs ls hP hD hS hl hE
    unfold f_X7_may_J177 at hE
    refine lv_iconst (v := (0 : Int32)) hx hb dX7_may_177 (by decide) ?_
    refine lv_istore_n (lv' := [(3, .int (0 : Int32)), (0, .ref (aD G 43)), (2, .int x2)]) hx hb dX7_may_178 rfl hl (by decide) rfl (fun ls hl => ?_)
    exact J_179 x2 (0 : Int32) σ _ _ _ hP hD hS (lv_sub hl [1, 2, 0] rfl) hE
  have J_121 : ∀ (x2 : Int32) (x3 : Int32) (σ : St) (H : Heap) (locs : List Loc) (ls : Array Slot), va_P G.1 vwCl (wM G σ) H → va_D A (wM G σ) → va_S A s.heap H locs → lv_has ls 5 [(0, .ref (aD G 43)), (2, .int x2), (3, .int x3)] → f_X7_may_J121 x2 x3 σ = some r → W p l e rmX7_may s m args below meth c H locs 0 0 Q (F0 m 121 ls []) := by
    intro x2 x3 σ H locs ls hP hD hS hl hE
    unfold f_X7_may_J121 at hE
    obtain ⟨y121, hL, hE121⟩ := bnd_some hE
    refine loop_W (body := f_X7_may_L121 σ) (y := y121) (P := fun v121 => ∀ (H : Heap) (locs : List Loc) (ls : Array Slot), va_P G.1 vwCl (wM G σ) H → va_D A (wM G σ) → va_S A s.heap H locs → lv_has ls 5 [(0, .ref (aD G 43)), (2, .int v121.1), (3, .int v121.2)] → W p l e rmX7_may s m args below meth c H locs 0 0 Q (F0 m 121 ls [])) ?_ _ _ hL H locs ls hP hD hS hl
    clear hP hD hS hl hE hL
    intro v121 t121 hE hN121 hY121
    intro H locs ls hP hD hS hl
    unfold f_X7_may_L121 at hE
    have J_169 : ∀ (x3 : Int32) (H : Heap) (locs : List Loc) (ls : Array Slot), va_P G.1 vwCl (wM G σ) H → va_D A (wM G σ) → va_S A s.heap H locs → lv_has ls 5 [(0, .ref (aD G 43)), (3, .int x3)] → f_X7_may_J169 x3 σ = some t121 → W p l e rmX7_may s m args below meth c H locs 0 0 Q (F0 m 169 ls []) := by
      intro x3 H locs ls hP hD hS hl hE
      unfold f_X7_may_J169 at hE
      refine lv_iconst (v := (0 : Int32)) hx hb dX7_may_169 (by decide) ?_
      refine lv_istore_n (lv' := [(2, .int (0 : Int32)), (0, .ref (aD G 43)), (3, .int x3)]) hx hb dX7_may_170 rfl hl (by decide) rfl (fun ls hl => ?_)
      refine lv_iinc (v := (x3 + (1 : Int32))) (lv' := [(3, .int (x3 + (1 : Int32))), (2, .int (0 : Int32)), (0, .ref (aD G 43))]) hx hb dX7_may_171 hl (k := 2) rfl rfl (by decide) rfl (fun ls hl => ?_)
      refine lv_goto (tgt := 121) hx hb dX7_may_174 (by decide) ?_
      exact hN121 _ (Option.some.inj hE).symm _ _ _ hP hD hS (lv_sub hl [2, 1, 0] rfl)
    refine lv_iload_n hx hb dX7_may_121 rfl (lv_at hl 2 rfl) ?_
    refine lv_aload_n hx hb dX7_may_122 rfl (lv_at hl 0 rfl) ?_
    refine va_get (ci := 7) (v := .int (gI σ 3)) (C := RX7) (T := TX7) (N := 17) hx hb hts (fun _ h => List.mem_cons_of_mem _ (List.mem_append_right _ h)) hown hK hP 13 rfl rfl 13 (by decide) (hts (.fieldLink RX7 112 "FillCellsModel" "size" "I") (List.mem_of_getElem? (i := 2) rfl)) (fun _ h9 => h9) rfl dX7_may_123 ?_
    refine lv_icmp_ge (tgt := 177) hx hb dX7_may_126 (by decide) (fun c_ => ?_) (fun c_ => ?_)
    · have hE := ip c_ hE
      have e9 := hY121 _ (Option.some.inj hE).symm
      have hE := hE121
      rw [← e9] at hE
      exact J_177 v121.1 σ _ _ _ hP hD hS (lv_sub hl [0, 1] rfl) hE
    · have hE := im c_ hE
      refine lv_iload_n hx hb dX7_may_129 rfl (lv_at hl 1 rfl) ?_
      refine lv_if_eq (tgt := 177) hx hb dX7_may_130 (by decide) (fun c_ => ?_) (fun c_ => ?_)
      · have hE := ip c_ hE
        have e9 := hY121 _ (Option.some.inj hE).symm
        have hE := hE121
        rw [← e9] at hE
        exact J_177 v121.1 σ _ _ _ hP hD hS (lv_sub hl [0, 1] rfl) hE
      · have hE := im c_ hE
        refine lv_aload_n hx hb dX7_may_133 rfl (lv_at hl 0 rfl) ?_
        refine va_get (ci := 7) (v := .ref (aD G 30)) (C := RX7) (T := TX7) (N := 17) hx hb hts (fun _ h => List.mem_cons_of_mem _ (List.mem_append_right _ h)) hown hK hP 13 rfl rfl 0 (by decide) (hts (.fieldLink RX7 7 "FillCellsModel" "s" "[I") (List.mem_of_getElem? (i := 6) rfl)) (fun _ h9 => h9) rfl dX7_may_134 ?_
        refine lv_bipush (v := (80 : Int32)) hx hb dX7_may_137 (by decide) ?_
        refine lv_aload_n hx hb dX7_may_139 rfl (lv_at hl 0 rfl) ?_
        refine va_get (ci := 7) (v := .ref (aD G 39)) (C := RX7) (T := TX7) (N := 17) hx hb hts (fun _ h => List.mem_cons_of_mem _ (List.mem_append_right _ h)) hown hK hP 13 rfl rfl 12 (by decide) (hts (.fieldLink RX7 37 "FillCellsModel" "members" "[I") (List.mem_of_getElem? (i := 3) rfl)) (fun _ h9 => h9) rfl dX7_may_140 ?_
        refine lv_iload_n hx hb dX7_may_143 rfl (lv_at hl 2 rfl) ?_
        obtain ⟨h_i, hE⟩ := gd_some hE
        refine ldM hx hb hK hP 9 (by decide) h_i dX7_may_144 ?_
        refine lv_iadd hx hb dX7_may_145 ?_
        obtain ⟨h_i, hE⟩ := gd_some hE
        refine ldM hx hb hK hP 0 (by decide) h_i dX7_may_146 ?_
        refine lv_if_ne (tgt := 169) hx hb dX7_may_147 (by decide) (fun c_ => ?_) (fun c_ => ?_)
        · have hE := im c_ hE
          exact J_169 v121.2 _ _ _ hP hD hS (lv_sub hl [0, 2] rfl) hE
        · have hE := ip c_ hE
          refine lv_aload_n hx hb dX7_may_150 rfl (lv_at hl 0 rfl) ?_
          refine lv_aload_n hx hb dX7_may_151 rfl (lv_at hl 0 rfl) ?_
          refine va_get (ci := 7) (v := .ref (aD G 39)) (C := RX7) (T := TX7) (N := 17) hx hb hts (fun _ h => List.mem_cons_of_mem _ (List.mem_append_right _ h)) hown hK hP 13 rfl rfl 12 (by decide) (hts (.fieldLink RX7 37 "FillCellsModel" "members" "[I") (List.mem_of_getElem? (i := 3) rfl)) (fun _ h9 => h9) rfl dX7_may_152 ?_
          refine lv_iload_n hx hb dX7_may_155 rfl (lv_at hl 2 rfl) ?_
          obtain ⟨h_i, hE⟩ := gd_some hE
          refine ldM hx hb hK hP 9 (by decide) h_i dX7_may_156 ?_
          obtain ⟨r3, hC, hE⟩ := bnd_some hE
          refine ci (va_runV (As := [.int (rd σ 9 v121.2)]) (rest := []) ⟨hx, hb, hml, hown, hts⟩ (c_X7_sumOf l G (rd σ 9 v121.2) σ r3 hC _) (cwV 1 hts gX7_may_X7_sumOf rfl rfl rfl (by decide +kernel) ⟨Nat.le_of_ble_eq_true rfl, Nat.le_of_ble_eq_true rfl⟩) (preV hK hP hD hS hA hX (va_recv hK hP (ci := 7) (q0 := 13) rfl rfl)) rfl rfl hl.1 rfl (lv_room (Nat.le_of_ble_eq_true rfl)) dX7_may_157 ⟨Nat.le_of_ble_eq_true rfl, Nat.le_of_ble_eq_true rfl⟩) hD hS hA (fun H locs hP hD hS => ?_)
          refine lv_bipush (v := (9 : Int32)) hx hb dX7_may_160 (by decide) ?_
          refine lv_icmp_ge (tgt := 169) hx hb dX7_may_162 (by decide) (fun c_ => ?_) (fun c_ => ?_)
          · have hE := ip c_ hE
            exact J_169 v121.2 _ _ _ hP hD hS (lv_sub hl [0, 2] rfl) hE
          · have hE := im c_ hE
            refine lv_iconst (v := (1 : Int32)) hx hb dX7_may_165 (by decide) ?_
            refine lv_goto (tgt := 170) hx hb dX7_may_166 (by decide) ?_
            refine lv_istore_n (lv' := [(2, .int (1 : Int32)), (0, .ref (aD G 43)), (3, .int v121.2)]) hx hb dX7_may_170 rfl hl (by decide) rfl (fun ls hl => ?_)
            refine lv_iinc (v := (v121.2 + (1 : Int32))) (lv' := [(3, .int (v121.2 + (1 : Int32))), (2, .int (1 : Int32)), (0, .ref (aD G 43))]) hx hb dX7_may_171 hl (k := 2) rfl rfl (by decide) rfl (fun ls hl => ?_)
            refine lv_goto (tgt := 121) hx hb dX7_may_174 (by decide) ?_
            exact hN121 _ (Option.some.inj hE).symm _ _ _ hP hD hS (lv_sub hl [2, 1, 0] rfl)
  have J_119 : ∀ (x2 : Int32) (σ : St) (H : Heap) (locs : List Loc) (ls : Array Slot), va_P G.1 vwCl (wM G σ) H → va_D A (wM G σ) → va_S A s.heap H locs → lv_has ls 5 [(0, .ref (aD G 43)), (2, .int x2)] → f_X7_may_J119 x2 σ = some r → W p l e rmX7_may s m args below meth c H locs 0 0 Q (F0 m 119 ls []) := by
    intro x2 σ H locs ls hP hD hS hl hE
    unfold f_X7_may_J119 at hE
    refine lv_iconst (v := (0 : Int32)) hx hb dX7_may_119 (by decide) ?_
    refine lv_istore_n (lv' := [(3, .int (0 : Int32)), (0, .ref (aD G 43)), (2, .int x2)]) hx hb dX7_may_120 rfl hl (by decide) rfl (fun ls hl => ?_)
    exact J_121 x2 (0 : Int32) σ _ _ _ hP hD hS (lv_sub hl [1, 2, 0] rfl) hE
  have J_9 : ∀ (x2 : Int32) (x3 : Int32) (σ : St) (H : Heap) (locs : List Loc) (ls : Array Slot), va_P G.1 vwCl (wM G σ) H → va_D A (wM G σ) → va_S A s.heap H locs → lv_has ls 5 [(0, .ref (aD G 43)), (2, .int x2), (3, .int x3)] → f_X7_may_J9 x2 x3 σ = some r → W p l e rmX7_may s m args below meth c H locs 0 0 Q (F0 m 9 ls []) := by
    intro x2 x3 σ H locs ls hP hD hS hl hE
    unfold f_X7_may_J9 at hE
    obtain ⟨y9, hL, hE9⟩ := bnd_some hE
    refine loop_W (body := f_X7_may_L9 ) (y := y9) (P := fun v9 => ∀ (H : Heap) (locs : List Loc) (ls : Array Slot), va_P G.1 vwCl (wM G v9.2.2) H → va_D A (wM G v9.2.2) → va_S A s.heap H locs → lv_has ls 5 [(0, .ref (aD G 43)), (2, .int v9.1), (3, .int v9.2.1)] → W p l e rmX7_may s m args below meth c H locs 0 0 Q (F0 m 9 ls [])) ?_ _ _ hL H locs ls hP hD hS hl
    clear hP hD hS hl hE hL
    intro v9 t9 hE hN9 hY9
    intro H locs ls hP hD hS hl
    unfold f_X7_may_L9 at hE
    have J_111 : ∀ (x3 : Int32) (σ : St) (H : Heap) (locs : List Loc) (ls : Array Slot), va_P G.1 vwCl (wM G σ) H → va_D A (wM G σ) → va_S A s.heap H locs → lv_has ls 5 [(0, .ref (aD G 43)), (3, .int x3)] → f_X7_may_J111 x3 σ = some t9 → W p l e rmX7_may s m args below meth c H locs 0 0 Q (F0 m 111 ls []) := by
      intro x3 σ H locs ls hP hD hS hl hE
      unfold f_X7_may_J111 at hE
      refine lv_iconst (v := (0 : Int32)) hx hb dX7_may_111 (by decide) ?_
      refine lv_istore_n (lv' := [(2, .int (0 : Int32)), (0, .ref (aD G 43)), (3, .int x3)]) hx hb dX7_may_112 rfl hl (by decide) rfl (fun ls hl => ?_)
      refine lv_iinc (v := (x3 + (1 : Int32))) (lv' := [(3, .int (x3 + (1 : Int32))), (2, .int (0 : Int32)), (0, .ref (aD G 43))]) hx hb dX7_may_113 hl (k := 2) rfl rfl (by decide) rfl (fun ls hl => ?_)
      refine lv_goto (tgt := 9) hx hb dX7_may_116 (by decide) ?_
      exact hN9 _ (Option.some.inj hE).symm _ _ _ hP hD hS (lv_sub hl [2, 1, 0] rfl)
    have J_107 : ∀ (x3 : Int32) (σ : St) (H : Heap) (locs : List Loc) (ls : Array Slot), va_P G.1 vwCl (wM G σ) H → va_D A (wM G σ) → va_S A s.heap H locs → lv_has ls 5 [(0, .ref (aD G 43)), (3, .int x3)] → f_X7_may_J107 x3 σ = some t9 → W p l e rmX7_may s m args below meth c H locs 0 0 Q (F0 m 107 ls []) := by
      intro x3 σ H locs ls hP hD hS hl hE
      unfold f_X7_may_J107 at hE
      refine lv_iconst (v := (1 : Int32)) hx hb dX7_may_107 (by decide) ?_
      refine lv_goto (tgt := 112) hx hb dX7_may_108 (by decide) ?_
      refine lv_istore_n (lv' := [(2, .int (1 : Int32)), (0, .ref (aD G 43)), (3, .int x3)]) hx hb dX7_may_112 rfl hl (by decide) rfl (fun ls hl => ?_)
      refine lv_iinc (v := (x3 + (1 : Int32))) (lv' := [(3, .int (x3 + (1 : Int32))), (2, .int (1 : Int32)), (0, .ref (aD G 43))]) hx hb dX7_may_113 hl (k := 2) rfl rfl (by decide) rfl (fun ls hl => ?_)
      refine lv_goto (tgt := 9) hx hb dX7_may_116 (by decide) ?_
      exact hN9 _ (Option.some.inj hE).symm _ _ _ hP hD hS (lv_sub hl [2, 1, 0] rfl)
    have J_68 : ∀ (x2 : Int32) (x3 : Int32) (σ : St) (H : Heap) (locs : List Loc) (ls : Array Slot), va_P G.1 vwCl (wM G σ) H → va_D A (wM G σ) → va_S A s.heap H locs → lv_has ls 5 [(0, .ref (aD G 43)), (2, .int x2), (3, .int x3)] → f_X7_may_J68 x2 x3 σ = some t9 → W p l e rmX7_may s m args below meth c H locs 0 0 Q (F0 m 68 ls []) := by
      intro x2 x3 σ H locs ls hP hD hS hl hE
      unfold f_X7_may_J68 at hE
      refine lv_iload_n hx hb dX7_may_68 rfl (lv_at hl 1 rfl) ?_
      refine lv_if_eq (tgt := 111) hx hb dX7_may_69 (by decide) (fun c_ => ?_) (fun c_ => ?_)
      · have hE := ip c_ hE
        exact J_111 x3 σ _ _ _ hP hD hS (lv_sub hl [0, 2] rfl) hE
      · have hE := im c_ hE
        refine lv_aload_n hx hb dX7_may_72 rfl (lv_at hl 0 rfl) ?_
        refine va_get (ci := 7) (v := .ref (aD G 41)) (C := RX7) (T := TX7) (N := 17) hx hb hts (fun _ h => List.mem_cons_of_mem _ (List.mem_append_right _ h)) hown hK hP 13 rfl rfl 15 (by decide) (hts (.fieldLink RX7 43 "FillCellsModel" "more" "[I") (List.mem_of_getElem? (i := 1) rfl)) (fun _ h9 => h9) rfl dX7_may_73 ?_
        refine lv_iload_n hx hb dX7_may_76 rfl (lv_at hl 2 rfl) ?_
        obtain ⟨h_i, hE⟩ := gd_some hE
        refine ldM hx hb hK hP 11 (by decide) h_i dX7_may_77 ?_
        refine lv_if_eq (tgt := 107) hx hb dX7_may_78 (by decide) (fun c_ => ?_) (fun c_ => ?_)
        · have hE := ip c_ hE
          exact J_107 x3 σ _ _ _ hP hD hS (lv_sub hl [0, 2] rfl) hE
        · have hE := im c_ hE
          refine lv_aload_n hx hb dX7_may_81 rfl (lv_at hl 0 rfl) ?_
          refine va_get (ci := 7) (v := .ref (aD G 40)) (C := RX7) (T := TX7) (N := 17) hx hb hts (fun _ h => List.mem_cons_of_mem _ (List.mem_append_right _ h)) hown hK hP 13 rfl rfl 14 (by decide) (hts (.fieldLink RX7 40 "FillCellsModel" "burdens" "[I") (List.mem_of_getElem? (i := 4) rfl)) (fun _ h9 => h9) rfl dX7_may_82 ?_
          refine lv_iload_n hx hb dX7_may_85 rfl (lv_at hl 2 rfl) ?_
          obtain ⟨h_i, hE⟩ := gd_some hE
          refine ldM hx hb hK hP 10 (by decide) h_i dX7_may_86 ?_
          refine lv_aload_n hx hb dX7_may_87 rfl (lv_at hl 0 rfl) ?_
          refine va_get (ci := 7) (v := .ref (aD G 41)) (C := RX7) (T := TX7) (N := 17) hx hb hts (fun _ h => List.mem_cons_of_mem _ (List.mem_append_right _ h)) hown hK hP 13 rfl rfl 15 (by decide) (hts (.fieldLink RX7 43 "FillCellsModel" "more" "[I") (List.mem_of_getElem? (i := 1) rfl)) (fun _ h9 => h9) rfl dX7_may_88 ?_
          refine lv_iload_n hx hb dX7_may_91 rfl (lv_at hl 2 rfl) ?_
          obtain ⟨h_i, hE⟩ := gd_some hE
          refine ldM hx hb hK hP 11 (by decide) h_i dX7_may_92 ?_
          refine lv_iadd hx hb dX7_may_93 ?_
          refine lv_aload_n hx hb dX7_may_94 rfl (lv_at hl 0 rfl) ?_
          refine va_get (ci := 7) (v := .ref (aD G 33)) (C := RX7) (T := TX7) (N := 17) hx hb hts (fun _ h => List.mem_cons_of_mem _ (List.mem_append_right _ h)) hown hK hP 13 rfl rfl 4 (by decide) (hts (.fieldLink RX7 19 "FillCellsModel" "rules" "[I") (List.mem_of_getElem? (i := 5) rfl)) (fun _ h9 => h9) rfl dX7_may_95 ?_
          refine lv_iconst (v := (4 : Int32)) hx hb dX7_may_98 (by decide) ?_
          refine lv_iload_n hx hb dX7_may_99 rfl (lv_at hl 2 rfl) ?_
          refine lv_iadd hx hb dX7_may_100 ?_
          refine lv_iconst (v := (1 : Int32)) hx hb dX7_may_101 (by decide) ?_
          refine lv_isub hx hb dX7_may_102 ?_
          obtain ⟨h_i, hE⟩ := gd_some hE
          refine ldM hx hb hK hP 3 (by decide) h_i dX7_may_103 ?_
          refine lv_icmp_gt (tgt := 111) hx hb dX7_may_104 (by decide) (fun c_ => ?_) (fun c_ => ?_)
          · have hE := ip c_ hE
            exact J_111 x3 σ _ _ _ hP hD hS (lv_sub hl [0, 2] rfl) hE
          · have hE := im c_ hE
            exact J_107 x3 σ _ _ _ hP hD hS (lv_sub hl [0, 2] rfl) hE
    have J_24 : ∀ (x2 : Int32) (x3 : Int32) (x4 : Int32) (σ : St) (H : Heap) (locs : List Loc) (ls : Array Slot), va_P G.1 vwCl (wM G σ) H → va_D A (wM G σ) → va_S A s.heap H locs → lv_has ls 5 [(0, .ref (aD G 43)), (2, .int x2), (3, .int x3), (4, .int x4)] → f_X7_may_J24 x2 x3 x4 σ = some t9 → W p l e rmX7_may s m args below meth c H locs 0 0 Q (F0 m 24 ls []) := by
      intro x2 x3 x4 σ H locs ls hP hD hS hl hE
      unfold f_X7_may_J24 at hE
      obtain ⟨y24, hL, hE24⟩ := bnd_some hE
      refine loop_W (body := f_X7_may_L24 x2 x3) (y := y24) (P := fun v24 => ∀ (H : Heap) (locs : List Loc) (ls : Array Slot), va_P G.1 vwCl (wM G v24.2) H → va_D A (wM G v24.2) → va_S A s.heap H locs → lv_has ls 5 [(0, .ref (aD G 43)), (2, .int x2), (3, .int x3), (4, .int v24.1)] → W p l e rmX7_may s m args below meth c H locs 0 0 Q (F0 m 24 ls [])) ?_ _ _ hL H locs ls hP hD hS hl
      clear hP hD hS hl hE hL
      intro v24 t24 hE hN24 hY24
      intro H locs ls hP hD hS hl
      unfold f_X7_may_L24 at hE
      have J_60 : ∀ (x4 : Int32) (t0 : Int32) (t1 : Int32) (t2 : Int32) (σ : St) (H : Heap) (locs : List Loc) (ls : Array Slot), va_P G.1 vwCl (wM G σ) H → va_D A (wM G σ) → va_S A s.heap H locs → lv_has ls 5 [(0, .ref (aD G 43)), (2, .int x2), (3, .int x3), (4, .int x4)] → f_X7_may_J60 x2 x3 x4 t0 t1 t2 σ = some t24 → W p l e rmX7_may s m args below meth c H locs 0 0 Q (F0 m 60 ls [.int t0, .int t1, .int t2, .ref (aD G 41)]) := by
        intro x4 t0 t1 t2 σ H locs ls hP hD hS hl hE
        unfold f_X7_may_J60 at hE
        refine lv_iadd hx hb dX7_may_60 ?_
        obtain ⟨h_i, hE⟩ := gd_some hE
        refine stM hx hb hK hP hD hS 11 (by decide) h_i dX7_may_61 (fun H locs hP hD hS => ?_)
        refine lv_iinc (v := (x4 + (1 : Int32))) (lv' := [(4, .int (x4 + (1 : Int32))), (0, .ref (aD G 43)), (2, .int x2), (3, .int x3)]) hx hb dX7_may_62 hl (k := 3) rfl rfl (by decide) rfl (fun ls hl => ?_)
        refine lv_goto (tgt := 24) hx hb dX7_may_65 (by decide) ?_
        exact hN24 _ (Option.some.inj hE).symm _ _ _ hP hD hS (lv_sub hl [1, 2, 3, 0] rfl)
      refine lv_iload hx hb dX7_may_24 (lv_at hl 3 rfl) ?_
      refine lv_aload_n hx hb dX7_may_26 rfl (lv_at hl 0 rfl) ?_
      refine va_get (ci := 7) (v := .int (gI v24.2 3)) (C := RX7) (T := TX7) (N := 17) hx hb hts (fun _ h => List.mem_cons_of_mem _ (List.mem_append_right _ h)) hown hK hP 13 rfl rfl 13 (by decide) (hts (.fieldLink RX7 112 "FillCellsModel" "size" "I") (List.mem_of_getElem? (i := 2) rfl)) (fun _ h9 => h9) rfl dX7_may_27 ?_
      refine lv_icmp_ge (tgt := 68) hx hb dX7_may_30 (by decide) (fun c_ => ?_) (fun c_ => ?_)
      · have hE := ip c_ hE
        have e9 := hY24 _ (Option.some.inj hE).symm
        have hE := hE24
        rw [← e9] at hE
        exact J_68 x2 x3 v24.2 _ _ _ hP hD hS (lv_sub hl [0, 1, 2] rfl) hE
      · have hE := im c_ hE
        refine lv_aload_n hx hb dX7_may_33 rfl (lv_at hl 0 rfl) ?_
        refine va_get (ci := 7) (v := .ref (aD G 41)) (C := RX7) (T := TX7) (N := 17) hx hb hts (fun _ h => List.mem_cons_of_mem _ (List.mem_append_right _ h)) hown hK hP 13 rfl rfl 15 (by decide) (hts (.fieldLink RX7 43 "FillCellsModel" "more" "[I") (List.mem_of_getElem? (i := 1) rfl)) (fun _ h9 => h9) rfl dX7_may_34 ?_
        refine lv_iload_n hx hb dX7_may_37 rfl (lv_at hl 2 rfl) ?_
        refine lv_dup2_11 hx hb dX7_may_38 rfl rfl ?_
        obtain ⟨h_i, hE⟩ := gd_some hE
        refine ldM hx hb hK hP 11 (by decide) h_i dX7_may_39 ?_
        refine lv_aload_n hx hb dX7_may_40 rfl (lv_at hl 0 rfl) ?_
        refine lv_aload_n hx hb dX7_may_41 rfl (lv_at hl 0 rfl) ?_
        refine va_get (ci := 7) (v := .ref (aD G 39)) (C := RX7) (T := TX7) (N := 17) hx hb hts (fun _ h => List.mem_cons_of_mem _ (List.mem_append_right _ h)) hown hK hP 13 rfl rfl 12 (by decide) (hts (.fieldLink RX7 37 "FillCellsModel" "members" "[I") (List.mem_of_getElem? (i := 3) rfl)) (fun _ h9 => h9) rfl dX7_may_42 ?_
        refine lv_iload hx hb dX7_may_45 (lv_at hl 3 rfl) ?_
        obtain ⟨h_i, hE⟩ := gd_some hE
        refine ldM hx hb hK hP 9 (by decide) h_i dX7_may_47 ?_
        refine lv_iload_n hx hb dX7_may_48 rfl (lv_at hl 2 rfl) ?_
        obtain ⟨r4, hC, hE⟩ := bnd_some hE
        refine ci (va_runV (As := [.int (rd v24.2 9 v24.1), .int x3]) (rest := [.int (rd v24.2 11 x3), .int x3, .ref (aD G 41)]) ⟨hx, hb, hml, hown, hts⟩ (c_X7_isBurden l G (rd v24.2 9 v24.1) x3 v24.2 r4 hC _) (cwV 2 hts gX7_may_X7_isBurden rfl rfl rfl (by decide +kernel) ⟨Nat.le_of_ble_eq_true rfl, Nat.le_of_ble_eq_true rfl⟩) (preV hK hP hD hS hA hX (va_recv hK hP (ci := 7) (q0 := 13) rfl rfl)) rfl rfl hl.1 rfl (lv_room (Nat.le_of_ble_eq_true rfl)) dX7_may_49 ⟨Nat.le_of_ble_eq_true rfl, Nat.le_of_ble_eq_true rfl⟩) hD hS hA (fun H locs hP hD hS => ?_)
        refine lv_if_eq (tgt := 59) hx hb dX7_may_52 (by decide) (fun c_ => ?_) (fun c_ => ?_)
        · have hE := ip c_ hE
          refine lv_iconst (v := (0 : Int32)) hx hb dX7_may_59 (by decide) ?_
          exact J_60 v24.1 (0 : Int32) (rd v24.2 11 x3) x3 v24.2 _ _ _ hP hD hS (lv_sub hl [0, 1, 2, 3] rfl) hE
        · have hE := im c_ hE
          refine lv_iconst (v := (1 : Int32)) hx hb dX7_may_55 (by decide) ?_
          refine lv_goto (tgt := 60) hx hb dX7_may_56 (by decide) ?_
          exact J_60 v24.1 (1 : Int32) (rd v24.2 11 x3) x3 v24.2 _ _ _ hP hD hS (lv_sub hl [0, 1, 2, 3] rfl) hE
    refine lv_iload_n hx hb dX7_may_9 rfl (lv_at hl 2 rfl) ?_
    refine lv_iconst (v := (4 : Int32)) hx hb dX7_may_10 (by decide) ?_
    refine lv_icmp_ge (tgt := 119) hx hb dX7_may_11 (by decide) (fun c_ => ?_) (fun c_ => ?_)
    · have hE := ip c_ hE
      have e9 := hY9 _ (Option.some.inj hE).symm
      have hE := hE9
      rw [← e9] at hE
      exact J_119 v9.1 v9.2.2 _ _ _ hP hD hS (lv_sub hl [0, 1] rfl) hE
    · have hE := im c_ hE
      refine lv_aload_n hx hb dX7_may_14 rfl (lv_at hl 0 rfl) ?_
      refine va_get (ci := 7) (v := .ref (aD G 41)) (C := RX7) (T := TX7) (N := 17) hx hb hts (fun _ h => List.mem_cons_of_mem _ (List.mem_append_right _ h)) hown hK hP 13 rfl rfl 15 (by decide) (hts (.fieldLink RX7 43 "FillCellsModel" "more" "[I") (List.mem_of_getElem? (i := 1) rfl)) (fun _ h9 => h9) rfl dX7_may_15 ?_
      refine lv_iload_n hx hb dX7_may_18 rfl (lv_at hl 2 rfl) ?_
      refine lv_iconst (v := (0 : Int32)) hx hb dX7_may_19 (by decide) ?_
      obtain ⟨h_i, hE⟩ := gd_some hE
      refine stM hx hb hK hP hD hS 11 (by decide) h_i dX7_may_20 (fun H locs hP hD hS => ?_)
      refine lv_iconst (v := (0 : Int32)) hx hb dX7_may_21 (by decide) ?_
      refine lv_istore (lv' := [(4, .int (0 : Int32)), (0, .ref (aD G 43)), (2, .int v9.1), (3, .int v9.2.1)]) hx hb dX7_may_22 hl (by decide) rfl (fun ls hl => ?_)
      exact J_24 v9.1 v9.2.1 (0 : Int32) (sA v9.2.2 11 v9.2.1 (0 : Int32)) _ _ _ hP hD hS (lv_sub hl [1, 2, 3, 0] rfl) hE
  refine lv_aload_n hx hb dX7_may_0 rfl (lv_at hl 0 rfl) ?_
  refine lv_iload_n hx hb dX7_may_1 rfl (lv_at hl 1 rfl) ?_
  obtain ⟨r1, hC, hE⟩ := bnd_some hE
  refine cv (va_runV (As := [.int x1]) (rest := []) ⟨hx, hb, hml, hown, hts⟩ (c_X7_marks l G x1 σ r1 hC _) (cwV 1 hts gX7_may_X7_marks rfl rfl rfl (by decide +kernel) ⟨Nat.le_of_ble_eq_true rfl, Nat.le_of_ble_eq_true rfl⟩) (preV hK hP hD hS hA hX (va_recv hK hP (ci := 7) (q0 := 13) rfl rfl)) rfl rfl hl.1 rfl (lv_room (Nat.le_of_ble_eq_true rfl)) dX7_may_2 ⟨Nat.le_of_ble_eq_true rfl, Nat.le_of_ble_eq_true rfl⟩) hD hS hA (fun H locs hP hD hS => ?_)
  refine lv_iconst (v := (1 : Int32)) hx hb dX7_may_5 (by decide) ?_
  refine lv_istore_n (lv' := [(2, .int (1 : Int32)), (0, .ref (aD G 43)), (1, .int x1)]) hx hb dX7_may_6 rfl hl (by decide) rfl (fun ls hl => ?_)
  refine lv_iconst (v := (1 : Int32)) hx hb dX7_may_7 (by decide) ?_
  refine lv_istore_n (lv' := [(3, .int (1 : Int32)), (2, .int (1 : Int32)), (0, .ref (aD G 43)), (1, .int x1)]) hx hb dX7_may_8 rfl hl (by decide) rfl (fun ls hl => ?_)
  exact J_9 (1 : Int32) (1 : Int32) r1 _ _ _ hP hD hS (lv_sub hl [2, 1, 0] rfl) hE
abbrev rmX7_of : Room := { frames := 4, cells := 0, slots := 0, locals := 87 }
def f_X7_of_J17 (σ : St) : Option (Int32 × St) := bnd (f_X7_refuses (-2 : Int32) σ) (fun r2 => some (r2.1, r2.2))
def f_X7_of (x1 x2 : Int32) (σ : St) : Option (Int32 × St) := bnd (f_X7_isCell x1) (fun r1 => if r1 = 0 then (f_X7_of_J17 σ) else (bnd (f_X7_in x2 (0 : Int32) (6 : Int32)) (fun r3 => if r3 = 0 then (f_X7_of_J17 σ) else (if (5 : Int32) ≤ x2 then (bnd (f_X7_lays σ) (fun r4 => if x2 = (5 : Int32) then (bnd (f_X7_may x1 r4) (fun r5 => if r5.1 = 0 then (some ((0 : Int32), r5.2)) else (some ((1 : Int32), r5.2)))) else (gd x1 80 (some ((rd r4 7 x1), r4))))) else (gd (((80 : Int32) * x2) + x1) 400 (some ((rd σ 0 (((80 : Int32) * x2) + x1)), σ)))))))
set_option maxHeartbeats 4000000 in
set_option maxRecDepth 100000 in
theorem c_X7_of (l : Launch) (G : EV)  (x1 x2 : Int32) (σ : St) (r : (Int32 × St)) (hE : f_X7_of x1 x2 σ = some r) : MetI l G yX7_of wsX7_of rmX7_of [.ref (aD G 43), .int x1, .int x2] (wM G σ) r.1 (wM G r.2) := by
  refine Met.of0 (Qf := PI G r.1 (wM G r.2)) (cc := cX7_of) (maxL := 3) (ret := (some .int)) (by decide) rfl (Nat.le_of_ble_eq_true rfl) ?_
  intro p e s m below meth c args A hx hb hr hts hown hlocks hml hin0 hA hS hP hK hD hX ls hl
  have hl : lv_has ls 3 [(0, .ref (aD G 43)), (1, .int x1), (2, .int x2)] := hl
  generalize hQ : MQ below (PI G r.1 (wM G r.2) A) args s 0 0 A = Q
  unfold f_X7_of at hE
  have J_17 : ∀ (σ : St) (H : Heap) (locs : List Loc) (ls : Array Slot), va_P G.1 vwCl (wM G σ) H → va_D A (wM G σ) → va_S A s.heap H locs → lv_has ls 3 [(0, .ref (aD G 43))] → f_X7_of_J17 σ = some r → W p l e rmX7_of s m args below meth c H locs 0 0 Q (F0 m 17 ls []) := by
    intro σ H locs ls hP hD hS hl hE
    unfold f_X7_of_J17 at hE
    refine lv_aload_n hx hb dX7_of_17 rfl (lv_at hl 0 rfl) ?_
    refine lv_bipush (v := (-2 : Int32)) hx hb dX7_of_18 (by decide) ?_
    obtain ⟨r2, hC, hE⟩ := bnd_some hE
    refine ci (va_runV (As := [.int (-2 : Int32)]) (rest := []) ⟨hx, hb, hml, hown, hts⟩ (c_X7_refuses l G (-2 : Int32) σ r2 hC _) (cwV 1 hts gX7_of_X7_refuses rfl rfl rfl (by decide +kernel) ⟨Nat.le_of_ble_eq_true rfl, Nat.le_of_ble_eq_true rfl⟩) (preV hK hP hD hS hA hX (va_recv hK hP (ci := 7) (q0 := 13) rfl rfl)) rfl rfl hl.1 rfl (lv_room (Nat.le_of_ble_eq_true rfl)) dX7_of_20 ⟨Nat.le_of_ble_eq_true rfl, Nat.le_of_ble_eq_true rfl⟩) hD hS hA (fun H locs hP hD hS => ?_)
    rw [← hQ, ← Option.some.inj hE]
    exact ri hx hb hr hlocks hK hP hD hS dX7_of_23
  refine lv_iload_n hx hb dX7_of_0 rfl (lv_at hl 1 rfl) ?_
  obtain ⟨r1, hC, hE⟩ := bnd_some hE
  refine ci (va_runS (As := [.int x1]) (rest := []) ⟨hx, hb, hml, hown, hts⟩ (c_X7_isCell l G x1 σ r1 hC _) (va_cwS 1 hts gX7_of_X7_isCell rfl rfl rfl (by decide +kernel) ⟨Nat.le_of_ble_eq_true rfl, Nat.le_of_ble_eq_true rfl⟩) (preS hK hP hD hS hA hX) rfl rfl hl.1 rfl (lv_room (Nat.le_of_ble_eq_true rfl)) dX7_of_1 ⟨Nat.le_of_ble_eq_true rfl, Nat.le_of_ble_eq_true rfl⟩) hD hS hA (fun H locs hP hD hS => ?_)
  refine lv_if_eq (tgt := 17) hx hb dX7_of_4 (by decide) (fun c_ => ?_) (fun c_ => ?_)
  · have hE := ip c_ hE
    exact J_17 σ _ _ _ hP hD hS (lv_sub hl [0] rfl) hE
  · have hE := im c_ hE
    refine lv_iload_n hx hb dX7_of_7 rfl (lv_at hl 2 rfl) ?_
    refine lv_iconst (v := (0 : Int32)) hx hb dX7_of_8 (by decide) ?_
    refine lv_bipush (v := (6 : Int32)) hx hb dX7_of_9 (by decide) ?_
    obtain ⟨r3, hC, hE⟩ := bnd_some hE
    refine ci (va_runS (As := [.int x2, .int (0 : Int32), .int (6 : Int32)]) (rest := []) ⟨hx, hb, hml, hown, hts⟩ (c_X7_in l G x2 (0 : Int32) (6 : Int32) σ r3 hC _) (va_cwS 3 hts gX7_of_X7_in rfl rfl rfl (by decide +kernel) ⟨Nat.le_of_ble_eq_true rfl, Nat.le_of_ble_eq_true rfl⟩) (preS hK hP hD hS hA hX) rfl rfl hl.1 rfl (lv_room (Nat.le_of_ble_eq_true rfl)) dX7_of_11 ⟨Nat.le_of_ble_eq_true rfl, Nat.le_of_ble_eq_true rfl⟩) hD hS hA (fun H locs hP hD hS => ?_)
    refine lv_if_ne (tgt := 24) hx hb dX7_of_14 (by decide) (fun c_ => ?_) (fun c_ => ?_)
    · have hE := im c_ hE
      refine lv_iload_n hx hb dX7_of_24 rfl (lv_at hl 2 rfl) ?_
      refine lv_iconst (v := (5 : Int32)) hx hb dX7_of_25 (by decide) ?_
      refine lv_icmp_ge (tgt := 41) hx hb dX7_of_26 (by decide) (fun c_ => ?_) (fun c_ => ?_)
      · have hE := ip c_ hE
        refine lv_aload_n hx hb dX7_of_41 rfl (lv_at hl 0 rfl) ?_
        obtain ⟨r4, hC, hE⟩ := bnd_some hE
        refine cv (va_runV (As := []) (rest := []) ⟨hx, hb, hml, hown, hts⟩ (c_X7_lays l G σ r4 hC _) (cwV 0 hts gX7_of_X7_lays rfl rfl rfl (by decide +kernel) ⟨Nat.le_of_ble_eq_true rfl, Nat.le_of_ble_eq_true rfl⟩) (preV hK hP hD hS hA hX (va_recv hK hP (ci := 7) (q0 := 13) rfl rfl)) rfl rfl hl.1 rfl (lv_room (Nat.le_of_ble_eq_true rfl)) dX7_of_42 ⟨Nat.le_of_ble_eq_true rfl, Nat.le_of_ble_eq_true rfl⟩) hD hS hA (fun H locs hP hD hS => ?_)
        refine lv_iload_n hx hb dX7_of_45 rfl (lv_at hl 2 rfl) ?_
        refine lv_iconst (v := (5 : Int32)) hx hb dX7_of_46 (by decide) ?_
        refine lv_icmp_ne (tgt := 66) hx hb dX7_of_47 (by decide) (fun c_ => ?_) (fun c_ => ?_)
        · have hE := im c_ hE
          refine lv_aload_n hx hb dX7_of_66 rfl (lv_at hl 0 rfl) ?_
          refine va_get (ci := 7) (v := .ref (aD G 37)) (C := RX7) (T := TX7) (N := 17) hx hb hts (fun _ h => List.mem_cons_of_mem _ (List.mem_append_right _ h)) hown hK hP 13 rfl rfl 10 (by decide) (hts (.fieldLink RX7 31 "FillCellsModel" "thin" "[I") (List.mem_of_getElem? (i := 2) rfl)) (fun _ h9 => h9) rfl dX7_of_67 ?_
          refine lv_iload_n hx hb dX7_of_70 rfl (lv_at hl 1 rfl) ?_
          obtain ⟨h_i, hE⟩ := gd_some hE
          refine ldM hx hb hK hP 7 (by decide) h_i dX7_of_71 ?_
          rw [← hQ, ← Option.some.inj hE]
          exact ri hx hb hr hlocks hK hP hD hS dX7_of_72
        · have hE := ip c_ hE
          refine lv_aload_n hx hb dX7_of_50 rfl (lv_at hl 0 rfl) ?_
          refine lv_iload_n hx hb dX7_of_51 rfl (lv_at hl 1 rfl) ?_
          obtain ⟨r5, hC, hE⟩ := bnd_some hE
          refine ci (va_runV (As := [.int x1]) (rest := []) ⟨hx, hb, hml, hown, hts⟩ (c_X7_may l G x1 r4 r5 hC _) (cwV 1 hts gX7_of_X7_may rfl rfl rfl (by decide +kernel) ⟨Nat.le_of_ble_eq_true rfl, Nat.le_of_ble_eq_true rfl⟩) (preV hK hP hD hS hA hX (va_recv hK hP (ci := 7) (q0 := 13) rfl rfl)) rfl rfl hl.1 rfl (lv_room (Nat.le_of_ble_eq_true rfl)) dX7_of_52 ⟨Nat.le_of_ble_eq_true rfl, Nat.le_of_ble_eq_true rfl⟩) hD hS hA (fun H locs hP hD hS => ?_)
          refine lv_if_eq (tgt := 62) hx hb dX7_of_55 (by decide) (fun c_ => ?_) (fun c_ => ?_)
          · have hE := ip c_ hE
            refine lv_iconst (v := (0 : Int32)) hx hb dX7_of_62 (by decide) ?_
            refine lv_goto (tgt := 72) hx hb dX7_of_63 (by decide) ?_
            rw [← hQ, ← Option.some.inj hE]
            exact ri hx hb hr hlocks hK hP hD hS dX7_of_72
          · have hE := im c_ hE
            refine lv_iconst (v := (1 : Int32)) hx hb dX7_of_58 (by decide) ?_
            refine lv_goto (tgt := 72) hx hb dX7_of_59 (by decide) ?_
            rw [← hQ, ← Option.some.inj hE]
            exact ri hx hb hr hlocks hK hP hD hS dX7_of_72
      · have hE := im c_ hE
        refine lv_aload_n hx hb dX7_of_29 rfl (lv_at hl 0 rfl) ?_
        refine va_get (ci := 7) (v := .ref (aD G 30)) (C := RX7) (T := TX7) (N := 17) hx hb hts (fun _ h => List.mem_cons_of_mem _ (List.mem_append_right _ h)) hown hK hP 13 rfl rfl 0 (by decide) (hts (.fieldLink RX7 7 "FillCellsModel" "s" "[I") (List.mem_of_getElem? (i := 1) rfl)) (fun _ h9 => h9) rfl dX7_of_30 ?_
        refine lv_bipush (v := (80 : Int32)) hx hb dX7_of_33 (by decide) ?_
        refine lv_iload_n hx hb dX7_of_35 rfl (lv_at hl 2 rfl) ?_
        refine lv_imul hx hb dX7_of_36 ?_
        refine lv_iload_n hx hb dX7_of_37 rfl (lv_at hl 1 rfl) ?_
        refine lv_iadd hx hb dX7_of_38 ?_
        obtain ⟨h_i, hE⟩ := gd_some hE
        refine ldM hx hb hK hP 0 (by decide) h_i dX7_of_39 ?_
        rw [← hQ, ← Option.some.inj hE]
        exact ri hx hb hr hlocks hK hP hD hS dX7_of_40
    · have hE := ip c_ hE
      exact J_17 σ _ _ _ hP hD hS (lv_sub hl [0] rfl) hE
abbrev rmX7_sum : Room := { frames := 2, cells := 0, slots := 0, locals := 44 }

def f_X7_sum (x1 : Int32) (σ : St) : Option (Int32 × St) := bnd (f_X7_laysSums σ) (fun r1 => bnd (f_X7_isCell x1) (fun r2 => if r2 = 0 then (bnd (f_X7_refuses (-2 : Int32) r1) (fun r3 => some (r3.1, r3.2))) else (gd x1 80 (some ((rd r1 6 x1), r1)))))
set_option maxHeartbeats 4000000 in
set_option maxRecDepth 100000 in
theorem c_X7_sum (l : Launch) (G : EV)  (x1 : Int32) (σ : St) (r : (Int32 × St)) (hE : f_X7_sum x1 σ = some r) : MetI l G yX7_sum wsX7_sum rmX7_sum [.ref (aD G 43), .int x1] (wM G σ) r.1 (wM G r.2) := by
  refine Met.of0 (Qf := PI G r.1 (wM G r.2)) (cc := cX7_sum) (maxL := 2) (ret := (some .int)) (by decide) rfl (Nat.le_of_ble_eq_true rfl) ?_
  intro p e s m below meth c args A hx hb hr hts hown hlocks hml hin0 hA hS hP hK hD hX ls hl
  have hl : lv_has ls 2 [(0, .ref (aD G 43)), (1, .int x1)] := hl
  generalize hQ : MQ below (PI G r.1 (wM G r.2) A) args s 0 0 A = Q
  unfold f_X7_sum at hE
  refine lv_aload_n hx hb dX7_sum_0 rfl (lv_at hl 0 rfl) ?_
  obtain ⟨r1, hC, hE⟩ := bnd_some hE
  refine cv (va_runV (As := []) (rest := []) ⟨hx, hb, hml, hown, hts⟩ (c_X7_laysSums l G σ r1 hC _) (cwV 0 hts gX7_sum_X7_laysSums rfl rfl rfl (by decide +kernel) ⟨Nat.le_of_ble_eq_true rfl, Nat.le_of_ble_eq_true rfl⟩) (preV hK hP hD hS hA hX (va_recv hK hP (ci := 7) (q0 := 13) rfl rfl)) rfl rfl hl.1 rfl (lv_room (Nat.le_of_ble_eq_true rfl)) dX7_sum_1 ⟨Nat.le_of_ble_eq_true rfl, Nat.le_of_ble_eq_true rfl⟩) hD hS hA (fun H locs hP hD hS => ?_)
  refine lv_iload_n hx hb dX7_sum_4 rfl (lv_at hl 1 rfl) ?_
  obtain ⟨r2, hC, hE⟩ := bnd_some hE
  refine ci (va_runS (As := [.int x1]) (rest := []) ⟨hx, hb, hml, hown, hts⟩ (c_X7_isCell l G x1 r1 r2 hC _) (va_cwS 1 hts gX7_sum_X7_isCell rfl rfl rfl (by decide +kernel) ⟨Nat.le_of_ble_eq_true rfl, Nat.le_of_ble_eq_true rfl⟩) (preS hK hP hD hS hA hX) rfl rfl hl.1 rfl (lv_room (Nat.le_of_ble_eq_true rfl)) dX7_sum_5 ⟨Nat.le_of_ble_eq_true rfl, Nat.le_of_ble_eq_true rfl⟩) hD hS hA (fun H locs hP hD hS => ?_)
  refine lv_if_eq (tgt := 20) hx hb dX7_sum_8 (by decide) (fun c_ => ?_) (fun c_ => ?_)
  · have hE := ip c_ hE
    refine lv_aload_n hx hb dX7_sum_20 rfl (lv_at hl 0 rfl) ?_
    refine lv_bipush (v := (-2 : Int32)) hx hb dX7_sum_21 (by decide) ?_
    obtain ⟨r3, hC, hE⟩ := bnd_some hE
    refine ci (va_runV (As := [.int (-2 : Int32)]) (rest := []) ⟨hx, hb, hml, hown, hts⟩ (c_X7_refuses l G (-2 : Int32) r1 r3 hC _) (cwV 1 hts gX7_sum_X7_refuses rfl rfl rfl (by decide +kernel) ⟨Nat.le_of_ble_eq_true rfl, Nat.le_of_ble_eq_true rfl⟩) (preV hK hP hD hS hA hX (va_recv hK hP (ci := 7) (q0 := 13) rfl rfl)) rfl rfl hl.1 rfl (lv_room (Nat.le_of_ble_eq_true rfl)) dX7_sum_23 ⟨Nat.le_of_ble_eq_true rfl, Nat.le_of_ble_eq_true rfl⟩) hD hS hA (fun H locs hP hD hS => ?_)
    rw [← hQ, ← Option.some.inj hE]
    exact ri hx hb hr hlocks hK hP hD hS dX7_sum_26
  · have hE := im c_ hE
    refine lv_aload_n hx hb dX7_sum_11 rfl (lv_at hl 0 rfl) ?_
    refine va_get (ci := 7) (v := .ref (aD G 36)) (C := RX7) (T := TX7) (N := 17) hx hb hts (fun _ h => List.mem_cons_of_mem _ (List.mem_append_right _ h)) hown hK hP 13 rfl rfl 9 (by decide) (hts (.fieldLink RX7 28 "FillCellsModel" "sums" "[I") (List.mem_of_getElem? (i := 1) rfl)) (fun _ h9 => h9) rfl dX7_sum_12 ?_
    refine lv_iload_n hx hb dX7_sum_15 rfl (lv_at hl 1 rfl) ?_
    obtain ⟨h_i, hE⟩ := gd_some hE
    refine ldM hx hb hK hP 6 (by decide) h_i dX7_sum_16 ?_
    refine lv_goto (tgt := 26) hx hb dX7_sum_17 (by decide) ?_
    rw [← hQ, ← Option.some.inj hE]
    exact ri hx hb hr hlocks hK hP hD hS dX7_sum_26
abbrev rmX7_windowsNow : Room := { frames := 1, cells := 0, slots := 0, locals := 21 }
def f_X7_windowsNow_J136 (x1 : Int32) (x3 : Int32) (t0 : Int32) (t1 : Int32) (σ : St) : Option (((Int32)) ⊕ (Int32 × Int32)) := some (.inr ((t1 + t0), (x3 + (1 : Int32))))
def f_X7_windowsNow_J135 (x1 : Int32) (x3 : Int32) (t0 : Int32) (σ : St) : Option (((Int32)) ⊕ (Int32 × Int32)) := f_X7_windowsNow_J136 x1 x3 (0 : Int32) t0 σ
def f_X7_windowsNow_J131 (x1 : Int32) (x3 : Int32) (t0 : Int32) (σ : St) : Option (((Int32)) ⊕ (Int32 × Int32)) := f_X7_windowsNow_J136 x1 x3 (1 : Int32) t0 σ
def f_X7_windowsNow_J121 (x1 : Int32) (x3 : Int32) (x4 : Int32) (t0 : Int32) (σ : St) : Option (((Int32)) ⊕ (Int32 × Int32)) := if x1 = (3 : Int32) then (if x4 = 0 then (f_X7_windowsNow_J135 x1 x3 t0 σ) else (f_X7_windowsNow_J131 x1 x3 t0 σ)) else (f_X7_windowsNow_J135 x1 x3 t0 σ)
def f_X7_windowsNow_J101 (x1 : Int32) (x3 : Int32) (x4 : Int32) (t0 : Int32) (σ : St) : Option (((Int32)) ⊕ (Int32 × Int32)) := if x1 = (2 : Int32) then (gd x3 80 (gd (3 : Int32) 8 (if (rd σ 3 (3 : Int32)) < (rd σ 6 x3) then (f_X7_windowsNow_J131 x1 x3 t0 σ) else (f_X7_windowsNow_J121 x1 x3 x4 t0 σ)))) else (f_X7_windowsNow_J121 x1 x3 x4 t0 σ)
def f_X7_windowsNow_J74 (x1 : Int32) (x2 : Int32) (x3 : Int32) (x4 : Int32) (σ : St) : Option (((Int32)) ⊕ (Int32 × Int32)) := gd x3 80 (if (rd σ 6 x3) < 0 then (f_X7_windowsNow_J135 x1 x3 x2 σ) else (if x1 = 0 then (f_X7_windowsNow_J131 x1 x3 x2 σ) else (if x1 = (1 : Int32) then (bnd (f_X7_isThin x3 σ) (fun r1 => if r1 = 0 then (f_X7_windowsNow_J101 x1 x3 x4 x2 σ) else (f_X7_windowsNow_J131 x1 x3 x2 σ))) else (f_X7_windowsNow_J101 x1 x3 x4 x2 σ))))
def f_X7_windowsNow_J65 (x1 : Int32) (x2 : Int32) (x3 : Int32) (x5 : Int32) (σ : St) : Option (((Int32)) ⊕ (Int32 × Int32)) := some (.inr ((0 : Int32), (x5 + (1 : Int32))))
def f_X7_windowsNow_L29 (x1 : Int32) (x2 : Int32) (x3 : Int32) (σ : St) (v29 : Int32 × Int32) : Option (((Int32)) ⊕ (Int32 × Int32)) := if x3 ≤ v29.2 then (some (.inl (v29.1))) else (if x1 = (3 : Int32) then (if v29.1 = 0 then (f_X7_windowsNow_J65 x1 x2 x3 v29.2 σ) else (gd v29.2 80 (gd x3 80 (if (rd σ 6 v29.2) = (rd σ 6 x3) then (f_X7_windowsNow_J65 x1 x2 x3 v29.2 σ) else (some (.inr ((1 : Int32), (v29.2 + (1 : Int32))))))))) else (some (.inl (v29.1))))
def f_X7_windowsNow_J29 (x1 : Int32) (x2 : Int32) (x3 : Int32) (x4 : Int32) (x5 : Int32) (σ : St) : Option (((Int32)) ⊕ (Int32 × Int32)) := bnd (loopN (f_X7_windowsNow_L29 x1 x2 x3 σ) 4096 (x4, x5)) (fun y29 => f_X7_windowsNow_J74 x1 x2 x3 y29 σ)
def f_X7_windowsNow_J24 (x1 : Int32) (x2 : Int32) (x3 : Int32) (t0 : Int32) (σ : St) : Option (((Int32)) ⊕ (Int32 × Int32)) := f_X7_windowsNow_J29 x1 x2 x3 t0 (0 : Int32) σ
def f_X7_windowsNow_L4 (x1 : Int32) (σ : St) (v4 : Int32 × Int32) : Option (((Int32)) ⊕ (Int32 × Int32)) := if (80 : Int32) ≤ v4.2 then (some (.inl (v4.1))) else (gd v4.2 80 (if (rd σ 6 v4.2) < 0 then (f_X7_windowsNow_J24 x1 v4.1 v4.2 (0 : Int32) σ) else (f_X7_windowsNow_J24 x1 v4.1 v4.2 (1 : Int32) σ)))
def f_X7_windowsNow_J4 (x1 : Int32) (x2 : Int32) (x3 : Int32) (σ : St) : Option Int32 := bnd (loopN (f_X7_windowsNow_L4 x1 σ) 4096 (x2, x3)) (fun y4 => some y4)
def f_X7_windowsNow (x1 : Int32) (σ : St) : Option Int32 := f_X7_windowsNow_J4 x1 (0 : Int32) (0 : Int32) σ
set_option maxHeartbeats 4000000 in
set_option maxRecDepth 100000 in
theorem c_X7_windowsNow (l : Launch) (G : EV)  (x1 : Int32) (σ : St) (r : Int32) (hE : f_X7_windowsNow x1 σ = some r) : MetI l G yX7_windowsNow wsX7_windowsNow rmX7_windowsNow [.ref (aD G 43), .int x1] (wM G σ) r (wM G σ) := by
  refine Met.of0 (Qf := PI G r (wM G σ)) (cc := cX7_windowsNow) (maxL := 6) (ret := (some .int)) (by decide) rfl (Nat.le_of_ble_eq_true rfl) ?_
  intro p e s m below meth c args A hx hb hr hts hown hlocks hml hin0 hA hS hP hK hD hX ls hl
  have hl : lv_has ls 6 [(0, .ref (aD G 43)), (1, .int x1)] := hl
  generalize hQ : MQ below (PI G r (wM G σ) A) args s 0 0 A = Q
  unfold f_X7_windowsNow at hE
  have J_4 : ∀ (x2 : Int32) (x3 : Int32) (H : Heap) (locs : List Loc) (ls : Array Slot), va_P G.1 vwCl (wM G σ) H → va_D A (wM G σ) → va_S A s.heap H locs → lv_has ls 6 [(0, .ref (aD G 43)), (1, .int x1), (2, .int x2), (3, .int x3)] → f_X7_windowsNow_J4 x1 x2 x3 σ = some r → W p l e rmX7_windowsNow s m args below meth c H locs 0 0 Q (F0 m 4 ls []) := by
    intro x2 x3 H locs ls hP hD hS hl hE
    unfold f_X7_windowsNow_J4 at hE
    obtain ⟨y4, hL, hE4⟩ := bnd_some hE
    refine loop_W (body := f_X7_windowsNow_L4 x1 σ) (y := y4) (P := fun v4 => ∀ (H : Heap) (locs : List Loc) (ls : Array Slot), va_P G.1 vwCl (wM G σ) H → va_D A (wM G σ) → va_S A s.heap H locs → lv_has ls 6 [(0, .ref (aD G 43)), (1, .int x1), (2, .int v4.1), (3, .int v4.2)] → W p l e rmX7_windowsNow s m args below meth c H locs 0 0 Q (F0 m 4 ls [])) ?_ _ _ hL H locs ls hP hD hS hl
    clear hP hD hS hl hE hL
    intro v4 t4 hE hN4 hY4
    intro H locs ls hP hD hS hl
    unfold f_X7_windowsNow_L4 at hE
    have J_136 : ∀ (x3 : Int32) (t0 : Int32) (t1 : Int32) (H : Heap) (locs : List Loc) (ls : Array Slot), va_P G.1 vwCl (wM G σ) H → va_D A (wM G σ) → va_S A s.heap H locs → lv_has ls 6 [(0, .ref (aD G 43)), (1, .int x1), (3, .int x3)] → f_X7_windowsNow_J136 x1 x3 t0 t1 σ = some t4 → W p l e rmX7_windowsNow s m args below meth c H locs 0 0 Q (F0 m 136 ls [.int t0, .int t1]) := by
      intro x3 t0 t1 H locs ls hP hD hS hl hE
      unfold f_X7_windowsNow_J136 at hE
      refine lv_iadd hx hb dX7_windowsNow_136 ?_
      refine lv_istore_n (lv' := [(2, .int (t1 + t0)), (0, .ref (aD G 43)), (1, .int x1), (3, .int x3)]) hx hb dX7_windowsNow_137 rfl hl (by decide) rfl (fun ls hl => ?_)
      refine lv_iinc (v := (x3 + (1 : Int32))) (lv' := [(3, .int (x3 + (1 : Int32))), (2, .int (t1 + t0)), (0, .ref (aD G 43)), (1, .int x1)]) hx hb dX7_windowsNow_138 hl (k := 3) rfl rfl (by decide) rfl (fun ls hl => ?_)
      refine lv_goto (tgt := 4) hx hb dX7_windowsNow_141 (by decide) ?_
      exact hN4 _ (Option.some.inj hE).symm _ _ _ hP hD hS (lv_sub hl [2, 3, 1, 0] rfl)
    have J_135 : ∀ (x3 : Int32) (t0 : Int32) (H : Heap) (locs : List Loc) (ls : Array Slot), va_P G.1 vwCl (wM G σ) H → va_D A (wM G σ) → va_S A s.heap H locs → lv_has ls 6 [(0, .ref (aD G 43)), (1, .int x1), (3, .int x3)] → f_X7_windowsNow_J135 x1 x3 t0 σ = some t4 → W p l e rmX7_windowsNow s m args below meth c H locs 0 0 Q (F0 m 135 ls [.int t0]) := by
      intro x3 t0 H locs ls hP hD hS hl hE
      unfold f_X7_windowsNow_J135 at hE
      refine lv_iconst (v := (0 : Int32)) hx hb dX7_windowsNow_135 (by decide) ?_
      exact J_136 x3 (0 : Int32) t0 _ _ _ hP hD hS (lv_sub hl [0, 1, 2] rfl) hE
    have J_131 : ∀ (x3 : Int32) (t0 : Int32) (H : Heap) (locs : List Loc) (ls : Array Slot), va_P G.1 vwCl (wM G σ) H → va_D A (wM G σ) → va_S A s.heap H locs → lv_has ls 6 [(0, .ref (aD G 43)), (1, .int x1), (3, .int x3)] → f_X7_windowsNow_J131 x1 x3 t0 σ = some t4 → W p l e rmX7_windowsNow s m args below meth c H locs 0 0 Q (F0 m 131 ls [.int t0]) := by
      intro x3 t0 H locs ls hP hD hS hl hE
      unfold f_X7_windowsNow_J131 at hE
      refine lv_iconst (v := (1 : Int32)) hx hb dX7_windowsNow_131 (by decide) ?_
      refine lv_goto (tgt := 136) hx hb dX7_windowsNow_132 (by decide) ?_
      exact J_136 x3 (1 : Int32) t0 _ _ _ hP hD hS (lv_sub hl [0, 1, 2] rfl) hE
    have J_121 : ∀ (x3 : Int32) (x4 : Int32) (t0 : Int32) (H : Heap) (locs : List Loc) (ls : Array Slot), va_P G.1 vwCl (wM G σ) H → va_D A (wM G σ) → va_S A s.heap H locs → lv_has ls 6 [(0, .ref (aD G 43)), (1, .int x1), (3, .int x3), (4, .int x4)] → f_X7_windowsNow_J121 x1 x3 x4 t0 σ = some t4 → W p l e rmX7_windowsNow s m args below meth c H locs 0 0 Q (F0 m 121 ls [.int t0]) := by
      intro x3 x4 t0 H locs ls hP hD hS hl hE
      unfold f_X7_windowsNow_J121 at hE
      refine lv_iload_n hx hb dX7_windowsNow_121 rfl (lv_at hl 1 rfl) ?_
      refine lv_iconst (v := (3 : Int32)) hx hb dX7_windowsNow_122 (by decide) ?_
      refine lv_icmp_ne (tgt := 135) hx hb dX7_windowsNow_123 (by decide) (fun c_ => ?_) (fun c_ => ?_)
      · have hE := im c_ hE
        exact J_135 x3 t0 _ _ _ hP hD hS (lv_sub hl [0, 1, 2] rfl) hE
      · have hE := ip c_ hE
        refine lv_iload hx hb dX7_windowsNow_126 (lv_at hl 3 rfl) ?_
        refine lv_if_eq (tgt := 135) hx hb dX7_windowsNow_128 (by decide) (fun c_ => ?_) (fun c_ => ?_)
        · have hE := ip c_ hE
          exact J_135 x3 t0 _ _ _ hP hD hS (lv_sub hl [0, 1, 2] rfl) hE
        · have hE := im c_ hE
          exact J_131 x3 t0 _ _ _ hP hD hS (lv_sub hl [0, 1, 2] rfl) hE
    have J_101 : ∀ (x3 : Int32) (x4 : Int32) (t0 : Int32) (H : Heap) (locs : List Loc) (ls : Array Slot), va_P G.1 vwCl (wM G σ) H → va_D A (wM G σ) → va_S A s.heap H locs → lv_has ls 6 [(0, .ref (aD G 43)), (1, .int x1), (3, .int x3), (4, .int x4)] → f_X7_windowsNow_J101 x1 x3 x4 t0 σ = some t4 → W p l e rmX7_windowsNow s m args below meth c H locs 0 0 Q (F0 m 101 ls [.int t0]) := by
      intro x3 x4 t0 H locs ls hP hD hS hl hE
      unfold f_X7_windowsNow_J101 at hE
      refine lv_iload_n hx hb dX7_windowsNow_101 rfl (lv_at hl 1 rfl) ?_
      refine lv_iconst (v := (2 : Int32)) hx hb dX7_windowsNow_102 (by decide) ?_
      refine lv_icmp_ne (tgt := 121) hx hb dX7_windowsNow_103 (by decide) (fun c_ => ?_) (fun c_ => ?_)
      · have hE := im c_ hE
        exact J_121 x3 x4 t0 _ _ _ hP hD hS (lv_sub hl [0, 1, 2, 3] rfl) hE
      · have hE := ip c_ hE
        refine lv_aload_n hx hb dX7_windowsNow_106 rfl (lv_at hl 0 rfl) ?_
        refine va_get (ci := 7) (v := .ref (aD G 36)) (C := RX7) (T := TX7) (N := 17) hx hb hts (fun _ h => List.mem_cons_of_mem _ (List.mem_append_right _ h)) hown hK hP 13 rfl rfl 9 (by decide) (hts (.fieldLink RX7 28 "FillCellsModel" "sums" "[I") (List.mem_of_getElem? (i := 1) rfl)) (fun _ h9 => h9) rfl dX7_windowsNow_107 ?_
        refine lv_iload_n hx hb dX7_windowsNow_110 rfl (lv_at hl 2 rfl) ?_
        obtain ⟨h_i, hE⟩ := gd_some hE
        refine ldM hx hb hK hP 6 (by decide) h_i dX7_windowsNow_111 ?_
        refine lv_aload_n hx hb dX7_windowsNow_112 rfl (lv_at hl 0 rfl) ?_
        refine va_get (ci := 7) (v := .ref (aD G 33)) (C := RX7) (T := TX7) (N := 17) hx hb hts (fun _ h => List.mem_cons_of_mem _ (List.mem_append_right _ h)) hown hK hP 13 rfl rfl 4 (by decide) (hts (.fieldLink RX7 19 "FillCellsModel" "rules" "[I") (List.mem_of_getElem? (i := 2) rfl)) (fun _ h9 => h9) rfl dX7_windowsNow_113 ?_
        refine lv_iconst (v := (3 : Int32)) hx hb dX7_windowsNow_116 (by decide) ?_
        obtain ⟨h_i, hE⟩ := gd_some hE
        refine ldM hx hb hK hP 3 (by decide) h_i dX7_windowsNow_117 ?_
        refine lv_icmp_gt (tgt := 131) hx hb dX7_windowsNow_118 (by decide) (fun c_ => ?_) (fun c_ => ?_)
        · have hE := ip c_ hE
          exact J_131 x3 t0 _ _ _ hP hD hS (lv_sub hl [0, 1, 2] rfl) hE
        · have hE := im c_ hE
          exact J_121 x3 x4 t0 _ _ _ hP hD hS (lv_sub hl [0, 1, 2, 3] rfl) hE
    have J_74 : ∀ (x2 : Int32) (x3 : Int32) (x4 : Int32) (H : Heap) (locs : List Loc) (ls : Array Slot), va_P G.1 vwCl (wM G σ) H → va_D A (wM G σ) → va_S A s.heap H locs → lv_has ls 6 [(0, .ref (aD G 43)), (1, .int x1), (2, .int x2), (3, .int x3), (4, .int x4)] → f_X7_windowsNow_J74 x1 x2 x3 x4 σ = some t4 → W p l e rmX7_windowsNow s m args below meth c H locs 0 0 Q (F0 m 74 ls []) := by
      intro x2 x3 x4 H locs ls hP hD hS hl hE
      unfold f_X7_windowsNow_J74 at hE
      refine lv_iload_n hx hb dX7_windowsNow_74 rfl (lv_at hl 2 rfl) ?_
      refine lv_aload_n hx hb dX7_windowsNow_75 rfl (lv_at hl 0 rfl) ?_
      refine va_get (ci := 7) (v := .ref (aD G 36)) (C := RX7) (T := TX7) (N := 17) hx hb hts (fun _ h => List.mem_cons_of_mem _ (List.mem_append_right _ h)) hown hK hP 13 rfl rfl 9 (by decide) (hts (.fieldLink RX7 28 "FillCellsModel" "sums" "[I") (List.mem_of_getElem? (i := 1) rfl)) (fun _ h9 => h9) rfl dX7_windowsNow_76 ?_
      refine lv_iload_n hx hb dX7_windowsNow_79 rfl (lv_at hl 3 rfl) ?_
      obtain ⟨h_i, hE⟩ := gd_some hE
      refine ldM hx hb hK hP 6 (by decide) h_i dX7_windowsNow_80 ?_
      refine lv_if_lt (tgt := 135) hx hb dX7_windowsNow_81 (by decide) (fun c_ => ?_) (fun c_ => ?_)
      · have hE := ip c_ hE
        exact J_135 x3 x2 _ _ _ hP hD hS (lv_sub hl [0, 1, 3] rfl) hE
      · have hE := im c_ hE
        refine lv_iload_n hx hb dX7_windowsNow_84 rfl (lv_at hl 1 rfl) ?_
        refine lv_if_eq (tgt := 131) hx hb dX7_windowsNow_85 (by decide) (fun c_ => ?_) (fun c_ => ?_)
        · have hE := ip c_ hE
          exact J_131 x3 x2 _ _ _ hP hD hS (lv_sub hl [0, 1, 3] rfl) hE
        · have hE := im c_ hE
          refine lv_iload_n hx hb dX7_windowsNow_88 rfl (lv_at hl 1 rfl) ?_
          refine lv_iconst (v := (1 : Int32)) hx hb dX7_windowsNow_89 (by decide) ?_
          refine lv_icmp_ne (tgt := 101) hx hb dX7_windowsNow_90 (by decide) (fun c_ => ?_) (fun c_ => ?_)
          · have hE := im c_ hE
            exact J_101 x3 x4 x2 _ _ _ hP hD hS (lv_sub hl [0, 1, 3, 4] rfl) hE
          · have hE := ip c_ hE
            refine lv_aload_n hx hb dX7_windowsNow_93 rfl (lv_at hl 0 rfl) ?_
            refine lv_iload_n hx hb dX7_windowsNow_94 rfl (lv_at hl 3 rfl) ?_
            obtain ⟨r1, hC, hE⟩ := bnd_some hE
            refine ci (va_runV (As := [.int x3]) (rest := [.int x2]) ⟨hx, hb, hml, hown, hts⟩ (c_X7_isThin l G x3 σ r1 hC _) (cwV 1 hts gX7_windowsNow_X7_isThin rfl rfl rfl (by decide +kernel) ⟨Nat.le_of_ble_eq_true rfl, Nat.le_of_ble_eq_true rfl⟩) (preV hK hP hD hS hA hX (va_recv hK hP (ci := 7) (q0 := 13) rfl rfl)) rfl rfl hl.1 rfl (lv_room (Nat.le_of_ble_eq_true rfl)) dX7_windowsNow_95 ⟨Nat.le_of_ble_eq_true rfl, Nat.le_of_ble_eq_true rfl⟩) hD hS hA (fun H locs hP hD hS => ?_)
            refine lv_if_ne (tgt := 131) hx hb dX7_windowsNow_98 (by decide) (fun c_ => ?_) (fun c_ => ?_)
            · have hE := im c_ hE
              exact J_131 x3 x2 _ _ _ hP hD hS (lv_sub hl [0, 1, 3] rfl) hE
            · have hE := ip c_ hE
              exact J_101 x3 x4 x2 _ _ _ hP hD hS (lv_sub hl [0, 1, 3, 4] rfl) hE
    have J_29 : ∀ (x2 : Int32) (x3 : Int32) (x4 : Int32) (x5 : Int32) (H : Heap) (locs : List Loc) (ls : Array Slot), va_P G.1 vwCl (wM G σ) H → va_D A (wM G σ) → va_S A s.heap H locs → lv_has ls 6 [(0, .ref (aD G 43)), (1, .int x1), (2, .int x2), (3, .int x3), (4, .int x4), (5, .int x5)] → f_X7_windowsNow_J29 x1 x2 x3 x4 x5 σ = some t4 → W p l e rmX7_windowsNow s m args below meth c H locs 0 0 Q (F0 m 29 ls []) := by
      intro x2 x3 x4 x5 H locs ls hP hD hS hl hE
      unfold f_X7_windowsNow_J29 at hE
      obtain ⟨y29, hL, hE29⟩ := bnd_some hE
      refine loop_W (body := f_X7_windowsNow_L29 x1 x2 x3 σ) (y := y29) (P := fun v29 => ∀ (H : Heap) (locs : List Loc) (ls : Array Slot), va_P G.1 vwCl (wM G σ) H → va_D A (wM G σ) → va_S A s.heap H locs → lv_has ls 6 [(0, .ref (aD G 43)), (1, .int x1), (2, .int x2), (3, .int x3), (4, .int v29.1), (5, .int v29.2)] → W p l e rmX7_windowsNow s m args below meth c H locs 0 0 Q (F0 m 29 ls [])) ?_ _ _ hL H locs ls hP hD hS hl
      clear hP hD hS hl hE hL
      intro v29 t29 hE hN29 hY29
      intro H locs ls hP hD hS hl
      unfold f_X7_windowsNow_L29 at hE
      have J_65 : ∀ (x5 : Int32) (H : Heap) (locs : List Loc) (ls : Array Slot), va_P G.1 vwCl (wM G σ) H → va_D A (wM G σ) → va_S A s.heap H locs → lv_has ls 6 [(0, .ref (aD G 43)), (1, .int x1), (2, .int x2), (3, .int x3), (5, .int x5)] → f_X7_windowsNow_J65 x1 x2 x3 x5 σ = some t29 → W p l e rmX7_windowsNow s m args below meth c H locs 0 0 Q (F0 m 65 ls []) := by
        intro x5 H locs ls hP hD hS hl hE
        unfold f_X7_windowsNow_J65 at hE
        refine lv_iconst (v := (0 : Int32)) hx hb dX7_windowsNow_65 (by decide) ?_
        refine lv_istore (lv' := [(4, .int (0 : Int32)), (0, .ref (aD G 43)), (1, .int x1), (2, .int x2), (3, .int x3), (5, .int x5)]) hx hb dX7_windowsNow_66 hl (by decide) rfl (fun ls hl => ?_)
        refine lv_iinc (v := (x5 + (1 : Int32))) (lv' := [(5, .int (x5 + (1 : Int32))), (4, .int (0 : Int32)), (0, .ref (aD G 43)), (1, .int x1), (2, .int x2), (3, .int x3)]) hx hb dX7_windowsNow_68 hl (k := 5) rfl rfl (by decide) rfl (fun ls hl => ?_)
        refine lv_goto (tgt := 29) hx hb dX7_windowsNow_71 (by decide) ?_
        exact hN29 _ (Option.some.inj hE).symm _ _ _ hP hD hS (lv_sub hl [2, 3, 4, 5, 1, 0] rfl)
      refine lv_iload hx hb dX7_windowsNow_29 (lv_at hl 5 rfl) ?_
      refine lv_iload_n hx hb dX7_windowsNow_31 rfl (lv_at hl 3 rfl) ?_
      refine lv_icmp_ge (tgt := 74) hx hb dX7_windowsNow_32 (by decide) (fun c_ => ?_) (fun c_ => ?_)
      · have hE := ip c_ hE
        have e9 := hY29 _ (Option.some.inj hE).symm
        have hE := hE29
        rw [← e9] at hE
        exact J_74 x2 x3 v29.1 _ _ _ hP hD hS (lv_sub hl [0, 1, 2, 3, 4] rfl) hE
      · have hE := im c_ hE
        refine lv_iload_n hx hb dX7_windowsNow_35 rfl (lv_at hl 1 rfl) ?_
        refine lv_iconst (v := (3 : Int32)) hx hb dX7_windowsNow_36 (by decide) ?_
        refine lv_icmp_ne (tgt := 74) hx hb dX7_windowsNow_37 (by decide) (fun c_ => ?_) (fun c_ => ?_)
        · have hE := im c_ hE
          have e9 := hY29 _ (Option.some.inj hE).symm
          have hE := hE29
          rw [← e9] at hE
          exact J_74 x2 x3 v29.1 _ _ _ hP hD hS (lv_sub hl [0, 1, 2, 3, 4] rfl) hE
        · have hE := ip c_ hE
          refine lv_iload hx hb dX7_windowsNow_40 (lv_at hl 4 rfl) ?_
          refine lv_if_eq (tgt := 65) hx hb dX7_windowsNow_42 (by decide) (fun c_ => ?_) (fun c_ => ?_)
          · have hE := ip c_ hE
            exact J_65 v29.2 _ _ _ hP hD hS (lv_sub hl [0, 1, 2, 3, 5] rfl) hE
          · have hE := im c_ hE
            refine lv_aload_n hx hb dX7_windowsNow_45 rfl (lv_at hl 0 rfl) ?_
            refine va_get (ci := 7) (v := .ref (aD G 36)) (C := RX7) (T := TX7) (N := 17) hx hb hts (fun _ h => List.mem_cons_of_mem _ (List.mem_append_right _ h)) hown hK hP 13 rfl rfl 9 (by decide) (hts (.fieldLink RX7 28 "FillCellsModel" "sums" "[I") (List.mem_of_getElem? (i := 1) rfl)) (fun _ h9 => h9) rfl dX7_windowsNow_46 ?_
            refine lv_iload hx hb dX7_windowsNow_49 (lv_at hl 5 rfl) ?_
            obtain ⟨h_i, hE⟩ := gd_some hE
            refine ldM hx hb hK hP 6 (by decide) h_i dX7_windowsNow_51 ?_
            refine lv_aload_n hx hb dX7_windowsNow_52 rfl (lv_at hl 0 rfl) ?_
            refine va_get (ci := 7) (v := .ref (aD G 36)) (C := RX7) (T := TX7) (N := 17) hx hb hts (fun _ h => List.mem_cons_of_mem _ (List.mem_append_right _ h)) hown hK hP 13 rfl rfl 9 (by decide) (hts (.fieldLink RX7 28 "FillCellsModel" "sums" "[I") (List.mem_of_getElem? (i := 1) rfl)) (fun _ h9 => h9) rfl dX7_windowsNow_53 ?_
            refine lv_iload_n hx hb dX7_windowsNow_56 rfl (lv_at hl 3 rfl) ?_
            obtain ⟨h_i, hE⟩ := gd_some hE
            refine ldM hx hb hK hP 6 (by decide) h_i dX7_windowsNow_57 ?_
            refine lv_icmp_eq (tgt := 65) hx hb dX7_windowsNow_58 (by decide) (fun c_ => ?_) (fun c_ => ?_)
            · have hE := ip c_ hE
              exact J_65 v29.2 _ _ _ hP hD hS (lv_sub hl [0, 1, 2, 3, 5] rfl) hE
            · have hE := im c_ hE
              refine lv_iconst (v := (1 : Int32)) hx hb dX7_windowsNow_61 (by decide) ?_
              refine lv_goto (tgt := 66) hx hb dX7_windowsNow_62 (by decide) ?_
              refine lv_istore (lv' := [(4, .int (1 : Int32)), (0, .ref (aD G 43)), (1, .int x1), (2, .int x2), (3, .int x3), (5, .int v29.2)]) hx hb dX7_windowsNow_66 hl (by decide) rfl (fun ls hl => ?_)
              refine lv_iinc (v := (v29.2 + (1 : Int32))) (lv' := [(5, .int (v29.2 + (1 : Int32))), (4, .int (1 : Int32)), (0, .ref (aD G 43)), (1, .int x1), (2, .int x2), (3, .int x3)]) hx hb dX7_windowsNow_68 hl (k := 5) rfl rfl (by decide) rfl (fun ls hl => ?_)
              refine lv_goto (tgt := 29) hx hb dX7_windowsNow_71 (by decide) ?_
              exact hN29 _ (Option.some.inj hE).symm _ _ _ hP hD hS (lv_sub hl [2, 3, 4, 5, 1, 0] rfl)
    have J_24 : ∀ (x2 : Int32) (x3 : Int32) (t0 : Int32) (H : Heap) (locs : List Loc) (ls : Array Slot), va_P G.1 vwCl (wM G σ) H → va_D A (wM G σ) → va_S A s.heap H locs → lv_has ls 6 [(0, .ref (aD G 43)), (1, .int x1), (2, .int x2), (3, .int x3)] → f_X7_windowsNow_J24 x1 x2 x3 t0 σ = some t4 → W p l e rmX7_windowsNow s m args below meth c H locs 0 0 Q (F0 m 24 ls [.int t0]) := by
      intro x2 x3 t0 H locs ls hP hD hS hl hE
      unfold f_X7_windowsNow_J24 at hE
      refine lv_istore (lv' := [(4, .int t0), (0, .ref (aD G 43)), (1, .int x1), (2, .int x2), (3, .int x3)]) hx hb dX7_windowsNow_24 hl (by decide) rfl (fun ls hl => ?_)
      refine lv_iconst (v := (0 : Int32)) hx hb dX7_windowsNow_26 (by decide) ?_
      refine lv_istore (lv' := [(5, .int (0 : Int32)), (4, .int t0), (0, .ref (aD G 43)), (1, .int x1), (2, .int x2), (3, .int x3)]) hx hb dX7_windowsNow_27 hl (by decide) rfl (fun ls hl => ?_)
      exact J_29 x2 x3 t0 (0 : Int32) _ _ _ hP hD hS (lv_sub hl [2, 3, 4, 5, 1, 0] rfl) hE
    refine lv_iload_n hx hb dX7_windowsNow_4 rfl (lv_at hl 3 rfl) ?_
    refine lv_bipush (v := (80 : Int32)) hx hb dX7_windowsNow_5 (by decide) ?_
    refine lv_icmp_ge (tgt := 144) hx hb dX7_windowsNow_7 (by decide) (fun c_ => ?_) (fun c_ => ?_)
    · have hE := ip c_ hE
      have e9 := hY4 _ (Option.some.inj hE).symm
      have hE := hE4
      rw [← e9] at hE
      refine lv_iload_n hx hb dX7_windowsNow_144 rfl (lv_at hl 2 rfl) ?_
      rw [← hQ, ← Option.some.inj hE]
      exact ri hx hb hr hlocks hK hP hD hS dX7_windowsNow_145
    · have hE := im c_ hE
      refine lv_aload_n hx hb dX7_windowsNow_10 rfl (lv_at hl 0 rfl) ?_
      refine va_get (ci := 7) (v := .ref (aD G 36)) (C := RX7) (T := TX7) (N := 17) hx hb hts (fun _ h => List.mem_cons_of_mem _ (List.mem_append_right _ h)) hown hK hP 13 rfl rfl 9 (by decide) (hts (.fieldLink RX7 28 "FillCellsModel" "sums" "[I") (List.mem_of_getElem? (i := 1) rfl)) (fun _ h9 => h9) rfl dX7_windowsNow_11 ?_
      refine lv_iload_n hx hb dX7_windowsNow_14 rfl (lv_at hl 3 rfl) ?_
      obtain ⟨h_i, hE⟩ := gd_some hE
      refine ldM hx hb hK hP 6 (by decide) h_i dX7_windowsNow_15 ?_
      refine lv_if_lt (tgt := 23) hx hb dX7_windowsNow_16 (by decide) (fun c_ => ?_) (fun c_ => ?_)
      · have hE := ip c_ hE
        refine lv_iconst (v := (0 : Int32)) hx hb dX7_windowsNow_23 (by decide) ?_
        exact J_24 v4.1 v4.2 (0 : Int32) _ _ _ hP hD hS (lv_sub hl [0, 1, 2, 3] rfl) hE
      · have hE := im c_ hE
        refine lv_iconst (v := (1 : Int32)) hx hb dX7_windowsNow_19 (by decide) ?_
        refine lv_goto (tgt := 24) hx hb dX7_windowsNow_20 (by decide) ?_
        exact J_24 v4.1 v4.2 (1 : Int32) _ _ _ hP hD hS (lv_sub hl [0, 1, 2, 3] rfl) hE
  refine lv_iconst (v := (0 : Int32)) hx hb dX7_windowsNow_0 (by decide) ?_
  refine lv_istore_n (lv' := [(2, .int (0 : Int32)), (0, .ref (aD G 43)), (1, .int x1)]) hx hb dX7_windowsNow_1 rfl hl (by decide) rfl (fun ls hl => ?_)
  refine lv_iconst (v := (0 : Int32)) hx hb dX7_windowsNow_2 (by decide) ?_
  refine lv_istore_n (lv' := [(3, .int (0 : Int32)), (2, .int (0 : Int32)), (0, .ref (aD G 43)), (1, .int x1)]) hx hb dX7_windowsNow_3 rfl hl (by decide) rfl (fun ls hl => ?_)
  exact J_4 (0 : Int32) (0 : Int32) _ _ _ hP hD hS (lv_sub hl [2, 3, 1, 0] rfl) hE
abbrev rmX7_windows : Room := { frames := 2, cells := 0, slots := 0, locals := 46 }

def f_X7_windows (x1 : Int32) (σ : St) : Option (Int32 × St) := bnd (f_X7_laysSums σ) (fun r1 => bnd (f_X7_in x1 (0 : Int32) (3 : Int32)) (fun r2 => if r2 = 0 then (bnd (f_X7_refuses (-2 : Int32) r1) (fun r3 => some (r3.1, r3.2))) else (bnd (f_X7_windowsNow x1 r1) (fun r4 => some (r4, r1)))))
set_option maxHeartbeats 4000000 in
set_option maxRecDepth 100000 in
theorem c_X7_windows (l : Launch) (G : EV)  (x1 : Int32) (σ : St) (r : (Int32 × St)) (hE : f_X7_windows x1 σ = some r) : MetI l G yX7_windows wsX7_windows rmX7_windows [.ref (aD G 43), .int x1] (wM G σ) r.1 (wM G r.2) := by
  refine Met.of0 (Qf := PI G r.1 (wM G r.2)) (cc := cX7_windows) (maxL := 2) (ret := (some .int)) (by decide) rfl (Nat.le_of_ble_eq_true rfl) ?_
  intro p e s m below meth c args A hx hb hr hts hown hlocks hml hin0 hA hS hP hK hD hX ls hl
  have hl : lv_has ls 2 [(0, .ref (aD G 43)), (1, .int x1)] := hl
  generalize hQ : MQ below (PI G r.1 (wM G r.2) A) args s 0 0 A = Q
  unfold f_X7_windows at hE
  refine lv_aload_n hx hb dX7_windows_0 rfl (lv_at hl 0 rfl) ?_
  obtain ⟨r1, hC, hE⟩ := bnd_some hE
  refine cv (va_runV (As := []) (rest := []) ⟨hx, hb, hml, hown, hts⟩ (c_X7_laysSums l G σ r1 hC _) (cwV 0 hts gX7_windows_X7_laysSums rfl rfl rfl (by decide +kernel) ⟨Nat.le_of_ble_eq_true rfl, Nat.le_of_ble_eq_true rfl⟩) (preV hK hP hD hS hA hX (va_recv hK hP (ci := 7) (q0 := 13) rfl rfl)) rfl rfl hl.1 rfl (lv_room (Nat.le_of_ble_eq_true rfl)) dX7_windows_1 ⟨Nat.le_of_ble_eq_true rfl, Nat.le_of_ble_eq_true rfl⟩) hD hS hA (fun H locs hP hD hS => ?_)
  refine lv_iload_n hx hb dX7_windows_4 rfl (lv_at hl 1 rfl) ?_
  refine lv_iconst (v := (0 : Int32)) hx hb dX7_windows_5 (by decide) ?_
  refine lv_iconst (v := (3 : Int32)) hx hb dX7_windows_6 (by decide) ?_
  obtain ⟨r2, hC, hE⟩ := bnd_some hE
  refine ci (va_runS (As := [.int x1, .int (0 : Int32), .int (3 : Int32)]) (rest := []) ⟨hx, hb, hml, hown, hts⟩ (c_X7_in l G x1 (0 : Int32) (3 : Int32) r1 r2 hC _) (va_cwS 3 hts gX7_windows_X7_in rfl rfl rfl (by decide +kernel) ⟨Nat.le_of_ble_eq_true rfl, Nat.le_of_ble_eq_true rfl⟩) (preS hK hP hD hS hA hX) rfl rfl hl.1 rfl (lv_room (Nat.le_of_ble_eq_true rfl)) dX7_windows_7 ⟨Nat.le_of_ble_eq_true rfl, Nat.le_of_ble_eq_true rfl⟩) hD hS hA (fun H locs hP hD hS => ?_)
  refine lv_if_eq (tgt := 21) hx hb dX7_windows_10 (by decide) (fun c_ => ?_) (fun c_ => ?_)
  · have hE := ip c_ hE
    refine lv_aload_n hx hb dX7_windows_21 rfl (lv_at hl 0 rfl) ?_
    refine lv_bipush (v := (-2 : Int32)) hx hb dX7_windows_22 (by decide) ?_
    obtain ⟨r3, hC, hE⟩ := bnd_some hE
    refine ci (va_runV (As := [.int (-2 : Int32)]) (rest := []) ⟨hx, hb, hml, hown, hts⟩ (c_X7_refuses l G (-2 : Int32) r1 r3 hC _) (cwV 1 hts gX7_windows_X7_refuses rfl rfl rfl (by decide +kernel) ⟨Nat.le_of_ble_eq_true rfl, Nat.le_of_ble_eq_true rfl⟩) (preV hK hP hD hS hA hX (va_recv hK hP (ci := 7) (q0 := 13) rfl rfl)) rfl rfl hl.1 rfl (lv_room (Nat.le_of_ble_eq_true rfl)) dX7_windows_24 ⟨Nat.le_of_ble_eq_true rfl, Nat.le_of_ble_eq_true rfl⟩) hD hS hA (fun H locs hP hD hS => ?_)
    rw [← hQ, ← Option.some.inj hE]
    exact ri hx hb hr hlocks hK hP hD hS dX7_windows_27
  · have hE := im c_ hE
    refine lv_aload_n hx hb dX7_windows_13 rfl (lv_at hl 0 rfl) ?_
    refine lv_iload_n hx hb dX7_windows_14 rfl (lv_at hl 1 rfl) ?_
    obtain ⟨r4, hC, hE⟩ := bnd_some hE
    refine ci (va_runV (As := [.int x1]) (rest := []) ⟨hx, hb, hml, hown, hts⟩ (c_X7_windowsNow l G x1 r1 r4 hC _) (cwV 1 hts gX7_windows_X7_windowsNow rfl rfl rfl (by decide +kernel) ⟨Nat.le_of_ble_eq_true rfl, Nat.le_of_ble_eq_true rfl⟩) (preV hK hP hD hS hA hX (va_recv hK hP (ci := 7) (q0 := 13) rfl rfl)) rfl rfl hl.1 rfl (lv_room (Nat.le_of_ble_eq_true rfl)) dX7_windows_15 ⟨Nat.le_of_ble_eq_true rfl, Nat.le_of_ble_eq_true rfl⟩) hD hS hA (fun H locs hP hD hS => ?_)
    refine lv_goto (tgt := 27) hx hb dX7_windows_18 (by decide) ?_
    rw [← hQ, ← Option.some.inj hE]
    exact ri hx hb hr hlocks hK hP hD hS dX7_windows_27
abbrev rmX7_worst : Room := { frames := 2, cells := 0, slots := 0, locals := 44 }
def f_X7_worst_J102 (x1 : Int32) (x2 : Int32) (σ : St) : Option (Int32 × St) := if (2 : Int32) ≤ x1 then (gd x2 80 (some ((rd σ 6 x2), σ))) else (some (x2, σ))
def f_X7_worst_J83 (x1 : Int32) (x2 : Int32) (x3 : Int32) (t0 : Int32) (σ : St) : Option (((Int32)) ⊕ (Int32 × Int32)) := if t0 = 0 then (some (.inr (x2, (x3 + (1 : Int32))))) else (some (.inr (x3, (x3 + (1 : Int32)))))
def f_X7_worst_J82 (x1 : Int32) (x2 : Int32) (x3 : Int32) (σ : St) : Option (((Int32)) ⊕ (Int32 × Int32)) := f_X7_worst_J83 x1 x2 x3 (0 : Int32) σ
def f_X7_worst_J78 (x1 : Int32) (x2 : Int32) (x3 : Int32) (σ : St) : Option (((Int32)) ⊕ (Int32 × Int32)) := f_X7_worst_J83 x1 x2 x3 (1 : Int32) σ
def f_X7_worst_L24 (x1 : Int32) (σ : St) (v24 : Int32 × Int32) : Option (((Int32)) ⊕ (Int32 × Int32)) := if (80 : Int32) ≤ v24.2 then (some (.inl (v24.1))) else (gd v24.2 80 (if (rd σ 6 v24.2) < 0 then (f_X7_worst_J82 x1 v24.1 v24.2 σ) else (if (jrem x1 (2 : Int32)) = 0 then (gd v24.2 80 (gd v24.1 80 (if (rd σ 6 v24.1) ≤ (rd σ 6 v24.2) then (f_X7_worst_J82 x1 v24.1 v24.2 σ) else (f_X7_worst_J78 x1 v24.1 v24.2 σ)))) else (gd v24.2 80 (gd v24.1 80 (if (rd σ 6 v24.2) ≤ (rd σ 6 v24.1) then (f_X7_worst_J82 x1 v24.1 v24.2 σ) else (f_X7_worst_J78 x1 v24.1 v24.2 σ)))))))
def f_X7_worst_J24 (x1 : Int32) (x2 : Int32) (x3 : Int32) (σ : St) : Option (Int32 × St) := bnd (loopN (f_X7_worst_L24 x1 σ) 4096 (x2, x3)) (fun y24 => f_X7_worst_J102 x1 y24 σ)
def f_X7_worst (x1 : Int32) (σ : St) : Option (Int32 × St) := bnd (f_X7_in x1 (0 : Int32) (3 : Int32)) (fun r1 => if r1 = 0 then (bnd (f_X7_refuses (-2 : Int32) σ) (fun r3 => some (r3.1, r3.2))) else (bnd (f_X7_laysSums σ) (fun r2 => f_X7_worst_J24 x1 (0 : Int32) (1 : Int32) r2)))
set_option maxHeartbeats 4000000 in
set_option maxRecDepth 100000 in
theorem c_X7_worst (l : Launch) (G : EV)  (x1 : Int32) (σ : St) (r : (Int32 × St)) (hE : f_X7_worst x1 σ = some r) : MetI l G yX7_worst wsX7_worst rmX7_worst [.ref (aD G 43), .int x1] (wM G σ) r.1 (wM G r.2) := by
  refine Met.of0 (Qf := PI G r.1 (wM G r.2)) (cc := cX7_worst) (maxL := 5) (ret := (some .int)) (by decide) rfl (Nat.le_of_ble_eq_true rfl) ?_
  intro p e s m below meth c args A hx hb hr hts hown hlocks hml hin0 hA hS hP hK hD hX ls hl
  have hl : lv_has ls 5 [(0, .ref (aD G 43)), (1, .int x1)] := hl
  generalize hQ : MQ below (PI G r.1 (wM G r.2) A) args s 0 0 A = Q
  unfold f_X7_worst at hE
  have J_102 : ∀ (x2 : Int32) (σ : St) (H : Heap) (locs : List Loc) (ls : Array Slot), va_P G.1 vwCl (wM G σ) H → va_D A (wM G σ) → va_S A s.heap H locs → lv_has ls 5 [(0, .ref (aD G 43)), (1, .int x1), (2, .int x2)] → f_X7_worst_J102 x1 x2 σ = some r → W p l e rmX7_worst s m args below meth c H locs 0 0 Q (F0 m 102 ls []) := by
    intro x2 σ H locs ls hP hD hS hl hE
    unfold f_X7_worst_J102 at hE
    refine lv_iload_n hx hb dX7_worst_102 rfl (lv_at hl 1 rfl) ?_
    refine lv_iconst (v := (2 : Int32)) hx hb dX7_worst_103 (by decide) ?_
    refine lv_icmp_ge (tgt := 111) hx hb dX7_worst_104 (by decide) (fun c_ => ?_) (fun c_ => ?_)
    · have hE := ip c_ hE
      refine lv_aload_n hx hb dX7_worst_111 rfl (lv_at hl 0 rfl) ?_
      refine va_get (ci := 7) (v := .ref (aD G 36)) (C := RX7) (T := TX7) (N := 17) hx hb hts (fun _ h => List.mem_cons_of_mem _ (List.mem_append_right _ h)) hown hK hP 13 rfl rfl 9 (by decide) (hts (.fieldLink RX7 28 "FillCellsModel" "sums" "[I") (List.mem_of_getElem? (i := 1) rfl)) (fun _ h9 => h9) rfl dX7_worst_112 ?_
      refine lv_iload_n hx hb dX7_worst_115 rfl (lv_at hl 2 rfl) ?_
      obtain ⟨h_i, hE⟩ := gd_some hE
      refine ldM hx hb hK hP 6 (by decide) h_i dX7_worst_116 ?_
      rw [← hQ, ← Option.some.inj hE]
      exact ri hx hb hr hlocks hK hP hD hS dX7_worst_117
    · have hE := im c_ hE
      refine lv_iload_n hx hb dX7_worst_107 rfl (lv_at hl 2 rfl) ?_
      refine lv_goto (tgt := 117) hx hb dX7_worst_108 (by decide) ?_
      rw [← hQ, ← Option.some.inj hE]
      exact ri hx hb hr hlocks hK hP hD hS dX7_worst_117
  have J_24 : ∀ (x2 : Int32) (x3 : Int32) (σ : St) (H : Heap) (locs : List Loc) (ls : Array Slot), va_P G.1 vwCl (wM G σ) H → va_D A (wM G σ) → va_S A s.heap H locs → lv_has ls 5 [(0, .ref (aD G 43)), (1, .int x1), (2, .int x2), (3, .int x3)] → f_X7_worst_J24 x1 x2 x3 σ = some r → W p l e rmX7_worst s m args below meth c H locs 0 0 Q (F0 m 24 ls []) := by
    intro x2 x3 σ H locs ls hP hD hS hl hE
    unfold f_X7_worst_J24 at hE
    obtain ⟨y24, hL, hE24⟩ := bnd_some hE
    refine loop_W (body := f_X7_worst_L24 x1 σ) (y := y24) (P := fun v24 => ∀ (H : Heap) (locs : List Loc) (ls : Array Slot), va_P G.1 vwCl (wM G σ) H → va_D A (wM G σ) → va_S A s.heap H locs → lv_has ls 5 [(0, .ref (aD G 43)), (1, .int x1), (2, .int v24.1), (3, .int v24.2)] → W p l e rmX7_worst s m args below meth c H locs 0 0 Q (F0 m 24 ls [])) ?_ _ _ hL H locs ls hP hD hS hl
    clear hP hD hS hl hE hL
    intro v24 t24 hE hN24 hY24
    intro H locs ls hP hD hS hl
    unfold f_X7_worst_L24 at hE
    have J_83 : ∀ (x2 : Int32) (x3 : Int32) (t0 : Int32) (H : Heap) (locs : List Loc) (ls : Array Slot), va_P G.1 vwCl (wM G σ) H → va_D A (wM G σ) → va_S A s.heap H locs → lv_has ls 5 [(0, .ref (aD G 43)), (1, .int x1), (2, .int x2), (3, .int x3)] → f_X7_worst_J83 x1 x2 x3 t0 σ = some t24 → W p l e rmX7_worst s m args below meth c H locs 0 0 Q (F0 m 83 ls [.int t0]) := by
      intro x2 x3 t0 H locs ls hP hD hS hl hE
      unfold f_X7_worst_J83 at hE
      refine lv_istore (lv' := [(4, .int t0), (0, .ref (aD G 43)), (1, .int x1), (2, .int x2), (3, .int x3)]) hx hb dX7_worst_83 hl (by decide) rfl (fun ls hl => ?_)
      refine lv_iload hx hb dX7_worst_85 (lv_at hl 0 rfl) ?_
      refine lv_if_eq (tgt := 94) hx hb dX7_worst_87 (by decide) (fun c_ => ?_) (fun c_ => ?_)
      · have hE := ip c_ hE
        refine lv_iload_n hx hb dX7_worst_94 rfl (lv_at hl 3 rfl) ?_
        refine lv_istore_n (lv' := [(2, .int x2), (4, .int t0), (0, .ref (aD G 43)), (1, .int x1), (3, .int x3)]) hx hb dX7_worst_95 rfl hl (by decide) rfl (fun ls hl => ?_)
        refine lv_iinc (v := (x3 + (1 : Int32))) (lv' := [(3, .int (x3 + (1 : Int32))), (2, .int x2), (4, .int t0), (0, .ref (aD G 43)), (1, .int x1)]) hx hb dX7_worst_96 hl (k := 4) rfl rfl (by decide) rfl (fun ls hl => ?_)
        refine lv_goto (tgt := 24) hx hb dX7_worst_99 (by decide) ?_
        exact hN24 _ (Option.some.inj hE).symm _ _ _ hP hD hS (lv_sub hl [3, 4, 1, 0] rfl)
      · have hE := im c_ hE
        refine lv_iload_n hx hb dX7_worst_90 rfl (lv_at hl 4 rfl) ?_
        refine lv_goto (tgt := 95) hx hb dX7_worst_91 (by decide) ?_
        refine lv_istore_n (lv' := [(2, .int x3), (4, .int t0), (0, .ref (aD G 43)), (1, .int x1), (3, .int x3)]) hx hb dX7_worst_95 rfl hl (by decide) rfl (fun ls hl => ?_)
        refine lv_iinc (v := (x3 + (1 : Int32))) (lv' := [(3, .int (x3 + (1 : Int32))), (2, .int x3), (4, .int t0), (0, .ref (aD G 43)), (1, .int x1)]) hx hb dX7_worst_96 hl (k := 4) rfl rfl (by decide) rfl (fun ls hl => ?_)
        refine lv_goto (tgt := 24) hx hb dX7_worst_99 (by decide) ?_
        exact hN24 _ (Option.some.inj hE).symm _ _ _ hP hD hS (lv_sub hl [3, 4, 1, 0] rfl)
    have J_82 : ∀ (x2 : Int32) (x3 : Int32) (H : Heap) (locs : List Loc) (ls : Array Slot), va_P G.1 vwCl (wM G σ) H → va_D A (wM G σ) → va_S A s.heap H locs → lv_has ls 5 [(0, .ref (aD G 43)), (1, .int x1), (2, .int x2), (3, .int x3)] → f_X7_worst_J82 x1 x2 x3 σ = some t24 → W p l e rmX7_worst s m args below meth c H locs 0 0 Q (F0 m 82 ls []) := by
      intro x2 x3 H locs ls hP hD hS hl hE
      unfold f_X7_worst_J82 at hE
      refine lv_iconst (v := (0 : Int32)) hx hb dX7_worst_82 (by decide) ?_
      exact J_83 x2 x3 (0 : Int32) _ _ _ hP hD hS (lv_sub hl [0, 1, 2, 3] rfl) hE
    have J_78 : ∀ (x2 : Int32) (x3 : Int32) (H : Heap) (locs : List Loc) (ls : Array Slot), va_P G.1 vwCl (wM G σ) H → va_D A (wM G σ) → va_S A s.heap H locs → lv_has ls 5 [(0, .ref (aD G 43)), (1, .int x1), (2, .int x2), (3, .int x3)] → f_X7_worst_J78 x1 x2 x3 σ = some t24 → W p l e rmX7_worst s m args below meth c H locs 0 0 Q (F0 m 78 ls []) := by
      intro x2 x3 H locs ls hP hD hS hl hE
      unfold f_X7_worst_J78 at hE
      refine lv_iconst (v := (1 : Int32)) hx hb dX7_worst_78 (by decide) ?_
      refine lv_goto (tgt := 83) hx hb dX7_worst_79 (by decide) ?_
      exact J_83 x2 x3 (1 : Int32) _ _ _ hP hD hS (lv_sub hl [0, 1, 2, 3] rfl) hE
    refine lv_iload_n hx hb dX7_worst_24 rfl (lv_at hl 3 rfl) ?_
    refine lv_bipush (v := (80 : Int32)) hx hb dX7_worst_25 (by decide) ?_
    refine lv_icmp_ge (tgt := 102) hx hb dX7_worst_27 (by decide) (fun c_ => ?_) (fun c_ => ?_)
    · have hE := ip c_ hE
      have e9 := hY24 _ (Option.some.inj hE).symm
      have hE := hE24
      rw [← e9] at hE
      exact J_102 v24.1 σ _ _ _ hP hD hS (lv_sub hl [0, 1, 2] rfl) hE
    · have hE := im c_ hE
      refine lv_aload_n hx hb dX7_worst_30 rfl (lv_at hl 0 rfl) ?_
      refine va_get (ci := 7) (v := .ref (aD G 36)) (C := RX7) (T := TX7) (N := 17) hx hb hts (fun _ h => List.mem_cons_of_mem _ (List.mem_append_right _ h)) hown hK hP 13 rfl rfl 9 (by decide) (hts (.fieldLink RX7 28 "FillCellsModel" "sums" "[I") (List.mem_of_getElem? (i := 1) rfl)) (fun _ h9 => h9) rfl dX7_worst_31 ?_
      refine lv_iload_n hx hb dX7_worst_34 rfl (lv_at hl 3 rfl) ?_
      obtain ⟨h_i, hE⟩ := gd_some hE
      refine ldM hx hb hK hP 6 (by decide) h_i dX7_worst_35 ?_
      refine lv_if_lt (tgt := 82) hx hb dX7_worst_36 (by decide) (fun c_ => ?_) (fun c_ => ?_)
      · have hE := ip c_ hE
        exact J_82 v24.1 v24.2 _ _ _ hP hD hS (lv_sub hl [0, 1, 2, 3] rfl) hE
      · have hE := im c_ hE
        refine lv_iload_n hx hb dX7_worst_39 rfl (lv_at hl 1 rfl) ?_
        refine lv_iconst (v := (2 : Int32)) hx hb dX7_worst_40 (by decide) ?_
        refine lv_irem hx hb dX7_worst_41 (by decide) ?_
        refine lv_if_ne (tgt := 63) hx hb dX7_worst_42 (by decide) (fun c_ => ?_) (fun c_ => ?_)
        · have hE := im c_ hE
          refine lv_aload_n hx hb dX7_worst_63 rfl (lv_at hl 0 rfl) ?_
          refine va_get (ci := 7) (v := .ref (aD G 36)) (C := RX7) (T := TX7) (N := 17) hx hb hts (fun _ h => List.mem_cons_of_mem _ (List.mem_append_right _ h)) hown hK hP 13 rfl rfl 9 (by decide) (hts (.fieldLink RX7 28 "FillCellsModel" "sums" "[I") (List.mem_of_getElem? (i := 1) rfl)) (fun _ h9 => h9) rfl dX7_worst_64 ?_
          refine lv_iload_n hx hb dX7_worst_67 rfl (lv_at hl 3 rfl) ?_
          obtain ⟨h_i, hE⟩ := gd_some hE
          refine ldM hx hb hK hP 6 (by decide) h_i dX7_worst_68 ?_
          refine lv_aload_n hx hb dX7_worst_69 rfl (lv_at hl 0 rfl) ?_
          refine va_get (ci := 7) (v := .ref (aD G 36)) (C := RX7) (T := TX7) (N := 17) hx hb hts (fun _ h => List.mem_cons_of_mem _ (List.mem_append_right _ h)) hown hK hP 13 rfl rfl 9 (by decide) (hts (.fieldLink RX7 28 "FillCellsModel" "sums" "[I") (List.mem_of_getElem? (i := 1) rfl)) (fun _ h9 => h9) rfl dX7_worst_70 ?_
          refine lv_iload_n hx hb dX7_worst_73 rfl (lv_at hl 2 rfl) ?_
          obtain ⟨h_i, hE⟩ := gd_some hE
          refine ldM hx hb hK hP 6 (by decide) h_i dX7_worst_74 ?_
          refine lv_icmp_le (tgt := 82) hx hb dX7_worst_75 (by decide) (fun c_ => ?_) (fun c_ => ?_)
          · have hE := ip c_ hE
            exact J_82 v24.1 v24.2 _ _ _ hP hD hS (lv_sub hl [0, 1, 2, 3] rfl) hE
          · have hE := im c_ hE
            exact J_78 v24.1 v24.2 _ _ _ hP hD hS (lv_sub hl [0, 1, 2, 3] rfl) hE
        · have hE := ip c_ hE
          refine lv_aload_n hx hb dX7_worst_45 rfl (lv_at hl 0 rfl) ?_
          refine va_get (ci := 7) (v := .ref (aD G 36)) (C := RX7) (T := TX7) (N := 17) hx hb hts (fun _ h => List.mem_cons_of_mem _ (List.mem_append_right _ h)) hown hK hP 13 rfl rfl 9 (by decide) (hts (.fieldLink RX7 28 "FillCellsModel" "sums" "[I") (List.mem_of_getElem? (i := 1) rfl)) (fun _ h9 => h9) rfl dX7_worst_46 ?_
          refine lv_iload_n hx hb dX7_worst_49 rfl (lv_at hl 3 rfl) ?_
          obtain ⟨h_i, hE⟩ := gd_some hE
          refine ldM hx hb hK hP 6 (by decide) h_i dX7_worst_50 ?_
          refine lv_aload_n hx hb dX7_worst_51 rfl (lv_at hl 0 rfl) ?_
          refine va_get (ci := 7) (v := .ref (aD G 36)) (C := RX7) (T := TX7) (N := 17) hx hb hts (fun _ h => List.mem_cons_of_mem _ (List.mem_append_right _ h)) hown hK hP 13 rfl rfl 9 (by decide) (hts (.fieldLink RX7 28 "FillCellsModel" "sums" "[I") (List.mem_of_getElem? (i := 1) rfl)) (fun _ h9 => h9) rfl dX7_worst_52 ?_
          refine lv_iload_n hx hb dX7_worst_55 rfl (lv_at hl 2 rfl) ?_
          obtain ⟨h_i, hE⟩ := gd_some hE
          refine ldM hx hb hK hP 6 (by decide) h_i dX7_worst_56 ?_
          refine lv_icmp_ge (tgt := 82) hx hb dX7_worst_57 (by decide) (fun c_ => ?_) (fun c_ => ?_)
          · have hE := ip c_ hE
            exact J_82 v24.1 v24.2 _ _ _ hP hD hS (lv_sub hl [0, 1, 2, 3] rfl) hE
          · have hE := im c_ hE
            refine lv_goto (tgt := 78) hx hb dX7_worst_60 (by decide) ?_
            exact J_78 v24.1 v24.2 _ _ _ hP hD hS (lv_sub hl [0, 1, 2, 3] rfl) hE
  refine lv_iload_n hx hb dX7_worst_0 rfl (lv_at hl 1 rfl) ?_
  refine lv_iconst (v := (0 : Int32)) hx hb dX7_worst_1 (by decide) ?_
  refine lv_iconst (v := (3 : Int32)) hx hb dX7_worst_2 (by decide) ?_
  obtain ⟨r1, hC, hE⟩ := bnd_some hE
  refine ci (va_runS (As := [.int x1, .int (0 : Int32), .int (3 : Int32)]) (rest := []) ⟨hx, hb, hml, hown, hts⟩ (c_X7_in l G x1 (0 : Int32) (3 : Int32) σ r1 hC _) (va_cwS 3 hts gX7_worst_X7_in rfl rfl rfl (by decide +kernel) ⟨Nat.le_of_ble_eq_true rfl, Nat.le_of_ble_eq_true rfl⟩) (preS hK hP hD hS hA hX) rfl rfl hl.1 rfl (lv_room (Nat.le_of_ble_eq_true rfl)) dX7_worst_3 ⟨Nat.le_of_ble_eq_true rfl, Nat.le_of_ble_eq_true rfl⟩) hD hS hA (fun H locs hP hD hS => ?_)
  refine lv_if_ne (tgt := 16) hx hb dX7_worst_6 (by decide) (fun c_ => ?_) (fun c_ => ?_)
  · have hE := im c_ hE
    refine lv_aload_n hx hb dX7_worst_16 rfl (lv_at hl 0 rfl) ?_
    obtain ⟨r2, hC, hE⟩ := bnd_some hE
    refine cv (va_runV (As := []) (rest := []) ⟨hx, hb, hml, hown, hts⟩ (c_X7_laysSums l G σ r2 hC _) (cwV 0 hts gX7_worst_X7_laysSums rfl rfl rfl (by decide +kernel) ⟨Nat.le_of_ble_eq_true rfl, Nat.le_of_ble_eq_true rfl⟩) (preV hK hP hD hS hA hX (va_recv hK hP (ci := 7) (q0 := 13) rfl rfl)) rfl rfl hl.1 rfl (lv_room (Nat.le_of_ble_eq_true rfl)) dX7_worst_17 ⟨Nat.le_of_ble_eq_true rfl, Nat.le_of_ble_eq_true rfl⟩) hD hS hA (fun H locs hP hD hS => ?_)
    refine lv_iconst (v := (0 : Int32)) hx hb dX7_worst_20 (by decide) ?_
    refine lv_istore_n (lv' := [(2, .int (0 : Int32)), (0, .ref (aD G 43)), (1, .int x1)]) hx hb dX7_worst_21 rfl hl (by decide) rfl (fun ls hl => ?_)
    refine lv_iconst (v := (1 : Int32)) hx hb dX7_worst_22 (by decide) ?_
    refine lv_istore_n (lv' := [(3, .int (1 : Int32)), (2, .int (0 : Int32)), (0, .ref (aD G 43)), (1, .int x1)]) hx hb dX7_worst_23 rfl hl (by decide) rfl (fun ls hl => ?_)
    exact J_24 (0 : Int32) (1 : Int32) r2 _ _ _ hP hD hS (lv_sub hl [2, 3, 1, 0] rfl) hE
  · have hE := ip c_ hE
    refine lv_aload_n hx hb dX7_worst_9 rfl (lv_at hl 0 rfl) ?_
    refine lv_bipush (v := (-2 : Int32)) hx hb dX7_worst_10 (by decide) ?_
    obtain ⟨r3, hC, hE⟩ := bnd_some hE
    refine ci (va_runV (As := [.int (-2 : Int32)]) (rest := []) ⟨hx, hb, hml, hown, hts⟩ (c_X7_refuses l G (-2 : Int32) σ r3 hC _) (cwV 1 hts gX7_worst_X7_refuses rfl rfl rfl (by decide +kernel) ⟨Nat.le_of_ble_eq_true rfl, Nat.le_of_ble_eq_true rfl⟩) (preV hK hP hD hS hA hX (va_recv hK hP (ci := 7) (q0 := 13) rfl rfl)) rfl rfl hl.1 rfl (lv_room (Nat.le_of_ble_eq_true rfl)) dX7_worst_12 ⟨Nat.le_of_ble_eq_true rfl, Nat.le_of_ble_eq_true rfl⟩) hD hS hA (fun H locs hP hD hS => ?_)
    rw [← hQ, ← Option.some.inj hE]
    exact ri hx hb hr hlocks hK hP hD hS dX7_worst_15

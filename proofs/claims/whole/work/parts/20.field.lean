abbrev rmJ7_fill_53178 : Room := { frames := 0, cells := 0, slots := 0, locals := 0 }
def f_J7_fill_53178_L5 (k0 : Nat) (x1 : Int32) (x3 : Int32) (v5 : Int32 × St) : Option (((St)) ⊕ (Int32 × St)) := if x3 ≤ v5.1 then (some (.inl (v5.2))) else (gd v5.1 (lnC k0) (some (.inr ((v5.1 + (1 : Int32)), (sA v5.2 k0 v5.1 x1)))))
def f_J7_fill_53178_J5 (k0 : Nat) (x1 : Int32) (x2 : Int32) (x3 : Int32) (σ : St) : Option St := bnd (loopN (f_J7_fill_53178_L5 k0 x1 x3) 4096 (x2, σ)) (fun y5 => some y5)
def f_J7_fill_53178 (k0 : Nat) (x1 : Int32) (σ : St) : Option St := f_J7_fill_53178_J5 k0 x1 (0 : Int32) (Int32.ofNat (lnC k0)) σ
set_option maxHeartbeats 4000000 in
set_option maxRecDepth 100000 in
theorem c_J7_fill_53178 (l : Launch) (G : EV) (k0 : Nat) (hk0 : k0 < 18) (x1 : Int32) (σ : St) (r : St) (hE : f_J7_fill_53178 k0 x1 σ = some r) : MetV l G yJ7_fill_53178 wsJ7_fill_53178 rmJ7_fill_53178 [.ref (aD G k0), .int x1] (wC G σ) (wC G r) := by
  refine Met.of0 (Qf := PV G (wC G r)) (cc := cJ7_fill_53178) (maxL := 4) (ret := none) (by decide) rfl (Nat.le_of_ble_eq_true rfl) ?_
  intro p e s m below meth c args A hx hb hr hts hown hlocks hml hin0 hA hS hP hK hD hX ls hl
  have hl : lv_has ls 4 [(0, .ref (aD G k0)), (1, .int x1)] := hl
  generalize hQ : MQ below (PV G (wC G r) A) args s 0 0 A = Q
  unfold f_J7_fill_53178 at hE
  have J_5 : ∀ (x1 : Int32) (x2 : Int32) (x3 : Int32) (σ : St) (H : Heap) (locs : List Loc) (ls : Array Slot), va_P G.1 vwCl (wC G σ) H → va_D A (wC G σ) → va_S A s.heap H locs → lv_has ls 4 [(0, .ref (aD G k0)), (1, .int x1), (2, .int x2), (3, .int x3)] → f_J7_fill_53178_J5 k0 x1 x2 x3 σ = some r → W p l e rmJ7_fill_53178 s m args below meth c H locs 0 0 Q (F0 m 5 ls []) := by
    intro x1 x2 x3 σ H locs ls hP hD hS hl hE
    unfold f_J7_fill_53178_J5 at hE
    obtain ⟨y5, hL, hE5⟩ := bnd_some hE
    refine loop_W (body := f_J7_fill_53178_L5 k0 x1 x3) (y := y5) (P := fun v5 => ∀ (H : Heap) (locs : List Loc) (ls : Array Slot), va_P G.1 vwCl (wC G v5.2) H → va_D A (wC G v5.2) → va_S A s.heap H locs → lv_has ls 4 [(0, .ref (aD G k0)), (1, .int x1), (2, .int v5.1), (3, .int x3)] → W p l e rmJ7_fill_53178 s m args below meth c H locs 0 0 Q (F0 m 5 ls [])) ?_ _ _ hL H locs ls hP hD hS hl
    clear hP hD hS hl hE hL
    intro v5 t5 hE hN5 hY5
    intro H locs ls hP hD hS hl
    unfold f_J7_fill_53178_L5 at hE
    refine lv_iload_n hx hb dJ7_fill_53178_5 rfl (lv_at hl 2 rfl) ?_
    refine lv_iload_n hx hb dJ7_fill_53178_6 rfl (lv_at hl 3 rfl) ?_
    refine lv_icmp_ge (tgt := 20) hx hb dJ7_fill_53178_7 (by decide) (fun c_ => ?_) (fun c_ => ?_)
    · have hE := ip c_ hE
      have e9 := hY5 _ (Option.some.inj hE).symm
      have hE := hE5
      rw [← e9] at hE
      rw [← hQ, ← Option.some.inj hE]
      exact rv hx hb hr hlocks hK hP hD hS dJ7_fill_53178_20
    · have hE := im c_ hE
      refine lv_aload_n hx hb dJ7_fill_53178_10 rfl (lv_at hl 0 rfl) ?_
      refine lv_iload_n hx hb dJ7_fill_53178_11 rfl (lv_at hl 2 rfl) ?_
      refine lv_iload_n hx hb dJ7_fill_53178_12 rfl (lv_at hl 1 rfl) ?_
      obtain ⟨h_i, hE⟩ := gd_some hE
      refine stC hx hb hK hP hD hS k0 hk0 h_i dJ7_fill_53178_13 (fun H locs hP hD hS => ?_)
      refine lv_iinc (v := (v5.1 + (1 : Int32))) (lv' := [(2, .int (v5.1 + (1 : Int32))), (0, .ref (aD G k0)), (1, .int x1), (3, .int x3)]) hx hb dJ7_fill_53178_14 hl (k := 2) rfl rfl (by decide) rfl (fun ls hl => ?_)
      refine lv_goto (tgt := 5) hx hb dJ7_fill_53178_17 (by decide) ?_
      exact hN5 _ (Option.some.inj hE).symm _ _ _ hP hD hS (lv_sub hl [1, 2, 0, 3] rfl)
  refine lv_iconst (v := (0 : Int32)) hx hb dJ7_fill_53178_0 (by decide) ?_
  refine lv_istore_n (lv' := [(2, .int (0 : Int32)), (0, .ref (aD G k0)), (1, .int x1)]) hx hb dJ7_fill_53178_1 rfl hl (by decide) rfl (fun ls hl => ?_)
  refine lv_aload_n hx hb dJ7_fill_53178_2 rfl (lv_at hl 1 rfl) ?_
  refine va_alen (v := (Int32.ofNat (lnC k0))) hx hb hK hP k0 0 (wC_at G _ k0 hk0) rfl rfl dJ7_fill_53178_3 ?_
  refine lv_istore_n (lv' := [(3, .int (Int32.ofNat (lnC k0))), (2, .int (0 : Int32)), (0, .ref (aD G k0)), (1, .int x1)]) hx hb dJ7_fill_53178_4 rfl hl (by decide) rfl (fun ls hl => ?_)
  exact J_5 x1 (0 : Int32) (Int32.ofNat (lnC k0)) σ _ _ _ hP hD hS (lv_sub hl [2, 3, 1, 0] rfl) hE
abbrev rmX6_isIn : Room := { frames := 0, cells := 0, slots := 0, locals := 0 }

def f_X6_isIn (x0 x1 x2 : Int32) : Option Int32 := if x0 < x1 then (some (0 : Int32)) else (if x2 < x0 then (some (0 : Int32)) else (some (1 : Int32)))
set_option maxHeartbeats 4000000 in
set_option maxRecDepth 100000 in
theorem c_X6_isIn (l : Launch) (G : EV)  (x0 x1 x2 : Int32) (σ : St) (r : Int32) (hE : f_X6_isIn x0 x1 x2 = some r) : MetI l G yX6_isIn wsX6_isIn rmX6_isIn [.int x0, .int x1, .int x2] (wC G σ) r (wC G σ) := by
  refine Met.of0 (Qf := PI G r (wC G σ)) (cc := cX6_isIn) (maxL := 3) (ret := (some .boolean)) (by decide) rfl (Nat.le_of_ble_eq_true rfl) ?_
  intro p e s m below meth c args A hx hb hr hts hown hlocks hml hin0 hA hS hP hK hD hX ls hl
  have hl : lv_has ls 3 [(0, .int x0), (1, .int x1), (2, .int x2)] := hl
  generalize hQ : MQ below (PI G r (wC G σ) A) args s 0 0 A = Q
  unfold f_X6_isIn at hE
  refine lv_iload_n hx hb dX6_isIn_0 rfl (lv_at hl 0 rfl) ?_
  refine lv_iload_n hx hb dX6_isIn_1 rfl (lv_at hl 1 rfl) ?_
  refine lv_icmp_lt (tgt := 14) hx hb dX6_isIn_2 (by decide) (fun c_ => ?_) (fun c_ => ?_)
  · have hE := ip c_ hE
    refine lv_iconst (v := (0 : Int32)) hx hb dX6_isIn_14 (by decide) ?_
    rw [← hQ, ← Option.some.inj hE]
    exact rz hx hb hr hlocks hK hP hD hS rfl dX6_isIn_15
  · have hE := im c_ hE
    refine lv_iload_n hx hb dX6_isIn_5 rfl (lv_at hl 0 rfl) ?_
    refine lv_iload_n hx hb dX6_isIn_6 rfl (lv_at hl 2 rfl) ?_
    refine lv_icmp_gt (tgt := 14) hx hb dX6_isIn_7 (by decide) (fun c_ => ?_) (fun c_ => ?_)
    · have hE := ip c_ hE
      refine lv_iconst (v := (0 : Int32)) hx hb dX6_isIn_14 (by decide) ?_
      rw [← hQ, ← Option.some.inj hE]
      exact rz hx hb hr hlocks hK hP hD hS rfl dX6_isIn_15
    · have hE := im c_ hE
      refine lv_iconst (v := (1 : Int32)) hx hb dX6_isIn_10 (by decide) ?_
      refine lv_goto (tgt := 15) hx hb dX6_isIn_11 (by decide) ?_
      rw [← hQ, ← Option.some.inj hE]
      exact rz hx hb hr hlocks hK hP hD hS rfl dX6_isIn_15
abbrev rmX6_isCell : Room := { frames := 1, cells := 0, slots := 0, locals := 22 }

def f_X6_isCell (x0 : Int32) : Option Int32 := bnd (f_X6_isIn x0 (0 : Int32) (79 : Int32)) (fun r1 => gb r1 (some r1))
set_option maxHeartbeats 4000000 in
set_option maxRecDepth 100000 in
theorem c_X6_isCell (l : Launch) (G : EV)  (x0 : Int32) (σ : St) (r : Int32) (hE : f_X6_isCell x0 = some r) : MetI l G yX6_isCell wsX6_isCell rmX6_isCell [.int x0] (wC G σ) r (wC G σ) := by
  refine Met.of0 (Qf := PI G r (wC G σ)) (cc := cX6_isCell) (maxL := 1) (ret := (some .boolean)) (by decide) rfl (Nat.le_of_ble_eq_true rfl) ?_
  intro p e s m below meth c args A hx hb hr hts hown hlocks hml hin0 hA hS hP hK hD hX ls hl
  have hl : lv_has ls 1 [(0, .int x0)] := hl
  generalize hQ : MQ below (PI G r (wC G σ) A) args s 0 0 A = Q
  unfold f_X6_isCell at hE
  refine lv_iload_n hx hb dX6_isCell_0 rfl (lv_at hl 0 rfl) ?_
  refine lv_iconst (v := (0 : Int32)) hx hb dX6_isCell_1 (by decide) ?_
  refine lv_bipush (v := (79 : Int32)) hx hb dX6_isCell_2 (by decide) ?_
  obtain ⟨r1, hC, hE⟩ := bnd_some hE
  refine ci (va_runS (As := [.int x0, .int (0 : Int32), .int (79 : Int32)]) (rest := []) ⟨hx, hb, hml, hown, hts⟩ (c_X6_isIn l G x0 (0 : Int32) (79 : Int32) σ r1 hC _) (va_cwS 3 hts gX6_isCell_X6_isIn rfl rfl rfl (by decide +kernel) ⟨Nat.le_of_ble_eq_true rfl, Nat.le_of_ble_eq_true rfl⟩) (preS hK hP hD hS hA hX) rfl rfl hl.1 rfl (lv_room (Nat.le_of_ble_eq_true rfl)) dX6_isCell_4 ⟨Nat.le_of_ble_eq_true rfl, Nat.le_of_ble_eq_true rfl⟩) hD hS hA (fun H locs hP hD hS => ?_)
  obtain ⟨h_n, hE⟩ := gb_some hE
  rw [← hQ, ← Option.some.inj hE]
  exact rz hx hb hr hlocks hK hP hD hS h_n dX6_isCell_7
abbrev rmX6_total : Room := { frames := 0, cells := 0, slots := 0, locals := 0 }
def f_X6_total_L10 (k0 : Nat) (x3 : Int32) (σ : St) (v10 : Int32 × Int32) : Option (((Int32)) ⊕ (Int32 × Int32)) := if x3 ≤ v10.2 then (some (.inl (v10.1))) else (gd v10.2 (lnC k0) (some (.inr ((v10.1 + (rd σ k0 v10.2)), (v10.2 + (1 : Int32))))))
def f_X6_total_J10 (k0 : Nat) (x1 : Int32) (x3 : Int32) (x4 : Int32) (σ : St) : Option Int32 := bnd (loopN (f_X6_total_L10 k0 x3 σ) 4096 (x1, x4)) (fun y10 => some y10)
def f_X6_total (k0 : Nat) (σ : St) : Option Int32 := f_X6_total_J10 k0 (0 : Int32) (Int32.ofNat (lnC k0)) (0 : Int32) σ
set_option maxHeartbeats 4000000 in
set_option maxRecDepth 100000 in
theorem c_X6_total (l : Launch) (G : EV) (k0 : Nat) (hk0 : k0 < 18)  (σ : St) (r : Int32) (hE : f_X6_total k0 σ = some r) : MetI l G yX6_total wsX6_total rmX6_total [.ref (aD G k0)] (wC G σ) r (wC G σ) := by
  refine Met.of0 (Qf := PI G r (wC G σ)) (cc := cX6_total) (maxL := 6) (ret := (some .int)) (by decide) rfl (Nat.le_of_ble_eq_true rfl) ?_
  intro p e s m below meth c args A hx hb hr hts hown hlocks hml hin0 hA hS hP hK hD hX ls hl
  have hl : lv_has ls 6 [(0, .ref (aD G k0))] := hl
  generalize hQ : MQ below (PI G r (wC G σ) A) args s 0 0 A = Q
  unfold f_X6_total at hE
  have J_10 : ∀ (x1 : Int32) (x3 : Int32) (x4 : Int32) (H : Heap) (locs : List Loc) (ls : Array Slot), va_P G.1 vwCl (wC G σ) H → va_D A (wC G σ) → va_S A s.heap H locs → lv_has ls 6 [(1, .int x1), (2, .ref (aD G k0)), (3, .int x3), (4, .int x4)] → f_X6_total_J10 k0 x1 x3 x4 σ = some r → W p l e rmX6_total s m args below meth c H locs 0 0 Q (F0 m 10 ls []) := by
    intro x1 x3 x4 H locs ls hP hD hS hl hE
    unfold f_X6_total_J10 at hE
    obtain ⟨y10, hL, hE10⟩ := bnd_some hE
    refine loop_W (body := f_X6_total_L10 k0 x3 σ) (y := y10) (P := fun v10 => ∀ (H : Heap) (locs : List Loc) (ls : Array Slot), va_P G.1 vwCl (wC G σ) H → va_D A (wC G σ) → va_S A s.heap H locs → lv_has ls 6 [(1, .int v10.1), (2, .ref (aD G k0)), (3, .int x3), (4, .int v10.2)] → W p l e rmX6_total s m args below meth c H locs 0 0 Q (F0 m 10 ls [])) ?_ _ _ hL H locs ls hP hD hS hl
    clear hP hD hS hl hE hL
    intro v10 t10 hE hN10 hY10
    intro H locs ls hP hD hS hl
    unfold f_X6_total_L10 at hE
    refine lv_iload hx hb dX6_total_10 (lv_at hl 3 rfl) ?_
    refine lv_iload_n hx hb dX6_total_12 rfl (lv_at hl 2 rfl) ?_
    refine lv_icmp_ge (tgt := 33) hx hb dX6_total_13 (by decide) (fun c_ => ?_) (fun c_ => ?_)
    · have hE := ip c_ hE
      have e9 := hY10 _ (Option.some.inj hE).symm
      have hE := hE10
      rw [← e9] at hE
      refine lv_iload_n hx hb dX6_total_33 rfl (lv_at hl 0 rfl) ?_
      rw [← hQ, ← Option.some.inj hE]
      exact ri hx hb hr hlocks hK hP hD hS dX6_total_34
    · have hE := im c_ hE
      refine lv_aload_n hx hb dX6_total_16 rfl (lv_at hl 1 rfl) ?_
      refine lv_iload hx hb dX6_total_17 (lv_at hl 3 rfl) ?_
      obtain ⟨h_i, hE⟩ := gd_some hE
      refine ldC hx hb hK hP k0 hk0 h_i dX6_total_19 ?_
      refine lv_istore (lv' := [(5, .int (rd σ k0 v10.2)), (1, .int v10.1), (2, .ref (aD G k0)), (3, .int x3), (4, .int v10.2)]) hx hb dX6_total_20 hl (by decide) rfl (fun ls hl => ?_)
      refine lv_iload_n hx hb dX6_total_22 rfl (lv_at hl 1 rfl) ?_
      refine lv_iload hx hb dX6_total_23 (lv_at hl 0 rfl) ?_
      refine lv_iadd hx hb dX6_total_25 ?_
      refine lv_istore_n (lv' := [(1, .int (v10.1 + (rd σ k0 v10.2))), (5, .int (rd σ k0 v10.2)), (2, .ref (aD G k0)), (3, .int x3), (4, .int v10.2)]) hx hb dX6_total_26 rfl hl (by decide) rfl (fun ls hl => ?_)
      refine lv_iinc (v := (v10.2 + (1 : Int32))) (lv' := [(4, .int (v10.2 + (1 : Int32))), (1, .int (v10.1 + (rd σ k0 v10.2))), (5, .int (rd σ k0 v10.2)), (2, .ref (aD G k0)), (3, .int x3)]) hx hb dX6_total_27 hl (k := 4) rfl rfl (by decide) rfl (fun ls hl => ?_)
      refine lv_goto (tgt := 10) hx hb dX6_total_30 (by decide) ?_
      exact hN10 _ (Option.some.inj hE).symm _ _ _ hP hD hS (lv_sub hl [1, 3, 4, 0] rfl)
  refine lv_iconst (v := (0 : Int32)) hx hb dX6_total_0 (by decide) ?_
  refine lv_istore_n (lv' := [(1, .int (0 : Int32)), (0, .ref (aD G k0))]) hx hb dX6_total_1 rfl hl (by decide) rfl (fun ls hl => ?_)
  refine lv_aload_n hx hb dX6_total_2 rfl (lv_at hl 1 rfl) ?_
  refine lv_astore_n (lv' := [(2, .ref (aD G k0)), (1, .int (0 : Int32)), (0, .ref (aD G k0))]) hx hb dX6_total_3 rfl hl (by decide) rfl (fun ls hl => ?_)
  refine lv_aload_n hx hb dX6_total_4 rfl (lv_at hl 0 rfl) ?_
  refine va_alen (v := (Int32.ofNat (lnC k0))) hx hb hK hP k0 0 (wC_at G _ k0 hk0) rfl rfl dX6_total_5 ?_
  refine lv_istore_n (lv' := [(3, .int (Int32.ofNat (lnC k0))), (2, .ref (aD G k0)), (1, .int (0 : Int32)), (0, .ref (aD G k0))]) hx hb dX6_total_6 rfl hl (by decide) rfl (fun ls hl => ?_)
  refine lv_iconst (v := (0 : Int32)) hx hb dX6_total_7 (by decide) ?_
  refine lv_istore (lv' := [(4, .int (0 : Int32)), (3, .int (Int32.ofNat (lnC k0))), (2, .ref (aD G k0)), (1, .int (0 : Int32)), (0, .ref (aD G k0))]) hx hb dX6_total_8 hl (by decide) rfl (fun ls hl => ?_)
  exact J_10 (0 : Int32) (Int32.ofNat (lnC k0)) (0 : Int32) _ _ _ hP hD hS (lv_sub hl [3, 2, 1, 0] rfl) hE
abbrev rmX0_part : Room := { frames := 0, cells := 0, slots := 0, locals := 0 }

def f_X0_part (x1 : Int32) (σ : St) : Option Nat := if x1 = (0 : Int32) then (some 0) else (if x1 = (1 : Int32) then (some 1) else (if x1 = (2 : Int32) then (some 2) else (if x1 = (3 : Int32) then (some 3) else (some 4))))
set_option maxHeartbeats 4000000 in
set_option maxRecDepth 100000 in
theorem c_X0_part (l : Launch) (G : EV)  (x1 : Int32) (σ : St) (r : Nat) (hE : f_X0_part x1 σ = some r) : MetR l G yX0_part wsX0_part rmX0_part [.ref (aD G 19), .int x1] (wC G σ) (aD G r) (wC G σ) := by
  refine Met.of0 (Qf := PR G (aD G r) (wC G σ)) (cc := cX0_part) (maxL := 2) (ret := (some (.array .int))) (by decide) rfl (Nat.le_of_ble_eq_true rfl) ?_
  intro p e s m below meth c args A hx hb hr hts hown hlocks hml hin0 hA hS hP hK hD hX ls hl
  have hl : lv_has ls 2 [(0, .ref (aD G 19)), (1, .int x1)] := hl
  generalize hQ : MQ below (PR G (aD G r) (wC G σ) A) args s 0 0 A = Q
  unfold f_X0_part at hE
  refine lv_iload_n hx hb dX0_part_0 rfl (lv_at hl 1 rfl) ?_
  by_cases c_0 : x1 = (0 : Int32)
  · have hE := ip c_0 hE
    refine lv_tableIn (off := 31) (tgt := 32) hx hb dX0_part_1 (by rw [c_0]; decide) (by rw [c_0]; decide) (by rw [c_0]; rfl) (by decide) ?_
    refine lv_aload_n hx hb dX0_part_32 rfl (lv_at hl 0 rfl) ?_
    refine va_get (ci := 0) (v := .ref (aD G 0)) (C := RX0) (T := TX0) (N := 5) hx hb hts (fun _ h => List.mem_cons_of_mem _ (List.mem_append_right _ h)) hown hK hP 19 rfl rfl 0 (by decide) (hts (.fieldLink RX0 9 "FillCells$Field" "shapes" "[I") (List.mem_of_getElem? (i := 1) rfl)) (fun _ h9 => h9) rfl dX0_part_33 ?_
    rw [← hQ, ← Option.some.inj hE]
    exact ra hx hb hr hlocks hK hP hD hS dX0_part_36
  · have hE := im c_0 hE
    by_cases c_1 : x1 = (1 : Int32)
    · have hE := ip c_1 hE
      refine lv_tableIn (off := 36) (tgt := 37) hx hb dX0_part_1 (by rw [c_1]; decide) (by rw [c_1]; decide) (by rw [c_1]; rfl) (by decide) ?_
      refine lv_aload_n hx hb dX0_part_37 rfl (lv_at hl 0 rfl) ?_
      refine va_get (ci := 0) (v := .ref (aD G 1)) (C := RX0) (T := TX0) (N := 5) hx hb hts (fun _ h => List.mem_cons_of_mem _ (List.mem_append_right _ h)) hown hK hP 19 rfl rfl 1 (by decide) (hts (.fieldLink RX0 15 "FillCells$Field" "shut" "[I") (List.mem_of_getElem? (i := 2) rfl)) (fun _ h9 => h9) rfl dX0_part_38 ?_
      rw [← hQ, ← Option.some.inj hE]
      exact ra hx hb hr hlocks hK hP hD hS dX0_part_41
    · have hE := im c_1 hE
      by_cases c_2 : x1 = (2 : Int32)
      · have hE := ip c_2 hE
        refine lv_tableIn (off := 41) (tgt := 42) hx hb dX0_part_1 (by rw [c_2]; decide) (by rw [c_2]; decide) (by rw [c_2]; rfl) (by decide) ?_
        refine lv_aload_n hx hb dX0_part_42 rfl (lv_at hl 0 rfl) ?_
        refine va_get (ci := 0) (v := .ref (aD G 2)) (C := RX0) (T := TX0) (N := 5) hx hb hts (fun _ h => List.mem_cons_of_mem _ (List.mem_append_right _ h)) hown hK hP 19 rfl rfl 2 (by decide) (hts (.fieldLink RX0 18 "FillCells$Field" "net" "[I") (List.mem_of_getElem? (i := 3) rfl)) (fun _ h9 => h9) rfl dX0_part_43 ?_
        rw [← hQ, ← Option.some.inj hE]
        exact ra hx hb hr hlocks hK hP hD hS dX0_part_46
      · have hE := im c_2 hE
        by_cases c_3 : x1 = (3 : Int32)
        · have hE := ip c_3 hE
          refine lv_tableIn (off := 46) (tgt := 47) hx hb dX0_part_1 (by rw [c_3]; decide) (by rw [c_3]; decide) (by rw [c_3]; rfl) (by decide) ?_
          refine lv_aload_n hx hb dX0_part_47 rfl (lv_at hl 0 rfl) ?_
          refine va_get (ci := 0) (v := .ref (aD G 3)) (C := RX0) (T := TX0) (N := 5) hx hb hts (fun _ h => List.mem_cons_of_mem _ (List.mem_append_right _ h)) hown hK hP 19 rfl rfl 3 (by decide) (hts (.fieldLink RX0 21 "FillCells$Field" "twins" "[I") (List.mem_of_getElem? (i := 4) rfl)) (fun _ h9 => h9) rfl dX0_part_48 ?_
          rw [← hQ, ← Option.some.inj hE]
          exact ra hx hb hr hlocks hK hP hD hS dX0_part_51
        · have hE := im c_3 hE
          refine lv_tableOut (tgt := 52) hx hb dX0_part_1 (by have q0 := lv_neT (a := 0) c_0 (by decide); have q1 := lv_neT (a := 1) c_1 (by decide); have q2 := lv_neT (a := 2) c_2 (by decide); have q3 := lv_neT (a := 3) c_3 (by decide); omega) (by decide) ?_
          refine lv_aload_n hx hb dX0_part_52 rfl (lv_at hl 0 rfl) ?_
          refine va_get (ci := 0) (v := .ref (aD G 4)) (C := RX0) (T := TX0) (N := 5) hx hb hts (fun _ h => List.mem_cons_of_mem _ (List.mem_append_right _ h)) hown hK hP 19 rfl rfl 4 (by decide) (hts (.fieldLink RX0 24 "FillCells$Field" "fill" "[I") (List.mem_of_getElem? (i := 5) rfl)) (fun _ h9 => h9) rfl dX0_part_53 ?_
          rw [← hQ, ← Option.some.inj hE]
          exact ra hx hb hr hlocks hK hP hD hS dX0_part_56
abbrev rmX0_sumOf : Room := { frames := 0, cells := 0, slots := 0, locals := 0 }

def f_X0_sumOf (x1 : Int32) (σ : St) : Option Int32 := gd x1 80 (gd x1 80 (some ((rd σ 0 x1) + (rd σ 4 x1))))
set_option maxHeartbeats 4000000 in
set_option maxRecDepth 100000 in
theorem c_X0_sumOf (l : Launch) (G : EV)  (x1 : Int32) (σ : St) (r : Int32) (hE : f_X0_sumOf x1 σ = some r) : MetI l G yX0_sumOf wsX0_sumOf rmX0_sumOf [.ref (aD G 19), .int x1] (wC G σ) r (wC G σ) := by
  refine Met.of0 (Qf := PI G r (wC G σ)) (cc := cX0_sumOf) (maxL := 2) (ret := (some .int)) (by decide) rfl (Nat.le_of_ble_eq_true rfl) ?_
  intro p e s m below meth c args A hx hb hr hts hown hlocks hml hin0 hA hS hP hK hD hX ls hl
  have hl : lv_has ls 2 [(0, .ref (aD G 19)), (1, .int x1)] := hl
  generalize hQ : MQ below (PI G r (wC G σ) A) args s 0 0 A = Q
  unfold f_X0_sumOf at hE
  refine lv_aload_n hx hb dX0_sumOf_0 rfl (lv_at hl 0 rfl) ?_
  refine va_get (ci := 0) (v := .ref (aD G 0)) (C := RX0) (T := TX0) (N := 5) hx hb hts (fun _ h => List.mem_cons_of_mem _ (List.mem_append_right _ h)) hown hK hP 19 rfl rfl 0 (by decide) (hts (.fieldLink RX0 9 "FillCells$Field" "shapes" "[I") (List.mem_of_getElem? (i := 1) rfl)) (fun _ h9 => h9) rfl dX0_sumOf_1 ?_
  refine lv_iload_n hx hb dX0_sumOf_4 rfl (lv_at hl 1 rfl) ?_
  obtain ⟨h_i, hE⟩ := gd_some hE
  refine ldC hx hb hK hP 0 (by decide) h_i dX0_sumOf_5 ?_
  refine lv_aload_n hx hb dX0_sumOf_6 rfl (lv_at hl 0 rfl) ?_
  refine va_get (ci := 0) (v := .ref (aD G 4)) (C := RX0) (T := TX0) (N := 5) hx hb hts (fun _ h => List.mem_cons_of_mem _ (List.mem_append_right _ h)) hown hK hP 19 rfl rfl 4 (by decide) (hts (.fieldLink RX0 24 "FillCells$Field" "fill" "[I") (List.mem_of_getElem? (i := 2) rfl)) (fun _ h9 => h9) rfl dX0_sumOf_7 ?_
  refine lv_iload_n hx hb dX0_sumOf_10 rfl (lv_at hl 1 rfl) ?_
  obtain ⟨h_i, hE⟩ := gd_some hE
  refine ldC hx hb hK hP 4 (by decide) h_i dX0_sumOf_11 ?_
  refine lv_iadd hx hb dX0_sumOf_12 ?_
  rw [← hQ, ← Option.some.inj hE]
  exact ri hx hb hr hlocks hK hP hD hS dX0_sumOf_13
abbrev rmX0_room : Room := { frames := 0, cells := 0, slots := 0, locals := 0 }

def f_X0_room (x1 : Int32) (σ : St) : Option Int32 := gd x1 80 (if (rd σ 1 x1) = 0 then (gd x1 80 (some ((9 : Int32) - (rd σ 0 x1)))) else (some (0 : Int32)))
set_option maxHeartbeats 4000000 in
set_option maxRecDepth 100000 in
theorem c_X0_room (l : Launch) (G : EV)  (x1 : Int32) (σ : St) (r : Int32) (hE : f_X0_room x1 σ = some r) : MetI l G yX0_room wsX0_room rmX0_room [.ref (aD G 19), .int x1] (wC G σ) r (wC G σ) := by
  refine Met.of0 (Qf := PI G r (wC G σ)) (cc := cX0_room) (maxL := 2) (ret := (some .int)) (by decide) rfl (Nat.le_of_ble_eq_true rfl) ?_
  intro p e s m below meth c args A hx hb hr hts hown hlocks hml hin0 hA hS hP hK hD hX ls hl
  have hl : lv_has ls 2 [(0, .ref (aD G 19)), (1, .int x1)] := hl
  generalize hQ : MQ below (PI G r (wC G σ) A) args s 0 0 A = Q
  unfold f_X0_room at hE
  refine lv_aload_n hx hb dX0_room_0 rfl (lv_at hl 0 rfl) ?_
  refine va_get (ci := 0) (v := .ref (aD G 1)) (C := RX0) (T := TX0) (N := 5) hx hb hts (fun _ h => List.mem_cons_of_mem _ (List.mem_append_right _ h)) hown hK hP 19 rfl rfl 1 (by decide) (hts (.fieldLink RX0 15 "FillCells$Field" "shut" "[I") (List.mem_of_getElem? (i := 1) rfl)) (fun _ h9 => h9) rfl dX0_room_1 ?_
  refine lv_iload_n hx hb dX0_room_4 rfl (lv_at hl 1 rfl) ?_
  obtain ⟨h_i, hE⟩ := gd_some hE
  refine ldC hx hb hK hP 1 (by decide) h_i dX0_room_5 ?_
  refine lv_if_eq (tgt := 13) hx hb dX0_room_6 (by decide) (fun c_ => ?_) (fun c_ => ?_)
  · have hE := ip c_ hE
    refine lv_bipush (v := (9 : Int32)) hx hb dX0_room_13 (by decide) ?_
    refine lv_aload_n hx hb dX0_room_15 rfl (lv_at hl 0 rfl) ?_
    refine va_get (ci := 0) (v := .ref (aD G 0)) (C := RX0) (T := TX0) (N := 5) hx hb hts (fun _ h => List.mem_cons_of_mem _ (List.mem_append_right _ h)) hown hK hP 19 rfl rfl 0 (by decide) (hts (.fieldLink RX0 9 "FillCells$Field" "shapes" "[I") (List.mem_of_getElem? (i := 2) rfl)) (fun _ h9 => h9) rfl dX0_room_16 ?_
    refine lv_iload_n hx hb dX0_room_19 rfl (lv_at hl 1 rfl) ?_
    obtain ⟨h_i, hE⟩ := gd_some hE
    refine ldC hx hb hK hP 0 (by decide) h_i dX0_room_20 ?_
    refine lv_isub hx hb dX0_room_21 ?_
    rw [← hQ, ← Option.some.inj hE]
    exact ri hx hb hr hlocks hK hP hD hS dX0_room_22
  · have hE := im c_ hE
    refine lv_iconst (v := (0 : Int32)) hx hb dX0_room_9 (by decide) ?_
    refine lv_goto (tgt := 22) hx hb dX0_room_10 (by decide) ?_
    rw [← hQ, ← Option.some.inj hE]
    exact ri hx hb hr hlocks hK hP hD hS dX0_room_22
abbrev rmX0_countFilled : Room := { frames := 0, cells := 0, slots := 0, locals := 0 }
def f_X0_countFilled_L4 (σ : St) (v4 : Int32 × Int32) : Option (((Int32)) ⊕ (Int32 × Int32)) := if (80 : Int32) ≤ v4.2 then (some (.inl (v4.1))) else (gd v4.2 80 (if (rd σ 4 v4.2) ≤ 0 then (some (.inr (v4.1, (v4.2 + (1 : Int32))))) else (some (.inr ((v4.1 + (1 : Int32)), (v4.2 + (1 : Int32)))))))
def f_X0_countFilled_J4 (x1 : Int32) (x2 : Int32) (σ : St) : Option Int32 := bnd (loopN (f_X0_countFilled_L4 σ) 4096 (x1, x2)) (fun y4 => some y4)
def f_X0_countFilled (σ : St) : Option Int32 := f_X0_countFilled_J4 (0 : Int32) (0 : Int32) σ
set_option maxHeartbeats 4000000 in
set_option maxRecDepth 100000 in
theorem c_X0_countFilled (l : Launch) (G : EV)   (σ : St) (r : Int32) (hE : f_X0_countFilled σ = some r) : MetI l G yX0_countFilled wsX0_countFilled rmX0_countFilled [.ref (aD G 19)] (wC G σ) r (wC G σ) := by
  refine Met.of0 (Qf := PI G r (wC G σ)) (cc := cX0_countFilled) (maxL := 3) (ret := (some .int)) (by decide) rfl (Nat.le_of_ble_eq_true rfl) ?_
  intro p e s m below meth c args A hx hb hr hts hown hlocks hml hin0 hA hS hP hK hD hX ls hl
  have hl : lv_has ls 3 [(0, .ref (aD G 19))] := hl
  generalize hQ : MQ below (PI G r (wC G σ) A) args s 0 0 A = Q
  unfold f_X0_countFilled at hE
  have J_4 : ∀ (x1 : Int32) (x2 : Int32) (H : Heap) (locs : List Loc) (ls : Array Slot), va_P G.1 vwCl (wC G σ) H → va_D A (wC G σ) → va_S A s.heap H locs → lv_has ls 3 [(0, .ref (aD G 19)), (1, .int x1), (2, .int x2)] → f_X0_countFilled_J4 x1 x2 σ = some r → W p l e rmX0_countFilled s m args below meth c H locs 0 0 Q (F0 m 4 ls []) := by
    intro x1 x2 H locs ls hP hD hS hl hE
    unfold f_X0_countFilled_J4 at hE
    obtain ⟨y4, hL, hE4⟩ := bnd_some hE
    refine loop_W (body := f_X0_countFilled_L4 σ) (y := y4) (P := fun v4 => ∀ (H : Heap) (locs : List Loc) (ls : Array Slot), va_P G.1 vwCl (wC G σ) H → va_D A (wC G σ) → va_S A s.heap H locs → lv_has ls 3 [(0, .ref (aD G 19)), (1, .int v4.1), (2, .int v4.2)] → W p l e rmX0_countFilled s m args below meth c H locs 0 0 Q (F0 m 4 ls [])) ?_ _ _ hL H locs ls hP hD hS hl
    clear hP hD hS hl hE hL
    intro v4 t4 hE hN4 hY4
    intro H locs ls hP hD hS hl
    unfold f_X0_countFilled_L4 at hE
    refine lv_iload_n hx hb dX0_countFilled_4 rfl (lv_at hl 2 rfl) ?_
    refine lv_bipush (v := (80 : Int32)) hx hb dX0_countFilled_5 (by decide) ?_
    refine lv_icmp_ge (tgt := 28) hx hb dX0_countFilled_7 (by decide) (fun c_ => ?_) (fun c_ => ?_)
    · have hE := ip c_ hE
      have e9 := hY4 _ (Option.some.inj hE).symm
      have hE := hE4
      rw [← e9] at hE
      refine lv_iload_n hx hb dX0_countFilled_28 rfl (lv_at hl 1 rfl) ?_
      rw [← hQ, ← Option.some.inj hE]
      exact ri hx hb hr hlocks hK hP hD hS dX0_countFilled_29
    · have hE := im c_ hE
      refine lv_aload_n hx hb dX0_countFilled_10 rfl (lv_at hl 0 rfl) ?_
      refine va_get (ci := 0) (v := .ref (aD G 4)) (C := RX0) (T := TX0) (N := 5) hx hb hts (fun _ h => List.mem_cons_of_mem _ (List.mem_append_right _ h)) hown hK hP 19 rfl rfl 4 (by decide) (hts (.fieldLink RX0 24 "FillCells$Field" "fill" "[I") (List.mem_of_getElem? (i := 1) rfl)) (fun _ h9 => h9) rfl dX0_countFilled_11 ?_
      refine lv_iload_n hx hb dX0_countFilled_14 rfl (lv_at hl 2 rfl) ?_
      obtain ⟨h_i, hE⟩ := gd_some hE
      refine ldC hx hb hK hP 4 (by decide) h_i dX0_countFilled_15 ?_
      refine lv_if_le (tgt := 22) hx hb dX0_countFilled_16 (by decide) (fun c_ => ?_) (fun c_ => ?_)
      · have hE := ip c_ hE
        refine lv_iinc (v := (v4.2 + (1 : Int32))) (lv' := [(2, .int (v4.2 + (1 : Int32))), (0, .ref (aD G 19)), (1, .int v4.1)]) hx hb dX0_countFilled_22 hl (k := 2) rfl rfl (by decide) rfl (fun ls hl => ?_)
        refine lv_goto (tgt := 4) hx hb dX0_countFilled_25 (by decide) ?_
        exact hN4 _ (Option.some.inj hE).symm _ _ _ hP hD hS (lv_sub hl [1, 2, 0] rfl)
      · have hE := im c_ hE
        refine lv_iinc (v := (v4.1 + (1 : Int32))) (lv' := [(1, .int (v4.1 + (1 : Int32))), (0, .ref (aD G 19)), (2, .int v4.2)]) hx hb dX0_countFilled_19 hl (k := 1) rfl rfl (by decide) rfl (fun ls hl => ?_)
        refine lv_iinc (v := (v4.2 + (1 : Int32))) (lv' := [(2, .int (v4.2 + (1 : Int32))), (1, .int (v4.1 + (1 : Int32))), (0, .ref (aD G 19))]) hx hb dX0_countFilled_22 hl (k := 2) rfl rfl (by decide) rfl (fun ls hl => ?_)
        refine lv_goto (tgt := 4) hx hb dX0_countFilled_25 (by decide) ?_
        exact hN4 _ (Option.some.inj hE).symm _ _ _ hP hD hS (lv_sub hl [2, 1, 0] rfl)
  refine lv_iconst (v := (0 : Int32)) hx hb dX0_countFilled_0 (by decide) ?_
  refine lv_istore_n (lv' := [(1, .int (0 : Int32)), (0, .ref (aD G 19))]) hx hb dX0_countFilled_1 rfl hl (by decide) rfl (fun ls hl => ?_)
  refine lv_iconst (v := (0 : Int32)) hx hb dX0_countFilled_2 (by decide) ?_
  refine lv_istore_n (lv' := [(2, .int (0 : Int32)), (1, .int (0 : Int32)), (0, .ref (aD G 19))]) hx hb dX0_countFilled_3 rfl hl (by decide) rfl (fun ls hl => ?_)
  exact J_4 (0 : Int32) (0 : Int32) _ _ _ hP hD hS (lv_sub hl [2, 1, 0] rfl) hE
abbrev rmX0_drawShapes : Room := { frames := 1, cells := 0, slots := 0, locals := 21 }
def f_X0_drawShapes_L15 (x3 : Int32) (v15 : Int64 × Int32 × St) : Option (((St)) ⊕ (Int64 × Int32 × St)) := if (80 : Int32) ≤ v15.2.1 then (some (.inl (v15.2.2))) else (dzl ((x3).toInt64) (gd v15.2.1 80 (some (.inr ((jlrem ((v15.1 * (1103515245 : Int64)) + (12345 : Int64)) (2147483648 : Int64)), (v15.2.1 + (1 : Int32)), (sA v15.2.2 0 v15.2.1 ((jlrem ((jlrem ((v15.1 * (1103515245 : Int64)) + (12345 : Int64)) (2147483648 : Int64)) / (65536 : Int64)) ((x3).toInt64)).toInt32)))))))
def f_X0_drawShapes_J15 (x3 : Int32) (x4 : Int64) (x6 : Int32) (σ : St) : Option St := bnd (loopN (f_X0_drawShapes_L15 x3) 4096 (x4, x6, σ)) (fun y15 => some y15)
def f_X0_drawShapes (x1 x2 : Int32) (σ : St) : Option St := f_X0_drawShapes_J15 ((jmax x2 (0 : Int32)) + (1 : Int32)) ((x1).toInt64) (0 : Int32) σ
set_option maxHeartbeats 4000000 in
set_option maxRecDepth 100000 in
theorem c_X0_drawShapes (l : Launch) (G : EV)  (x1 x2 : Int32) (σ : St) (r : St) (hE : f_X0_drawShapes x1 x2 σ = some r) : MetV l G yX0_drawShapes wsX0_drawShapes rmX0_drawShapes [.ref (aD G 19), .int x1, .int x2] (wC G σ) (wC G r) := by
  refine Met.of0 (Qf := PV G (wC G r)) (cc := cX0_drawShapes) (maxL := 7) (ret := none) (by decide) rfl (Nat.le_of_ble_eq_true rfl) ?_
  intro p e s m below meth c args A hx hb hr hts hown hlocks hml hin0 hA hS hP hK hD hX ls hl
  have hl : lv_has ls 7 [(0, .ref (aD G 19)), (1, .int x1), (2, .int x2)] := hl
  generalize hQ : MQ below (PV G (wC G r) A) args s 0 0 A = Q
  unfold f_X0_drawShapes at hE
  have J_15 : ∀ (x3 : Int32) (x4 : Int64) (x6 : Int32) (σ : St) (H : Heap) (locs : List Loc) (ls : Array Slot), va_P G.1 vwCl (wC G σ) H → va_D A (wC G σ) → va_S A s.heap H locs → lv_has ls 7 [(0, .ref (aD G 19)), (3, .int x3), (4, .long x4), (6, .int x6)] → f_X0_drawShapes_J15 x3 x4 x6 σ = some r → W p l e rmX0_drawShapes s m args below meth c H locs 0 0 Q (F0 m 15 ls []) := by
    intro x3 x4 x6 σ H locs ls hP hD hS hl hE
    unfold f_X0_drawShapes_J15 at hE
    obtain ⟨y15, hL, hE15⟩ := bnd_some hE
    refine loop_W (body := f_X0_drawShapes_L15 x3) (y := y15) (P := fun v15 => ∀ (H : Heap) (locs : List Loc) (ls : Array Slot), va_P G.1 vwCl (wC G v15.2.2) H → va_D A (wC G v15.2.2) → va_S A s.heap H locs → lv_has ls 7 [(0, .ref (aD G 19)), (3, .int x3), (4, .long v15.1), (6, .int v15.2.1)] → W p l e rmX0_drawShapes s m args below meth c H locs 0 0 Q (F0 m 15 ls [])) ?_ _ _ hL H locs ls hP hD hS hl
    clear hP hD hS hl hE hL
    intro v15 t15 hE hN15 hY15
    intro H locs ls hP hD hS hl
    unfold f_X0_drawShapes_L15 at hE
    refine lv_iload hx hb dX0_drawShapes_15 (lv_at hl 3 rfl) ?_
    refine lv_bipush (v := (80 : Int32)) hx hb dX0_drawShapes_17 (by decide) ?_
    refine lv_icmp_ge (tgt := 61) hx hb dX0_drawShapes_19 (by decide) (fun c_ => ?_) (fun c_ => ?_)
    · have hE := ip c_ hE
      have e9 := hY15 _ (Option.some.inj hE).symm
      have hE := hE15
      rw [← e9] at hE
      rw [← hQ, ← Option.some.inj hE]
      exact rv hx hb hr hlocks hK hP hD hS dX0_drawShapes_61
    · have hE := im c_ hE
      refine lv_lload hx hb dX0_drawShapes_22 (lv_at hl 2 rfl) ?_
      refine lv_ldc2 (v := (1103515245 : Int64)) hx hb hown (hts (.constantLong RX0 33 (1103515245)) (List.mem_of_getElem? (i := 5) rfl)) dX0_drawShapes_24 ?_
      refine lv_lmul hx hb dX0_drawShapes_27 ?_
      refine lv_ldc2 (v := (12345 : Int64)) hx hb hown (hts (.constantLong RX0 35 (12345)) (List.mem_of_getElem? (i := 6) rfl)) dX0_drawShapes_28 ?_
      refine lv_ladd hx hb dX0_drawShapes_31 ?_
      refine lv_ldc2 (v := (2147483648 : Int64)) hx hb hown (hts (.constantLong RX0 37 (2147483648)) (List.mem_of_getElem? (i := 7) rfl)) dX0_drawShapes_32 ?_
      refine lv_lrem hx hb dX0_drawShapes_35 (by decide) ?_
      refine lv_lstore (lv' := [(4, .long (jlrem ((v15.1 * (1103515245 : Int64)) + (12345 : Int64)) (2147483648 : Int64))), (0, .ref (aD G 19)), (3, .int x3), (6, .int v15.2.1)]) hx hb dX0_drawShapes_36 hl (by decide) rfl (fun ls hl => ?_)
      refine lv_aload_n hx hb dX0_drawShapes_38 rfl (lv_at hl 1 rfl) ?_
      refine va_get (ci := 0) (v := .ref (aD G 0)) (C := RX0) (T := TX0) (N := 5) hx hb hts (fun _ h => List.mem_cons_of_mem _ (List.mem_append_right _ h)) hown hK hP 19 rfl rfl 0 (by decide) (hts (.fieldLink RX0 9 "FillCells$Field" "shapes" "[I") (List.mem_of_getElem? (i := 8) rfl)) (fun _ h9 => h9) rfl dX0_drawShapes_39 ?_
      refine lv_iload hx hb dX0_drawShapes_42 (lv_at hl 3 rfl) ?_
      refine lv_lload hx hb dX0_drawShapes_44 (lv_at hl 0 rfl) ?_
      refine lv_ldc2 (v := (65536 : Int64)) hx hb hown (hts (.constantLong RX0 39 (65536)) (List.mem_of_getElem? (i := 9) rfl)) dX0_drawShapes_46 ?_
      refine lv_ldiv hx hb dX0_drawShapes_49 (by decide) ?_
      refine lv_iload_n hx hb dX0_drawShapes_50 rfl (lv_at hl 2 rfl) ?_
      refine lv_i2l hx hb dX0_drawShapes_51 rfl ?_
      obtain ⟨h_z, hE⟩ := dzl_some hE
      refine lv_lrem hx hb dX0_drawShapes_52 h_z ?_
      refine lv_l2i hx hb dX0_drawShapes_53 rfl ?_
      obtain ⟨h_i, hE⟩ := gd_some hE
      refine stC hx hb hK hP hD hS 0 (by decide) h_i dX0_drawShapes_54 (fun H locs hP hD hS => ?_)
      refine lv_iinc (v := (v15.2.1 + (1 : Int32))) (lv' := [(6, .int (v15.2.1 + (1 : Int32))), (4, .long (jlrem ((v15.1 * (1103515245 : Int64)) + (12345 : Int64)) (2147483648 : Int64))), (0, .ref (aD G 19)), (3, .int x3)]) hx hb dX0_drawShapes_55 hl (k := 3) rfl rfl (by decide) rfl (fun ls hl => ?_)
      refine lv_goto (tgt := 15) hx hb dX0_drawShapes_58 (by decide) ?_
      exact hN15 _ (Option.some.inj hE).symm _ _ _ hP hD hS (lv_sub hl [2, 3, 1, 0] rfl)
  refine lv_iload_n hx hb dX0_drawShapes_0 rfl (lv_at hl 2 rfl) ?_
  refine lv_iconst (v := (0 : Int32)) hx hb dX0_drawShapes_1 (by decide) ?_
  refine va_mmax hx hb (hml.trans hl.1.symm) hown (hts (.methodLink RX0 27 Lib.Math.max.name) (List.mem_of_getElem? (i := 1) rfl)) (hts (.static Lib.Math.max.name) (List.mem_of_getElem? (i := 2) rfl)) (hts (.initialized "java/lang/Math") (List.mem_of_getElem? (i := 3) rfl)) (hts (.code Lib.Math.max.name Lib.Math.max.code 2 (some .int)) (List.mem_of_getElem? (i := 4) rfl)) (Nat.le_of_ble_eq_true rfl) (Nat.le_of_ble_eq_true rfl) (Nat.le_of_ble_eq_true rfl) (Nat.le_of_ble_eq_true rfl) dX0_drawShapes_2 ?_
  refine lv_iconst (v := (1 : Int32)) hx hb dX0_drawShapes_5 (by decide) ?_
  refine lv_iadd hx hb dX0_drawShapes_6 ?_
  refine lv_istore_n (lv' := [(3, .int ((jmax x2 (0 : Int32)) + (1 : Int32))), (0, .ref (aD G 19)), (1, .int x1), (2, .int x2)]) hx hb dX0_drawShapes_7 rfl hl (by decide) rfl (fun ls hl => ?_)
  refine lv_iload_n hx hb dX0_drawShapes_8 rfl (lv_at hl 2 rfl) ?_
  refine lv_i2l hx hb dX0_drawShapes_9 rfl ?_
  refine lv_lstore (lv' := [(4, .long ((x1).toInt64)), (3, .int ((jmax x2 (0 : Int32)) + (1 : Int32))), (0, .ref (aD G 19)), (1, .int x1), (2, .int x2)]) hx hb dX0_drawShapes_10 hl (by decide) rfl (fun ls hl => ?_)
  refine lv_iconst (v := (0 : Int32)) hx hb dX0_drawShapes_12 (by decide) ?_
  refine lv_istore (lv' := [(6, .int (0 : Int32)), (4, .long ((x1).toInt64)), (3, .int ((jmax x2 (0 : Int32)) + (1 : Int32))), (0, .ref (aD G 19)), (1, .int x1), (2, .int x2)]) hx hb dX0_drawShapes_13 hl (by decide) rfl (fun ls hl => ?_)
  exact J_15 ((jmax x2 (0 : Int32)) + (1 : Int32)) ((x1).toInt64) (0 : Int32) σ _ _ _ hP hD hS (lv_sub hl [3, 2, 1, 0] rfl) hE
abbrev rmX0_makeAlike : Room := { frames := 1, cells := 0, slots := 0, locals := 21 }
def f_X0_makeAlike_L40 (x1 : Int32) (x2 : Int32) (v40 : Int32 × St) : Option (((St)) ⊕ (Int32 × St)) := if (80 : Int32) ≤ v40.1 then (some (.inl (v40.2))) else (gd v40.1 80 (if ¬ (rd v40.2 3 v40.1) = x1 then (some (.inr ((v40.1 + (1 : Int32)), v40.2))) else (gd v40.1 80 (some (.inr ((v40.1 + (1 : Int32)), (sA v40.2 4 v40.1 x2)))))))
def f_X0_makeAlike_J40 (x1 : Int32) (x2 : Int32) (x3 : Int32) (σ : St) : Option St := bnd (loopN (f_X0_makeAlike_L40 x1 x2) 4096 (x3, σ)) (fun y40 => some y40)
def f_X0_makeAlike_J38 (x1 : Int32) (x2 : Int32) (σ : St) : Option St := f_X0_makeAlike_J40 x1 x2 (0 : Int32) σ
def f_X0_makeAlike_L5 (x1 : Int32) (σ : St) (v5 : Int32 × Int32) : Option (((Int32)) ⊕ (Int32 × Int32)) := if (80 : Int32) ≤ v5.2 then (some (.inl (v5.1))) else (gd v5.2 80 (if ¬ (rd σ 3 v5.2) = x1 then (some (.inr (v5.1, (v5.2 + (1 : Int32))))) else (gd v5.2 80 (some (.inr ((jmin v5.1 (rd σ 4 v5.2)), (v5.2 + (1 : Int32))))))))
def f_X0_makeAlike_J5 (x1 : Int32) (x2 : Int32) (x3 : Int32) (σ : St) : Option St := bnd (loopN (f_X0_makeAlike_L5 x1 σ) 4096 (x2, x3)) (fun y5 => f_X0_makeAlike_J38 x1 y5 σ)
def f_X0_makeAlike (x1 : Int32) (σ : St) : Option St := f_X0_makeAlike_J5 x1 (9 : Int32) (0 : Int32) σ
set_option maxHeartbeats 4000000 in
set_option maxRecDepth 100000 in
theorem c_X0_makeAlike (l : Launch) (G : EV)  (x1 : Int32) (σ : St) (r : St) (hE : f_X0_makeAlike x1 σ = some r) : MetV l G yX0_makeAlike wsX0_makeAlike rmX0_makeAlike [.ref (aD G 19), .int x1] (wC G σ) (wC G r) := by
  refine Met.of0 (Qf := PV G (wC G r)) (cc := cX0_makeAlike) (maxL := 4) (ret := none) (by decide) rfl (Nat.le_of_ble_eq_true rfl) ?_
  intro p e s m below meth c args A hx hb hr hts hown hlocks hml hin0 hA hS hP hK hD hX ls hl
  have hl : lv_has ls 4 [(0, .ref (aD G 19)), (1, .int x1)] := hl
  generalize hQ : MQ below (PV G (wC G r) A) args s 0 0 A = Q
  unfold f_X0_makeAlike at hE
  have J_40 : ∀ (x1 : Int32) (x2 : Int32) (x3 : Int32) (σ : St) (H : Heap) (locs : List Loc) (ls : Array Slot), va_P G.1 vwCl (wC G σ) H → va_D A (wC G σ) → va_S A s.heap H locs → lv_has ls 4 [(0, .ref (aD G 19)), (1, .int x1), (2, .int x2), (3, .int x3)] → f_X0_makeAlike_J40 x1 x2 x3 σ = some r → W p l e rmX0_makeAlike s m args below meth c H locs 0 0 Q (F0 m 40 ls []) := by
    intro x1 x2 x3 σ H locs ls hP hD hS hl hE
    unfold f_X0_makeAlike_J40 at hE
    obtain ⟨y40, hL, hE40⟩ := bnd_some hE
    refine loop_W (body := f_X0_makeAlike_L40 x1 x2) (y := y40) (P := fun v40 => ∀ (H : Heap) (locs : List Loc) (ls : Array Slot), va_P G.1 vwCl (wC G v40.2) H → va_D A (wC G v40.2) → va_S A s.heap H locs → lv_has ls 4 [(0, .ref (aD G 19)), (1, .int x1), (2, .int x2), (3, .int v40.1)] → W p l e rmX0_makeAlike s m args below meth c H locs 0 0 Q (F0 m 40 ls [])) ?_ _ _ hL H locs ls hP hD hS hl
    clear hP hD hS hl hE hL
    intro v40 t40 hE hN40 hY40
    intro H locs ls hP hD hS hl
    unfold f_X0_makeAlike_L40 at hE
    refine lv_iload_n hx hb dX0_makeAlike_40 rfl (lv_at hl 3 rfl) ?_
    refine lv_bipush (v := (80 : Int32)) hx hb dX0_makeAlike_41 (by decide) ?_
    refine lv_icmp_ge (tgt := 69) hx hb dX0_makeAlike_43 (by decide) (fun c_ => ?_) (fun c_ => ?_)
    · have hE := ip c_ hE
      have e9 := hY40 _ (Option.some.inj hE).symm
      have hE := hE40
      rw [← e9] at hE
      rw [← hQ, ← Option.some.inj hE]
      exact rv hx hb hr hlocks hK hP hD hS dX0_makeAlike_69
    · have hE := im c_ hE
      refine lv_aload_n hx hb dX0_makeAlike_46 rfl (lv_at hl 0 rfl) ?_
      refine va_get (ci := 0) (v := .ref (aD G 3)) (C := RX0) (T := TX0) (N := 5) hx hb hts (fun _ h => List.mem_cons_of_mem _ (List.mem_append_right _ h)) hown hK hP 19 rfl rfl 3 (by decide) (hts (.fieldLink RX0 21 "FillCells$Field" "twins" "[I") (List.mem_of_getElem? (i := 1) rfl)) (fun _ h9 => h9) rfl dX0_makeAlike_47 ?_
      refine lv_iload_n hx hb dX0_makeAlike_50 rfl (lv_at hl 3 rfl) ?_
      obtain ⟨h_i, hE⟩ := gd_some hE
      refine ldC hx hb hK hP 3 (by decide) h_i dX0_makeAlike_51 ?_
      refine lv_iload_n hx hb dX0_makeAlike_52 rfl (lv_at hl 1 rfl) ?_
      refine lv_icmp_ne (tgt := 63) hx hb dX0_makeAlike_53 (by decide) (fun c_ => ?_) (fun c_ => ?_)
      · have hE := ip c_ hE
        refine lv_iinc (v := (v40.1 + (1 : Int32))) (lv' := [(3, .int (v40.1 + (1 : Int32))), (0, .ref (aD G 19)), (1, .int x1), (2, .int x2)]) hx hb dX0_makeAlike_63 hl (k := 3) rfl rfl (by decide) rfl (fun ls hl => ?_)
        refine lv_goto (tgt := 40) hx hb dX0_makeAlike_66 (by decide) ?_
        exact hN40 _ (Option.some.inj hE).symm _ _ _ hP hD hS (lv_sub hl [1, 2, 3, 0] rfl)
      · have hE := im c_ hE
        refine lv_aload_n hx hb dX0_makeAlike_56 rfl (lv_at hl 0 rfl) ?_
        refine va_get (ci := 0) (v := .ref (aD G 4)) (C := RX0) (T := TX0) (N := 5) hx hb hts (fun _ h => List.mem_cons_of_mem _ (List.mem_append_right _ h)) hown hK hP 19 rfl rfl 4 (by decide) (hts (.fieldLink RX0 24 "FillCells$Field" "fill" "[I") (List.mem_of_getElem? (i := 2) rfl)) (fun _ h9 => h9) rfl dX0_makeAlike_57 ?_
        refine lv_iload_n hx hb dX0_makeAlike_60 rfl (lv_at hl 3 rfl) ?_
        refine lv_iload_n hx hb dX0_makeAlike_61 rfl (lv_at hl 2 rfl) ?_
        obtain ⟨h_i, hE⟩ := gd_some hE
        refine stC hx hb hK hP hD hS 4 (by decide) h_i dX0_makeAlike_62 (fun H locs hP hD hS => ?_)
        refine lv_iinc (v := (v40.1 + (1 : Int32))) (lv' := [(3, .int (v40.1 + (1 : Int32))), (0, .ref (aD G 19)), (1, .int x1), (2, .int x2)]) hx hb dX0_makeAlike_63 hl (k := 3) rfl rfl (by decide) rfl (fun ls hl => ?_)
        refine lv_goto (tgt := 40) hx hb dX0_makeAlike_66 (by decide) ?_
        exact hN40 _ (Option.some.inj hE).symm _ _ _ hP hD hS (lv_sub hl [1, 2, 3, 0] rfl)
  have J_38 : ∀ (x1 : Int32) (x2 : Int32) (σ : St) (H : Heap) (locs : List Loc) (ls : Array Slot), va_P G.1 vwCl (wC G σ) H → va_D A (wC G σ) → va_S A s.heap H locs → lv_has ls 4 [(0, .ref (aD G 19)), (1, .int x1), (2, .int x2)] → f_X0_makeAlike_J38 x1 x2 σ = some r → W p l e rmX0_makeAlike s m args below meth c H locs 0 0 Q (F0 m 38 ls []) := by
    intro x1 x2 σ H locs ls hP hD hS hl hE
    unfold f_X0_makeAlike_J38 at hE
    refine lv_iconst (v := (0 : Int32)) hx hb dX0_makeAlike_38 (by decide) ?_
    refine lv_istore_n (lv' := [(3, .int (0 : Int32)), (0, .ref (aD G 19)), (1, .int x1), (2, .int x2)]) hx hb dX0_makeAlike_39 rfl hl (by decide) rfl (fun ls hl => ?_)
    exact J_40 x1 x2 (0 : Int32) σ _ _ _ hP hD hS (lv_sub hl [1, 2, 3, 0] rfl) hE
  have J_5 : ∀ (x1 : Int32) (x2 : Int32) (x3 : Int32) (σ : St) (H : Heap) (locs : List Loc) (ls : Array Slot), va_P G.1 vwCl (wC G σ) H → va_D A (wC G σ) → va_S A s.heap H locs → lv_has ls 4 [(0, .ref (aD G 19)), (1, .int x1), (2, .int x2), (3, .int x3)] → f_X0_makeAlike_J5 x1 x2 x3 σ = some r → W p l e rmX0_makeAlike s m args below meth c H locs 0 0 Q (F0 m 5 ls []) := by
    intro x1 x2 x3 σ H locs ls hP hD hS hl hE
    unfold f_X0_makeAlike_J5 at hE
    obtain ⟨y5, hL, hE5⟩ := bnd_some hE
    refine loop_W (body := f_X0_makeAlike_L5 x1 σ) (y := y5) (P := fun v5 => ∀ (H : Heap) (locs : List Loc) (ls : Array Slot), va_P G.1 vwCl (wC G σ) H → va_D A (wC G σ) → va_S A s.heap H locs → lv_has ls 4 [(0, .ref (aD G 19)), (1, .int x1), (2, .int v5.1), (3, .int v5.2)] → W p l e rmX0_makeAlike s m args below meth c H locs 0 0 Q (F0 m 5 ls [])) ?_ _ _ hL H locs ls hP hD hS hl
    clear hP hD hS hl hE hL
    intro v5 t5 hE hN5 hY5
    intro H locs ls hP hD hS hl
    unfold f_X0_makeAlike_L5 at hE
    refine lv_iload_n hx hb dX0_makeAlike_5 rfl (lv_at hl 3 rfl) ?_
    refine lv_bipush (v := (80 : Int32)) hx hb dX0_makeAlike_6 (by decide) ?_
    refine lv_icmp_ge (tgt := 38) hx hb dX0_makeAlike_8 (by decide) (fun c_ => ?_) (fun c_ => ?_)
    · have hE := ip c_ hE
      have e9 := hY5 _ (Option.some.inj hE).symm
      have hE := hE5
      rw [← e9] at hE
      exact J_38 x1 v5.1 σ _ _ _ hP hD hS (lv_sub hl [0, 1, 2] rfl) hE
    · have hE := im c_ hE
      refine lv_aload_n hx hb dX0_makeAlike_11 rfl (lv_at hl 0 rfl) ?_
      refine va_get (ci := 0) (v := .ref (aD G 3)) (C := RX0) (T := TX0) (N := 5) hx hb hts (fun _ h => List.mem_cons_of_mem _ (List.mem_append_right _ h)) hown hK hP 19 rfl rfl 3 (by decide) (hts (.fieldLink RX0 21 "FillCells$Field" "twins" "[I") (List.mem_of_getElem? (i := 1) rfl)) (fun _ h9 => h9) rfl dX0_makeAlike_12 ?_
      refine lv_iload_n hx hb dX0_makeAlike_15 rfl (lv_at hl 3 rfl) ?_
      obtain ⟨h_i, hE⟩ := gd_some hE
      refine ldC hx hb hK hP 3 (by decide) h_i dX0_makeAlike_16 ?_
      refine lv_iload_n hx hb dX0_makeAlike_17 rfl (lv_at hl 1 rfl) ?_
      refine lv_icmp_ne (tgt := 32) hx hb dX0_makeAlike_18 (by decide) (fun c_ => ?_) (fun c_ => ?_)
      · have hE := ip c_ hE
        refine lv_iinc (v := (v5.2 + (1 : Int32))) (lv' := [(3, .int (v5.2 + (1 : Int32))), (0, .ref (aD G 19)), (1, .int x1), (2, .int v5.1)]) hx hb dX0_makeAlike_32 hl (k := 3) rfl rfl (by decide) rfl (fun ls hl => ?_)
        refine lv_goto (tgt := 5) hx hb dX0_makeAlike_35 (by decide) ?_
        exact hN5 _ (Option.some.inj hE).symm _ _ _ hP hD hS (lv_sub hl [1, 2, 3, 0] rfl)
      · have hE := im c_ hE
        refine lv_iload_n hx hb dX0_makeAlike_21 rfl (lv_at hl 2 rfl) ?_
        refine lv_aload_n hx hb dX0_makeAlike_22 rfl (lv_at hl 0 rfl) ?_
        refine va_get (ci := 0) (v := .ref (aD G 4)) (C := RX0) (T := TX0) (N := 5) hx hb hts (fun _ h => List.mem_cons_of_mem _ (List.mem_append_right _ h)) hown hK hP 19 rfl rfl 4 (by decide) (hts (.fieldLink RX0 24 "FillCells$Field" "fill" "[I") (List.mem_of_getElem? (i := 2) rfl)) (fun _ h9 => h9) rfl dX0_makeAlike_23 ?_
        refine lv_iload_n hx hb dX0_makeAlike_26 rfl (lv_at hl 3 rfl) ?_
        obtain ⟨h_i, hE⟩ := gd_some hE
        refine ldC hx hb hK hP 4 (by decide) h_i dX0_makeAlike_27 ?_
        refine va_mmin hx hb (hml.trans hl.1.symm) hown (hts (.methodLink RX0 45 Lib.Math.min.name) (List.mem_of_getElem? (i := 3) rfl)) (hts (.static Lib.Math.min.name) (List.mem_of_getElem? (i := 4) rfl)) (hts (.initialized "java/lang/Math") (List.mem_of_getElem? (i := 5) rfl)) (hts (.code Lib.Math.min.name Lib.Math.min.code 2 (some .int)) (List.mem_of_getElem? (i := 6) rfl)) (Nat.le_of_ble_eq_true rfl) (Nat.le_of_ble_eq_true rfl) (Nat.le_of_ble_eq_true rfl) (Nat.le_of_ble_eq_true rfl) dX0_makeAlike_28 ?_
        refine lv_istore_n (lv' := [(2, .int (jmin v5.1 (rd σ 4 v5.2))), (0, .ref (aD G 19)), (1, .int x1), (3, .int v5.2)]) hx hb dX0_makeAlike_31 rfl hl (by decide) rfl (fun ls hl => ?_)
        refine lv_iinc (v := (v5.2 + (1 : Int32))) (lv' := [(3, .int (v5.2 + (1 : Int32))), (2, .int (jmin v5.1 (rd σ 4 v5.2))), (0, .ref (aD G 19)), (1, .int x1)]) hx hb dX0_makeAlike_32 hl (k := 3) rfl rfl (by decide) rfl (fun ls hl => ?_)
        refine lv_goto (tgt := 5) hx hb dX0_makeAlike_35 (by decide) ?_
        exact hN5 _ (Option.some.inj hE).symm _ _ _ hP hD hS (lv_sub hl [2, 3, 1, 0] rfl)
  refine lv_bipush (v := (9 : Int32)) hx hb dX0_makeAlike_0 (by decide) ?_
  refine lv_istore_n (lv' := [(2, .int (9 : Int32)), (0, .ref (aD G 19)), (1, .int x1)]) hx hb dX0_makeAlike_2 rfl hl (by decide) rfl (fun ls hl => ?_)
  refine lv_iconst (v := (0 : Int32)) hx hb dX0_makeAlike_3 (by decide) ?_
  refine lv_istore_n (lv' := [(3, .int (0 : Int32)), (2, .int (9 : Int32)), (0, .ref (aD G 19)), (1, .int x1)]) hx hb dX0_makeAlike_4 rfl hl (by decide) rfl (fun ls hl => ?_)
  exact J_5 x1 (9 : Int32) (0 : Int32) σ _ _ _ hP hD hS (lv_sub hl [2, 3, 1, 0] rfl) hE
abbrev rmX0_settle : Room := { frames := 2, cells := 0, slots := 0, locals := 44 }
def f_X0_settle_L36  (v36 : Int32 × St) : Option (((St)) ⊕ (Int32 × St)) := if (4 : Int32) ≤ v36.1 then (some (.inl (v36.2))) else (bnd (f_X0_makeAlike v36.1 v36.2) (fun r1 => some (.inr ((v36.1 + (1 : Int32)), r1))))
def f_X0_settle_J36 (x1 : Int32) (σ : St) : Option St := bnd (loopN (f_X0_settle_L36 ) 4096 (x1, σ)) (fun y36 => some y36)
def f_X0_settle_J34 (σ : St) : Option St := f_X0_settle_J36 (1 : Int32) σ
def f_X0_settle_L2  (v2 : Int32 × St) : Option (((St)) ⊕ (Int32 × St)) := if (80 : Int32) ≤ v2.1 then (some (.inl (v2.2))) else (gd v2.1 80 (bnd (f_X0_room v2.1 v2.2) (fun r2 => gd v2.1 80 (some (.inr ((v2.1 + (1 : Int32)), (sA v2.2 4 v2.1 (jmin (rd v2.2 4 v2.1) r2))))))))
def f_X0_settle_J2 (x1 : Int32) (σ : St) : Option St := bnd (loopN (f_X0_settle_L2 ) 4096 (x1, σ)) (fun y2 => f_X0_settle_J34 y2)
def f_X0_settle (σ : St) : Option St := f_X0_settle_J2 (0 : Int32) σ
set_option maxHeartbeats 4000000 in
set_option maxRecDepth 100000 in
theorem c_X0_settle (l : Launch) (G : EV)   (σ : St) (r : St) (hE : f_X0_settle σ = some r) : MetV l G yX0_settle wsX0_settle rmX0_settle [.ref (aD G 19)] (wC G σ) (wC G r) := by
  refine Met.of0 (Qf := PV G (wC G r)) (cc := cX0_settle) (maxL := 2) (ret := none) (by decide) rfl (Nat.le_of_ble_eq_true rfl) ?_
  intro p e s m below meth c args A hx hb hr hts hown hlocks hml hin0 hA hS hP hK hD hX ls hl
  have hl : lv_has ls 2 [(0, .ref (aD G 19))] := hl
  generalize hQ : MQ below (PV G (wC G r) A) args s 0 0 A = Q
  unfold f_X0_settle at hE
  have J_36 : ∀ (x1 : Int32) (σ : St) (H : Heap) (locs : List Loc) (ls : Array Slot), va_P G.1 vwCl (wC G σ) H → va_D A (wC G σ) → va_S A s.heap H locs → lv_has ls 2 [(0, .ref (aD G 19)), (1, .int x1)] → f_X0_settle_J36 x1 σ = some r → W p l e rmX0_settle s m args below meth c H locs 0 0 Q (F0 m 36 ls []) := by
    intro x1 σ H locs ls hP hD hS hl hE
    unfold f_X0_settle_J36 at hE
    obtain ⟨y36, hL, hE36⟩ := bnd_some hE
    refine loop_W (body := f_X0_settle_L36 ) (y := y36) (P := fun v36 => ∀ (H : Heap) (locs : List Loc) (ls : Array Slot), va_P G.1 vwCl (wC G v36.2) H → va_D A (wC G v36.2) → va_S A s.heap H locs → lv_has ls 2 [(0, .ref (aD G 19)), (1, .int v36.1)] → W p l e rmX0_settle s m args below meth c H locs 0 0 Q (F0 m 36 ls [])) ?_ _ _ hL H locs ls hP hD hS hl
    clear hP hD hS hl hE hL
    intro v36 t36 hE hN36 hY36
    intro H locs ls hP hD hS hl
    unfold f_X0_settle_L36 at hE
    refine lv_iload_n hx hb dX0_settle_36 rfl (lv_at hl 1 rfl) ?_
    refine lv_iconst (v := (4 : Int32)) hx hb dX0_settle_37 (by decide) ?_
    refine lv_icmp_ge (tgt := 52) hx hb dX0_settle_38 (by decide) (fun c_ => ?_) (fun c_ => ?_)
    · have hE := ip c_ hE
      have e9 := hY36 _ (Option.some.inj hE).symm
      have hE := hE36
      rw [← e9] at hE
      rw [← hQ, ← Option.some.inj hE]
      exact rv hx hb hr hlocks hK hP hD hS dX0_settle_52
    · have hE := im c_ hE
      refine lv_aload_n hx hb dX0_settle_41 rfl (lv_at hl 0 rfl) ?_
      refine lv_iload_n hx hb dX0_settle_42 rfl (lv_at hl 1 rfl) ?_
      obtain ⟨r1, hC, hE⟩ := bnd_some hE
      refine cv (va_runV (As := [.int v36.1]) (rest := []) ⟨hx, hb, hml, hown, hts⟩ (c_X0_makeAlike l G v36.1 v36.2 r1 hC _) (cwV 1 hts gX0_settle_X0_makeAlike rfl rfl rfl (by decide +kernel) ⟨Nat.le_of_ble_eq_true rfl, Nat.le_of_ble_eq_true rfl⟩) (preV hK hP hD hS hA hX (va_recv hK hP (ci := 0) (q0 := 19) rfl rfl)) rfl rfl hl.1 rfl (lv_room (Nat.le_of_ble_eq_true rfl)) dX0_settle_43 ⟨Nat.le_of_ble_eq_true rfl, Nat.le_of_ble_eq_true rfl⟩) hD hS hA (fun H locs hP hD hS => ?_)
      refine lv_iinc (v := (v36.1 + (1 : Int32))) (lv' := [(1, .int (v36.1 + (1 : Int32))), (0, .ref (aD G 19))]) hx hb dX0_settle_46 hl (k := 1) rfl rfl (by decide) rfl (fun ls hl => ?_)
      refine lv_goto (tgt := 36) hx hb dX0_settle_49 (by decide) ?_
      exact hN36 _ (Option.some.inj hE).symm _ _ _ hP hD hS (lv_sub hl [1, 0] rfl)
  have J_34 : ∀ (σ : St) (H : Heap) (locs : List Loc) (ls : Array Slot), va_P G.1 vwCl (wC G σ) H → va_D A (wC G σ) → va_S A s.heap H locs → lv_has ls 2 [(0, .ref (aD G 19))] → f_X0_settle_J34 σ = some r → W p l e rmX0_settle s m args below meth c H locs 0 0 Q (F0 m 34 ls []) := by
    intro σ H locs ls hP hD hS hl hE
    unfold f_X0_settle_J34 at hE
    refine lv_iconst (v := (1 : Int32)) hx hb dX0_settle_34 (by decide) ?_
    refine lv_istore_n (lv' := [(1, .int (1 : Int32)), (0, .ref (aD G 19))]) hx hb dX0_settle_35 rfl hl (by decide) rfl (fun ls hl => ?_)
    exact J_36 (1 : Int32) σ _ _ _ hP hD hS (lv_sub hl [1, 0] rfl) hE
  have J_2 : ∀ (x1 : Int32) (σ : St) (H : Heap) (locs : List Loc) (ls : Array Slot), va_P G.1 vwCl (wC G σ) H → va_D A (wC G σ) → va_S A s.heap H locs → lv_has ls 2 [(0, .ref (aD G 19)), (1, .int x1)] → f_X0_settle_J2 x1 σ = some r → W p l e rmX0_settle s m args below meth c H locs 0 0 Q (F0 m 2 ls []) := by
    intro x1 σ H locs ls hP hD hS hl hE
    unfold f_X0_settle_J2 at hE
    obtain ⟨y2, hL, hE2⟩ := bnd_some hE
    refine loop_W (body := f_X0_settle_L2 ) (y := y2) (P := fun v2 => ∀ (H : Heap) (locs : List Loc) (ls : Array Slot), va_P G.1 vwCl (wC G v2.2) H → va_D A (wC G v2.2) → va_S A s.heap H locs → lv_has ls 2 [(0, .ref (aD G 19)), (1, .int v2.1)] → W p l e rmX0_settle s m args below meth c H locs 0 0 Q (F0 m 2 ls [])) ?_ _ _ hL H locs ls hP hD hS hl
    clear hP hD hS hl hE hL
    intro v2 t2 hE hN2 hY2
    intro H locs ls hP hD hS hl
    unfold f_X0_settle_L2 at hE
    refine lv_iload_n hx hb dX0_settle_2 rfl (lv_at hl 1 rfl) ?_
    refine lv_bipush (v := (80 : Int32)) hx hb dX0_settle_3 (by decide) ?_
    refine lv_icmp_ge (tgt := 34) hx hb dX0_settle_5 (by decide) (fun c_ => ?_) (fun c_ => ?_)
    · have hE := ip c_ hE
      have e9 := hY2 _ (Option.some.inj hE).symm
      have hE := hE2
      rw [← e9] at hE
      exact J_34 v2.2 _ _ _ hP hD hS (lv_sub hl [0] rfl) hE
    · have hE := im c_ hE
      refine lv_aload_n hx hb dX0_settle_8 rfl (lv_at hl 0 rfl) ?_
      refine va_get (ci := 0) (v := .ref (aD G 4)) (C := RX0) (T := TX0) (N := 5) hx hb hts (fun _ h => List.mem_cons_of_mem _ (List.mem_append_right _ h)) hown hK hP 19 rfl rfl 4 (by decide) (hts (.fieldLink RX0 24 "FillCells$Field" "fill" "[I") (List.mem_of_getElem? (i := 1) rfl)) (fun _ h9 => h9) rfl dX0_settle_9 ?_
      refine lv_iload_n hx hb dX0_settle_12 rfl (lv_at hl 1 rfl) ?_
      refine lv_aload_n hx hb dX0_settle_13 rfl (lv_at hl 0 rfl) ?_
      refine va_get (ci := 0) (v := .ref (aD G 4)) (C := RX0) (T := TX0) (N := 5) hx hb hts (fun _ h => List.mem_cons_of_mem _ (List.mem_append_right _ h)) hown hK hP 19 rfl rfl 4 (by decide) (hts (.fieldLink RX0 24 "FillCells$Field" "fill" "[I") (List.mem_of_getElem? (i := 1) rfl)) (fun _ h9 => h9) rfl dX0_settle_14 ?_
      refine lv_iload_n hx hb dX0_settle_17 rfl (lv_at hl 1 rfl) ?_
      obtain ⟨h_i, hE⟩ := gd_some hE
      refine ldC hx hb hK hP 4 (by decide) h_i dX0_settle_18 ?_
      refine lv_aload_n hx hb dX0_settle_19 rfl (lv_at hl 0 rfl) ?_
      refine lv_iload_n hx hb dX0_settle_20 rfl (lv_at hl 1 rfl) ?_
      obtain ⟨r2, hC, hE⟩ := bnd_some hE
      refine ci (va_runV (As := [.int v2.1]) (rest := [.int (rd v2.2 4 v2.1), .int v2.1, .ref (aD G 4)]) ⟨hx, hb, hml, hown, hts⟩ (c_X0_room l G v2.1 v2.2 r2 hC _) (cwV 1 hts gX0_settle_X0_room rfl rfl rfl (by decide +kernel) ⟨Nat.le_of_ble_eq_true rfl, Nat.le_of_ble_eq_true rfl⟩) (preV hK hP hD hS hA hX (va_recv hK hP (ci := 0) (q0 := 19) rfl rfl)) rfl rfl hl.1 rfl (lv_room (Nat.le_of_ble_eq_true rfl)) dX0_settle_21 ⟨Nat.le_of_ble_eq_true rfl, Nat.le_of_ble_eq_true rfl⟩) hD hS hA (fun H locs hP hD hS => ?_)
      refine va_mmin hx hb (hml.trans hl.1.symm) hown (hts (.methodLink RX0 45 Lib.Math.min.name) (List.mem_of_getElem? (i := 2) rfl)) (hts (.static Lib.Math.min.name) (List.mem_of_getElem? (i := 3) rfl)) (hts (.initialized "java/lang/Math") (List.mem_of_getElem? (i := 4) rfl)) (hts (.code Lib.Math.min.name Lib.Math.min.code 2 (some .int)) (List.mem_of_getElem? (i := 5) rfl)) (Nat.le_of_ble_eq_true rfl) (Nat.le_of_ble_eq_true rfl) (Nat.le_of_ble_eq_true rfl) (Nat.le_of_ble_eq_true rfl) dX0_settle_24 ?_
      obtain ⟨h_i, hE⟩ := gd_some hE
      refine stC hx hb hK hP hD hS 4 (by decide) h_i dX0_settle_27 (fun H locs hP hD hS => ?_)
      refine lv_iinc (v := (v2.1 + (1 : Int32))) (lv' := [(1, .int (v2.1 + (1 : Int32))), (0, .ref (aD G 19))]) hx hb dX0_settle_28 hl (k := 1) rfl rfl (by decide) rfl (fun ls hl => ?_)
      refine lv_goto (tgt := 2) hx hb dX0_settle_31 (by decide) ?_
      exact hN2 _ (Option.some.inj hE).symm _ _ _ hP hD hS (lv_sub hl [1, 0] rfl)
  refine lv_iconst (v := (0 : Int32)) hx hb dX0_settle_0 (by decide) ?_
  refine lv_istore_n (lv' := [(1, .int (0 : Int32)), (0, .ref (aD G 19))]) hx hb dX0_settle_1 rfl hl (by decide) rfl (fun ls hl => ?_)
  exact J_2 (0 : Int32) σ _ _ _ hP hD hS (lv_sub hl [1, 0] rfl) hE
abbrev rmX0_packed : Room := { frames := 0, cells := 0, slots := 0, locals := 0 }

def f_X0_packed (x1 : Int32) (σ : St) : Option Int32 := gd x1 80 (gd x1 80 (gd x1 80 (gd x1 80 (gd x1 80 (some (((((rd σ 0 x1) ||| ((rd σ 4 x1) <<< ((4 : Int32) &&& 31))) ||| ((rd σ 1 x1) <<< ((8 : Int32) &&& 31))) ||| ((rd σ 2 x1) <<< ((9 : Int32) &&& 31))) ||| ((rd σ 3 x1) <<< ((11 : Int32) &&& 31))))))))
set_option maxHeartbeats 4000000 in
set_option maxRecDepth 100000 in
theorem c_X0_packed (l : Launch) (G : EV)  (x1 : Int32) (σ : St) (r : Int32) (hE : f_X0_packed x1 σ = some r) : MetI l G yX0_packed wsX0_packed rmX0_packed [.ref (aD G 19), .int x1] (wC G σ) r (wC G σ) := by
  refine Met.of0 (Qf := PI G r (wC G σ)) (cc := cX0_packed) (maxL := 2) (ret := (some .int)) (by decide) rfl (Nat.le_of_ble_eq_true rfl) ?_
  intro p e s m below meth c args A hx hb hr hts hown hlocks hml hin0 hA hS hP hK hD hX ls hl
  have hl : lv_has ls 2 [(0, .ref (aD G 19)), (1, .int x1)] := hl
  generalize hQ : MQ below (PI G r (wC G σ) A) args s 0 0 A = Q
  unfold f_X0_packed at hE
  refine lv_aload_n hx hb dX0_packed_0 rfl (lv_at hl 0 rfl) ?_
  refine va_get (ci := 0) (v := .ref (aD G 0)) (C := RX0) (T := TX0) (N := 5) hx hb hts (fun _ h => List.mem_cons_of_mem _ (List.mem_append_right _ h)) hown hK hP 19 rfl rfl 0 (by decide) (hts (.fieldLink RX0 9 "FillCells$Field" "shapes" "[I") (List.mem_of_getElem? (i := 1) rfl)) (fun _ h9 => h9) rfl dX0_packed_1 ?_
  refine lv_iload_n hx hb dX0_packed_4 rfl (lv_at hl 1 rfl) ?_
  obtain ⟨h_i, hE⟩ := gd_some hE
  refine ldC hx hb hK hP 0 (by decide) h_i dX0_packed_5 ?_
  refine lv_aload_n hx hb dX0_packed_6 rfl (lv_at hl 0 rfl) ?_
  refine va_get (ci := 0) (v := .ref (aD G 4)) (C := RX0) (T := TX0) (N := 5) hx hb hts (fun _ h => List.mem_cons_of_mem _ (List.mem_append_right _ h)) hown hK hP 19 rfl rfl 4 (by decide) (hts (.fieldLink RX0 24 "FillCells$Field" "fill" "[I") (List.mem_of_getElem? (i := 2) rfl)) (fun _ h9 => h9) rfl dX0_packed_7 ?_
  refine lv_iload_n hx hb dX0_packed_10 rfl (lv_at hl 1 rfl) ?_
  obtain ⟨h_i, hE⟩ := gd_some hE
  refine ldC hx hb hK hP 4 (by decide) h_i dX0_packed_11 ?_
  refine lv_iconst (v := (4 : Int32)) hx hb dX0_packed_12 (by decide) ?_
  refine lv_ishl hx hb dX0_packed_13 ?_
  refine lv_ior hx hb dX0_packed_14 ?_
  refine lv_aload_n hx hb dX0_packed_15 rfl (lv_at hl 0 rfl) ?_
  refine va_get (ci := 0) (v := .ref (aD G 1)) (C := RX0) (T := TX0) (N := 5) hx hb hts (fun _ h => List.mem_cons_of_mem _ (List.mem_append_right _ h)) hown hK hP 19 rfl rfl 1 (by decide) (hts (.fieldLink RX0 15 "FillCells$Field" "shut" "[I") (List.mem_of_getElem? (i := 3) rfl)) (fun _ h9 => h9) rfl dX0_packed_16 ?_
  refine lv_iload_n hx hb dX0_packed_19 rfl (lv_at hl 1 rfl) ?_
  obtain ⟨h_i, hE⟩ := gd_some hE
  refine ldC hx hb hK hP 1 (by decide) h_i dX0_packed_20 ?_
  refine lv_bipush (v := (8 : Int32)) hx hb dX0_packed_21 (by decide) ?_
  refine lv_ishl hx hb dX0_packed_23 ?_
  refine lv_ior hx hb dX0_packed_24 ?_
  refine lv_aload_n hx hb dX0_packed_25 rfl (lv_at hl 0 rfl) ?_
  refine va_get (ci := 0) (v := .ref (aD G 2)) (C := RX0) (T := TX0) (N := 5) hx hb hts (fun _ h => List.mem_cons_of_mem _ (List.mem_append_right _ h)) hown hK hP 19 rfl rfl 2 (by decide) (hts (.fieldLink RX0 18 "FillCells$Field" "net" "[I") (List.mem_of_getElem? (i := 4) rfl)) (fun _ h9 => h9) rfl dX0_packed_26 ?_
  refine lv_iload_n hx hb dX0_packed_29 rfl (lv_at hl 1 rfl) ?_
  obtain ⟨h_i, hE⟩ := gd_some hE
  refine ldC hx hb hK hP 2 (by decide) h_i dX0_packed_30 ?_
  refine lv_bipush (v := (9 : Int32)) hx hb dX0_packed_31 (by decide) ?_
  refine lv_ishl hx hb dX0_packed_33 ?_
  refine lv_ior hx hb dX0_packed_34 ?_
  refine lv_aload_n hx hb dX0_packed_35 rfl (lv_at hl 0 rfl) ?_
  refine va_get (ci := 0) (v := .ref (aD G 3)) (C := RX0) (T := TX0) (N := 5) hx hb hts (fun _ h => List.mem_cons_of_mem _ (List.mem_append_right _ h)) hown hK hP 19 rfl rfl 3 (by decide) (hts (.fieldLink RX0 21 "FillCells$Field" "twins" "[I") (List.mem_of_getElem? (i := 5) rfl)) (fun _ h9 => h9) rfl dX0_packed_36 ?_
  refine lv_iload_n hx hb dX0_packed_39 rfl (lv_at hl 1 rfl) ?_
  obtain ⟨h_i, hE⟩ := gd_some hE
  refine ldC hx hb hK hP 3 (by decide) h_i dX0_packed_40 ?_
  refine lv_bipush (v := (11 : Int32)) hx hb dX0_packed_41 (by decide) ?_
  refine lv_ishl hx hb dX0_packed_43 ?_
  refine lv_ior hx hb dX0_packed_44 ?_
  rw [← hQ, ← Option.some.inj hE]
  exact ri hx hb hr hlocks hK hP hD hS dX0_packed_45
abbrev rmX0_unpack : Room := { frames := 0, cells := 0, slots := 0, locals := 0 }

def f_X0_unpack (x1 x2 : Int32) (σ : St) : Option St := gd x1 80 (gd x1 80 (gd x1 80 (gd x1 80 (gd x1 80 (some (sA (sA (sA (sA (sA σ 0 x1 (x2 &&& (15 : Int32))) 4 x1 ((x2 >>> ((4 : Int32) &&& 31)) &&& (15 : Int32))) 1 x1 ((x2 >>> ((8 : Int32) &&& 31)) &&& (1 : Int32))) 2 x1 ((x2 >>> ((9 : Int32) &&& 31)) &&& (3 : Int32))) 3 x1 ((x2 >>> ((11 : Int32) &&& 31)) &&& (3 : Int32))))))))
set_option maxHeartbeats 4000000 in
set_option maxRecDepth 100000 in
theorem c_X0_unpack (l : Launch) (G : EV)  (x1 x2 : Int32) (σ : St) (r : St) (hE : f_X0_unpack x1 x2 σ = some r) : MetV l G yX0_unpack wsX0_unpack rmX0_unpack [.ref (aD G 19), .int x1, .int x2] (wC G σ) (wC G r) := by
  refine Met.of0 (Qf := PV G (wC G r)) (cc := cX0_unpack) (maxL := 3) (ret := none) (by decide) rfl (Nat.le_of_ble_eq_true rfl) ?_
  intro p e s m below meth c args A hx hb hr hts hown hlocks hml hin0 hA hS hP hK hD hX ls hl
  have hl : lv_has ls 3 [(0, .ref (aD G 19)), (1, .int x1), (2, .int x2)] := hl
  generalize hQ : MQ below (PV G (wC G r) A) args s 0 0 A = Q
  unfold f_X0_unpack at hE
  refine lv_aload_n hx hb dX0_unpack_0 rfl (lv_at hl 0 rfl) ?_
  refine va_get (ci := 0) (v := .ref (aD G 0)) (C := RX0) (T := TX0) (N := 5) hx hb hts (fun _ h => List.mem_cons_of_mem _ (List.mem_append_right _ h)) hown hK hP 19 rfl rfl 0 (by decide) (hts (.fieldLink RX0 9 "FillCells$Field" "shapes" "[I") (List.mem_of_getElem? (i := 1) rfl)) (fun _ h9 => h9) rfl dX0_unpack_1 ?_
  refine lv_iload_n hx hb dX0_unpack_4 rfl (lv_at hl 1 rfl) ?_
  refine lv_iload_n hx hb dX0_unpack_5 rfl (lv_at hl 2 rfl) ?_
  refine lv_bipush (v := (15 : Int32)) hx hb dX0_unpack_6 (by decide) ?_
  refine lv_iand hx hb dX0_unpack_8 ?_
  obtain ⟨h_i, hE⟩ := gd_some hE
  refine stC hx hb hK hP hD hS 0 (by decide) h_i dX0_unpack_9 (fun H locs hP hD hS => ?_)
  refine lv_aload_n hx hb dX0_unpack_10 rfl (lv_at hl 0 rfl) ?_
  refine va_get (ci := 0) (v := .ref (aD G 4)) (C := RX0) (T := TX0) (N := 5) hx hb hts (fun _ h => List.mem_cons_of_mem _ (List.mem_append_right _ h)) hown hK hP 19 rfl rfl 4 (by decide) (hts (.fieldLink RX0 24 "FillCells$Field" "fill" "[I") (List.mem_of_getElem? (i := 2) rfl)) (fun _ h9 => h9) rfl dX0_unpack_11 ?_
  refine lv_iload_n hx hb dX0_unpack_14 rfl (lv_at hl 1 rfl) ?_
  refine lv_iload_n hx hb dX0_unpack_15 rfl (lv_at hl 2 rfl) ?_
  refine lv_iconst (v := (4 : Int32)) hx hb dX0_unpack_16 (by decide) ?_
  refine lv_ishr hx hb dX0_unpack_17 ?_
  refine lv_bipush (v := (15 : Int32)) hx hb dX0_unpack_18 (by decide) ?_
  refine lv_iand hx hb dX0_unpack_20 ?_
  obtain ⟨h_i, hE⟩ := gd_some hE
  refine stC hx hb hK hP hD hS 4 (by decide) h_i dX0_unpack_21 (fun H locs hP hD hS => ?_)
  refine lv_aload_n hx hb dX0_unpack_22 rfl (lv_at hl 0 rfl) ?_
  refine va_get (ci := 0) (v := .ref (aD G 1)) (C := RX0) (T := TX0) (N := 5) hx hb hts (fun _ h => List.mem_cons_of_mem _ (List.mem_append_right _ h)) hown hK hP 19 rfl rfl 1 (by decide) (hts (.fieldLink RX0 15 "FillCells$Field" "shut" "[I") (List.mem_of_getElem? (i := 3) rfl)) (fun _ h9 => h9) rfl dX0_unpack_23 ?_
  refine lv_iload_n hx hb dX0_unpack_26 rfl (lv_at hl 1 rfl) ?_
  refine lv_iload_n hx hb dX0_unpack_27 rfl (lv_at hl 2 rfl) ?_
  refine lv_bipush (v := (8 : Int32)) hx hb dX0_unpack_28 (by decide) ?_
  refine lv_ishr hx hb dX0_unpack_30 ?_
  refine lv_iconst (v := (1 : Int32)) hx hb dX0_unpack_31 (by decide) ?_
  refine lv_iand hx hb dX0_unpack_32 ?_
  obtain ⟨h_i, hE⟩ := gd_some hE
  refine stC hx hb hK hP hD hS 1 (by decide) h_i dX0_unpack_33 (fun H locs hP hD hS => ?_)
  refine lv_aload_n hx hb dX0_unpack_34 rfl (lv_at hl 0 rfl) ?_
  refine va_get (ci := 0) (v := .ref (aD G 2)) (C := RX0) (T := TX0) (N := 5) hx hb hts (fun _ h => List.mem_cons_of_mem _ (List.mem_append_right _ h)) hown hK hP 19 rfl rfl 2 (by decide) (hts (.fieldLink RX0 18 "FillCells$Field" "net" "[I") (List.mem_of_getElem? (i := 4) rfl)) (fun _ h9 => h9) rfl dX0_unpack_35 ?_
  refine lv_iload_n hx hb dX0_unpack_38 rfl (lv_at hl 1 rfl) ?_
  refine lv_iload_n hx hb dX0_unpack_39 rfl (lv_at hl 2 rfl) ?_
  refine lv_bipush (v := (9 : Int32)) hx hb dX0_unpack_40 (by decide) ?_
  refine lv_ishr hx hb dX0_unpack_42 ?_
  refine lv_iconst (v := (3 : Int32)) hx hb dX0_unpack_43 (by decide) ?_
  refine lv_iand hx hb dX0_unpack_44 ?_
  obtain ⟨h_i, hE⟩ := gd_some hE
  refine stC hx hb hK hP hD hS 2 (by decide) h_i dX0_unpack_45 (fun H locs hP hD hS => ?_)
  refine lv_aload_n hx hb dX0_unpack_46 rfl (lv_at hl 0 rfl) ?_
  refine va_get (ci := 0) (v := .ref (aD G 3)) (C := RX0) (T := TX0) (N := 5) hx hb hts (fun _ h => List.mem_cons_of_mem _ (List.mem_append_right _ h)) hown hK hP 19 rfl rfl 3 (by decide) (hts (.fieldLink RX0 21 "FillCells$Field" "twins" "[I") (List.mem_of_getElem? (i := 5) rfl)) (fun _ h9 => h9) rfl dX0_unpack_47 ?_
  refine lv_iload_n hx hb dX0_unpack_50 rfl (lv_at hl 1 rfl) ?_
  refine lv_iload_n hx hb dX0_unpack_51 rfl (lv_at hl 2 rfl) ?_
  refine lv_bipush (v := (11 : Int32)) hx hb dX0_unpack_52 (by decide) ?_
  refine lv_ishr hx hb dX0_unpack_54 ?_
  refine lv_iconst (v := (3 : Int32)) hx hb dX0_unpack_55 (by decide) ?_
  refine lv_iand hx hb dX0_unpack_56 ?_
  obtain ⟨h_i, hE⟩ := gd_some hE
  refine stC hx hb hK hP hD hS 3 (by decide) h_i dX0_unpack_57 (fun H locs hP hD hS => ?_)
  rw [← hQ, ← Option.some.inj hE]
  exact rv hx hb hr hlocks hK hP hD hS dX0_unpack_58


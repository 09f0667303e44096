abbrev rmX7_lessThan : Room := { frames := 0, cells := 0, slots := 0, locals := 0 }
def f_X7_lessThan_J105 (x1 : Int32) (x2 : Int32) (x4 : Int32) (t0 : Int32) (t1 : Int32) (σ : St) : Option (((Int32)) ⊕ (Int32 × Int32)) := some (.inr ((t1 + t0), (x4 + (1 : Int32))))
def f_X7_lessThan_J94 (x1 : Int32) (x2 : Int32) (x3 : Int32) (x4 : Int32) (x5 : Int32) (σ : St) : Option (((Int32)) ⊕ (Int32 × Int32)) := if x5 = 0 then (f_X7_lessThan_J105 x1 x2 x4 (0 : Int32) x3 σ) else (f_X7_lessThan_J105 x1 x2 x4 (1 : Int32) x3 σ)
def f_X7_lessThan_J85 (x1 : Int32) (x2 : Int32) (x3 : Int32) (x4 : Int32) (x6 : Int32) (σ : St) : Option (((Int32)) ⊕ (Int32 × Int32)) := some (.inr ((0 : Int32), (x6 + (1 : Int32))))
def f_X7_lessThan_L48 (x1 : Int32) (x2 : Int32) (x3 : Int32) (x4 : Int32) (σ : St) (v48 : Int32 × Int32) : Option (((Int32)) ⊕ (Int32 × Int32)) := if x4 ≤ v48.2 then (some (.inl (v48.1))) else (if x2 = 0 then (some (.inl (v48.1))) else (if v48.1 = 0 then (f_X7_lessThan_J85 x1 x2 x3 x4 v48.2 σ) else (gd v48.2 80 (gd x4 80 (if (rd σ 6 v48.2) = (rd σ 6 x4) then (f_X7_lessThan_J85 x1 x2 x3 x4 v48.2 σ) else (some (.inr ((1 : Int32), (v48.2 + (1 : Int32))))))))))
def f_X7_lessThan_J48 (x1 : Int32) (x2 : Int32) (x3 : Int32) (x4 : Int32) (x5 : Int32) (x6 : Int32) (σ : St) : Option (((Int32)) ⊕ (Int32 × Int32)) := bnd (loopN (f_X7_lessThan_L48 x1 x2 x3 x4 σ) 4096 (x5, x6)) (fun y48 => f_X7_lessThan_J94 x1 x2 x3 x4 y48 σ)
def f_X7_lessThan_J43 (x1 : Int32) (x2 : Int32) (x3 : Int32) (x4 : Int32) (t0 : Int32) (σ : St) : Option (((Int32)) ⊕ (Int32 × Int32)) := f_X7_lessThan_J48 x1 x2 x3 x4 t0 (0 : Int32) σ
def f_X7_lessThan_J42 (x1 : Int32) (x2 : Int32) (x3 : Int32) (x4 : Int32) (σ : St) : Option (((Int32)) ⊕ (Int32 × Int32)) := f_X7_lessThan_J43 x1 x2 x3 x4 (0 : Int32) σ
def f_X7_lessThan_L5 (x1 : Int32) (x2 : Int32) (σ : St) (v5 : Int32 × Int32) : Option (((Int32)) ⊕ (Int32 × Int32)) := if (80 : Int32) ≤ v5.2 then (some (.inl (v5.1))) else (gd v5.2 80 (if (rd σ 6 v5.2) < 0 then (f_X7_lessThan_J42 x1 x2 v5.1 v5.2 σ) else (gd v5.2 80 (gd x1 80 (if (rd σ 6 x1) ≤ (rd σ 6 v5.2) then (f_X7_lessThan_J42 x1 x2 v5.1 v5.2 σ) else (f_X7_lessThan_J43 x1 x2 v5.1 v5.2 (1 : Int32) σ))))))
def f_X7_lessThan_J5 (x1 : Int32) (x2 : Int32) (x3 : Int32) (x4 : Int32) (σ : St) : Option Int32 := bnd (loopN (f_X7_lessThan_L5 x1 x2 σ) 4096 (x3, x4)) (fun y5 => some y5)
def f_X7_lessThan (x1 x2 : Int32) (σ : St) : Option Int32 := f_X7_lessThan_J5 x1 x2 (0 : Int32) (0 : Int32) σ
set_option maxHeartbeats 4000000 in
set_option maxRecDepth 100000 in
theorem c_X7_lessThan (l : Launch) (G : EV)  (x1 x2 : Int32) (σ : St) (r : Int32) (hE : f_X7_lessThan x1 x2 σ = some r) : MetI l G yX7_lessThan wsX7_lessThan rmX7_lessThan [.ref (aD G 43), .int x1, .int x2] (wM G σ) r (wM G σ) := by
  refine Met.of0 (Qf := PI G r (wM G σ)) (cc := cX7_lessThan) (maxL := 7) (ret := (some .int)) (by decide) rfl (Nat.le_of_ble_eq_true rfl) ?_
  intro p e s m below meth c args A hx hb hr hts hown hlocks hml hin0 hA hS hP hK hD hX ls hl
  have hl : lv_has ls 7 [(0, .ref (aD G 43)), (1, .int x1), (2, .int x2)] := hl
  generalize hQ : MQ below (PI G r (wM G σ) A) args s 0 0 A = Q
  unfold f_X7_lessThan at hE
  have J_5 : ∀ (x3 : Int32) (x4 : Int32) (H : Heap) (locs : List Loc) (ls : Array Slot), va_P G.1 vwCl (wM G σ) H → va_D A (wM G σ) → va_S A s.heap H locs → lv_has ls 7 [(0, .ref (aD G 43)), (1, .int x1), (2, .int x2), (3, .int x3), (4, .int x4)] → f_X7_lessThan_J5 x1 x2 x3 x4 σ = some r → W p l e rmX7_lessThan s m args below meth c H locs 0 0 Q (F0 m 5 ls []) := by
    intro x3 x4 H locs ls hP hD hS hl hE
    unfold f_X7_lessThan_J5 at hE
    obtain ⟨y5, hL, hE5⟩ := bnd_some hE
    refine loop_W (body := f_X7_lessThan_L5 x1 x2 σ) (y := y5) (P := fun v5 => ∀ (H : Heap) (locs : List Loc) (ls : Array Slot), va_P G.1 vwCl (wM G σ) H → va_D A (wM G σ) → va_S A s.heap H locs → lv_has ls 7 [(0, .ref (aD G 43)), (1, .int x1), (2, .int x2), (3, .int v5.1), (4, .int v5.2)] → W p l e rmX7_lessThan s m args below meth c H locs 0 0 Q (F0 m 5 ls [])) ?_ _ _ hL H locs ls hP hD hS hl
    clear hP hD hS hl hE hL
    intro v5 t5 hE hN5 hY5
    intro H locs ls hP hD hS hl
    unfold f_X7_lessThan_L5 at hE
    have J_105 : ∀ (x4 : Int32) (t0 : Int32) (t1 : Int32) (H : Heap) (locs : List Loc) (ls : Array Slot), va_P G.1 vwCl (wM G σ) H → va_D A (wM G σ) → va_S A s.heap H locs → lv_has ls 7 [(0, .ref (aD G 43)), (1, .int x1), (2, .int x2), (4, .int x4)] → f_X7_lessThan_J105 x1 x2 x4 t0 t1 σ = some t5 → W p l e rmX7_lessThan s m args below meth c H locs 0 0 Q (F0 m 105 ls [.int t0, .int t1]) := by
      intro x4 t0 t1 H locs ls hP hD hS hl hE
      unfold f_X7_lessThan_J105 at hE
      refine lv_iadd hx hb dX7_lessThan_105 ?_
      refine lv_istore_n (lv' := [(3, .int (t1 + t0)), (0, .ref (aD G 43)), (1, .int x1), (2, .int x2), (4, .int x4)]) hx hb dX7_lessThan_106 rfl hl (by decide) rfl (fun ls hl => ?_)
      refine lv_iinc (v := (x4 + (1 : Int32))) (lv' := [(4, .int (x4 + (1 : Int32))), (3, .int (t1 + t0)), (0, .ref (aD G 43)), (1, .int x1), (2, .int x2)]) hx hb dX7_lessThan_107 hl (k := 4) rfl rfl (by decide) rfl (fun ls hl => ?_)
      refine lv_goto (tgt := 5) hx hb dX7_lessThan_110 (by decide) ?_
      exact hN5 _ (Option.some.inj hE).symm _ _ _ hP hD hS (lv_sub hl [2, 3, 4, 1, 0] rfl)
    have J_94 : ∀ (x3 : Int32) (x4 : Int32) (x5 : Int32) (H : Heap) (locs : List Loc) (ls : Array Slot), va_P G.1 vwCl (wM G σ) H → va_D A (wM G σ) → va_S A s.heap H locs → lv_has ls 7 [(0, .ref (aD G 43)), (1, .int x1), (2, .int x2), (3, .int x3), (4, .int x4), (5, .int x5)] → f_X7_lessThan_J94 x1 x2 x3 x4 x5 σ = some t5 → W p l e rmX7_lessThan s m args below meth c H locs 0 0 Q (F0 m 94 ls []) := by
      intro x3 x4 x5 H locs ls hP hD hS hl hE
      unfold f_X7_lessThan_J94 at hE
      refine lv_iload_n hx hb dX7_lessThan_94 rfl (lv_at hl 3 rfl) ?_
      refine lv_iload hx hb dX7_lessThan_95 (lv_at hl 5 rfl) ?_
      refine lv_if_eq (tgt := 104) hx hb dX7_lessThan_97 (by decide) (fun c_ => ?_) (fun c_ => ?_)
      · have hE := ip c_ hE
        refine lv_iconst (v := (0 : Int32)) hx hb dX7_lessThan_104 (by decide) ?_
        exact J_105 x4 (0 : Int32) x3 _ _ _ hP hD hS (lv_sub hl [0, 1, 2, 4] rfl) hE
      · have hE := im c_ hE
        refine lv_iconst (v := (1 : Int32)) hx hb dX7_lessThan_100 (by decide) ?_
        refine lv_goto (tgt := 105) hx hb dX7_lessThan_101 (by decide) ?_
        exact J_105 x4 (1 : Int32) x3 _ _ _ hP hD hS (lv_sub hl [0, 1, 2, 4] rfl) hE
    have J_48 : ∀ (x3 : Int32) (x4 : Int32) (x5 : Int32) (x6 : Int32) (H : Heap) (locs : List Loc) (ls : Array Slot), va_P G.1 vwCl (wM G σ) H → va_D A (wM G σ) → va_S A s.heap H locs → lv_has ls 7 [(0, .ref (aD G 43)), (1, .int x1), (2, .int x2), (3, .int x3), (4, .int x4), (5, .int x5), (6, .int x6)] → f_X7_lessThan_J48 x1 x2 x3 x4 x5 x6 σ = some t5 → W p l e rmX7_lessThan s m args below meth c H locs 0 0 Q (F0 m 48 ls []) := by
      intro x3 x4 x5 x6 H locs ls hP hD hS hl hE
      unfold f_X7_lessThan_J48 at hE
      obtain ⟨y48, hL, hE48⟩ := bnd_some hE
      refine loop_W (body := f_X7_lessThan_L48 x1 x2 x3 x4 σ) (y := y48) (P := fun v48 => ∀ (H : Heap) (locs : List Loc) (ls : Array Slot), va_P G.1 vwCl (wM G σ) H → va_D A (wM G σ) → va_S A s.heap H locs → lv_has ls 7 [(0, .ref (aD G 43)), (1, .int x1), (2, .int x2), (3, .int x3), (4, .int x4), (5, .int v48.1), (6, .int v48.2)] → W p l e rmX7_lessThan s m args below meth c H locs 0 0 Q (F0 m 48 ls [])) ?_ _ _ hL H locs ls hP hD hS hl
      clear hP hD hS hl hE hL
      intro v48 t48 hE hN48 hY48
      intro H locs ls hP hD hS hl
      unfold f_X7_lessThan_L48 at hE
      have J_85 : ∀ (x6 : Int32) (H : Heap) (locs : List Loc) (ls : Array Slot), va_P G.1 vwCl (wM G σ) H → va_D A (wM G σ) → va_S A s.heap H locs → lv_has ls 7 [(0, .ref (aD G 43)), (1, .int x1), (2, .int x2), (3, .int x3), (4, .int x4), (6, .int x6)] → f_X7_lessThan_J85 x1 x2 x3 x4 x6 σ = some t48 → W p l e rmX7_lessThan s m args below meth c H locs 0 0 Q (F0 m 85 ls []) := by
        intro x6 H locs ls hP hD hS hl hE
        unfold f_X7_lessThan_J85 at hE
        refine lv_iconst (v := (0 : Int32)) hx hb dX7_lessThan_85 (by decide) ?_
        refine lv_istore (lv' := [(5, .int (0 : Int32)), (0, .ref (aD G 43)), (1, .int x1), (2, .int x2), (3, .int x3), (4, .int x4), (6, .int x6)]) hx hb dX7_lessThan_86 hl (by decide) rfl (fun ls hl => ?_)
        refine lv_iinc (v := (x6 + (1 : Int32))) (lv' := [(6, .int (x6 + (1 : Int32))), (5, .int (0 : Int32)), (0, .ref (aD G 43)), (1, .int x1), (2, .int x2), (3, .int x3), (4, .int x4)]) hx hb dX7_lessThan_88 hl (k := 6) rfl rfl (by decide) rfl (fun ls hl => ?_)
        refine lv_goto (tgt := 48) hx hb dX7_lessThan_91 (by decide) ?_
        exact hN48 _ (Option.some.inj hE).symm _ _ _ hP hD hS (lv_sub hl [2, 3, 4, 5, 6, 1, 0] rfl)
      refine lv_iload hx hb dX7_lessThan_48 (lv_at hl 6 rfl) ?_
      refine lv_iload hx hb dX7_lessThan_50 (lv_at hl 4 rfl) ?_
      refine lv_icmp_ge (tgt := 94) hx hb dX7_lessThan_52 (by decide) (fun c_ => ?_) (fun c_ => ?_)
      · have hE := ip c_ hE
        have e9 := hY48 _ (Option.some.inj hE).symm
        have hE := hE48
        rw [← e9] at hE
        exact J_94 x3 x4 v48.1 _ _ _ hP hD hS (lv_sub hl [0, 1, 2, 3, 4, 5] rfl) hE
      · have hE := im c_ hE
        refine lv_iload_n hx hb dX7_lessThan_55 rfl (lv_at hl 2 rfl) ?_
        refine lv_if_eq (tgt := 94) hx hb dX7_lessThan_56 (by decide) (fun c_ => ?_) (fun c_ => ?_)
        · have hE := ip c_ hE
          have e9 := hY48 _ (Option.some.inj hE).symm
          have hE := hE48
          rw [← e9] at hE
          exact J_94 x3 x4 v48.1 _ _ _ hP hD hS (lv_sub hl [0, 1, 2, 3, 4, 5] rfl) hE
        · have hE := im c_ hE
          refine lv_iload hx hb dX7_lessThan_59 (lv_at hl 5 rfl) ?_
          refine lv_if_eq (tgt := 85) hx hb dX7_lessThan_61 (by decide) (fun c_ => ?_) (fun c_ => ?_)
          · have hE := ip c_ hE
            exact J_85 v48.2 _ _ _ hP hD hS (lv_sub hl [0, 1, 2, 3, 4, 6] rfl) hE
          · have hE := im c_ hE
            refine lv_aload_n hx hb dX7_lessThan_64 rfl (lv_at hl 0 rfl) ?_
            refine va_get (ci := 7) (v := .ref (aD G 36)) (C := RX7) (T := TX7) (N := 17) hx hb hts (fun _ h => List.mem_cons_of_mem _ (List.mem_append_right _ h)) hown hK hP 13 rfl rfl 9 (by decide) (hts (.fieldLink RX7 28 "FillCellsModel" "sums" "[I") (List.mem_of_getElem? (i := 1) rfl)) (fun _ h9 => h9) rfl dX7_lessThan_65 ?_
            refine lv_iload hx hb dX7_lessThan_68 (lv_at hl 6 rfl) ?_
            obtain ⟨h_i, hE⟩ := gd_some hE
            refine ldM hx hb hK hP 6 (by decide) h_i dX7_lessThan_70 ?_
            refine lv_aload_n hx hb dX7_lessThan_71 rfl (lv_at hl 0 rfl) ?_
            refine va_get (ci := 7) (v := .ref (aD G 36)) (C := RX7) (T := TX7) (N := 17) hx hb hts (fun _ h => List.mem_cons_of_mem _ (List.mem_append_right _ h)) hown hK hP 13 rfl rfl 9 (by decide) (hts (.fieldLink RX7 28 "FillCellsModel" "sums" "[I") (List.mem_of_getElem? (i := 1) rfl)) (fun _ h9 => h9) rfl dX7_lessThan_72 ?_
            refine lv_iload hx hb dX7_lessThan_75 (lv_at hl 4 rfl) ?_
            obtain ⟨h_i, hE⟩ := gd_some hE
            refine ldM hx hb hK hP 6 (by decide) h_i dX7_lessThan_77 ?_
            refine lv_icmp_eq (tgt := 85) hx hb dX7_lessThan_78 (by decide) (fun c_ => ?_) (fun c_ => ?_)
            · have hE := ip c_ hE
              exact J_85 v48.2 _ _ _ hP hD hS (lv_sub hl [0, 1, 2, 3, 4, 6] rfl) hE
            · have hE := im c_ hE
              refine lv_iconst (v := (1 : Int32)) hx hb dX7_lessThan_81 (by decide) ?_
              refine lv_goto (tgt := 86) hx hb dX7_lessThan_82 (by decide) ?_
              refine lv_istore (lv' := [(5, .int (1 : Int32)), (0, .ref (aD G 43)), (1, .int x1), (2, .int x2), (3, .int x3), (4, .int x4), (6, .int v48.2)]) hx hb dX7_lessThan_86 hl (by decide) rfl (fun ls hl => ?_)
              refine lv_iinc (v := (v48.2 + (1 : Int32))) (lv' := [(6, .int (v48.2 + (1 : Int32))), (5, .int (1 : Int32)), (0, .ref (aD G 43)), (1, .int x1), (2, .int x2), (3, .int x3), (4, .int x4)]) hx hb dX7_lessThan_88 hl (k := 6) rfl rfl (by decide) rfl (fun ls hl => ?_)
              refine lv_goto (tgt := 48) hx hb dX7_lessThan_91 (by decide) ?_
              exact hN48 _ (Option.some.inj hE).symm _ _ _ hP hD hS (lv_sub hl [2, 3, 4, 5, 6, 1, 0] rfl)
    have J_43 : ∀ (x3 : Int32) (x4 : Int32) (t0 : Int32) (H : Heap) (locs : List Loc) (ls : Array Slot), va_P G.1 vwCl (wM G σ) H → va_D A (wM G σ) → va_S A s.heap H locs → lv_has ls 7 [(0, .ref (aD G 43)), (1, .int x1), (2, .int x2), (3, .int x3), (4, .int x4)] → f_X7_lessThan_J43 x1 x2 x3 x4 t0 σ = some t5 → W p l e rmX7_lessThan s m args below meth c H locs 0 0 Q (F0 m 43 ls [.int t0]) := by
      intro x3 x4 t0 H locs ls hP hD hS hl hE
      unfold f_X7_lessThan_J43 at hE
      refine lv_istore (lv' := [(5, .int t0), (0, .ref (aD G 43)), (1, .int x1), (2, .int x2), (3, .int x3), (4, .int x4)]) hx hb dX7_lessThan_43 hl (by decide) rfl (fun ls hl => ?_)
      refine lv_iconst (v := (0 : Int32)) hx hb dX7_lessThan_45 (by decide) ?_
      refine lv_istore (lv' := [(6, .int (0 : Int32)), (5, .int t0), (0, .ref (aD G 43)), (1, .int x1), (2, .int x2), (3, .int x3), (4, .int x4)]) hx hb dX7_lessThan_46 hl (by decide) rfl (fun ls hl => ?_)
      exact J_48 x3 x4 t0 (0 : Int32) _ _ _ hP hD hS (lv_sub hl [2, 3, 4, 5, 6, 1, 0] rfl) hE
    have J_42 : ∀ (x3 : Int32) (x4 : Int32) (H : Heap) (locs : List Loc) (ls : Array Slot), va_P G.1 vwCl (wM G σ) H → va_D A (wM G σ) → va_S A s.heap H locs → lv_has ls 7 [(0, .ref (aD G 43)), (1, .int x1), (2, .int x2), (3, .int x3), (4, .int x4)] → f_X7_lessThan_J42 x1 x2 x3 x4 σ = some t5 → W p l e rmX7_lessThan s m args below meth c H locs 0 0 Q (F0 m 42 ls []) := by
      intro x3 x4 H locs ls hP hD hS hl hE
      unfold f_X7_lessThan_J42 at hE
      refine lv_iconst (v := (0 : Int32)) hx hb dX7_lessThan_42 (by decide) ?_
      exact J_43 x3 x4 (0 : Int32) _ _ _ hP hD hS (lv_sub hl [0, 1, 2, 3, 4] rfl) hE
    refine lv_iload hx hb dX7_lessThan_5 (lv_at hl 4 rfl) ?_
    refine lv_bipush (v := (80 : Int32)) hx hb dX7_lessThan_7 (by decide) ?_
    refine lv_icmp_ge (tgt := 113) hx hb dX7_lessThan_9 (by decide) (fun c_ => ?_) (fun c_ => ?_)
    · have hE := ip c_ hE
      have e9 := hY5 _ (Option.some.inj hE).symm
      have hE := hE5
      rw [← e9] at hE
      refine lv_iload_n hx hb dX7_lessThan_113 rfl (lv_at hl 3 rfl) ?_
      rw [← hQ, ← Option.some.inj hE]
      exact ri hx hb hr hlocks hK hP hD hS dX7_lessThan_114
    · have hE := im c_ hE
      refine lv_aload_n hx hb dX7_lessThan_12 rfl (lv_at hl 0 rfl) ?_
      refine va_get (ci := 7) (v := .ref (aD G 36)) (C := RX7) (T := TX7) (N := 17) hx hb hts (fun _ h => List.mem_cons_of_mem _ (List.mem_append_right _ h)) hown hK hP 13 rfl rfl 9 (by decide) (hts (.fieldLink RX7 28 "FillCellsModel" "sums" "[I") (List.mem_of_getElem? (i := 1) rfl)) (fun _ h9 => h9) rfl dX7_lessThan_13 ?_
      refine lv_iload hx hb dX7_lessThan_16 (lv_at hl 4 rfl) ?_
      obtain ⟨h_i, hE⟩ := gd_some hE
      refine ldM hx hb hK hP 6 (by decide) h_i dX7_lessThan_18 ?_
      refine lv_if_lt (tgt := 42) hx hb dX7_lessThan_19 (by decide) (fun c_ => ?_) (fun c_ => ?_)
      · have hE := ip c_ hE
        exact J_42 v5.1 v5.2 _ _ _ hP hD hS (lv_sub hl [0, 1, 2, 3, 4] rfl) hE
      · have hE := im c_ hE
        refine lv_aload_n hx hb dX7_lessThan_22 rfl (lv_at hl 0 rfl) ?_
        refine va_get (ci := 7) (v := .ref (aD G 36)) (C := RX7) (T := TX7) (N := 17) hx hb hts (fun _ h => List.mem_cons_of_mem _ (List.mem_append_right _ h)) hown hK hP 13 rfl rfl 9 (by decide) (hts (.fieldLink RX7 28 "FillCellsModel" "sums" "[I") (List.mem_of_getElem? (i := 1) rfl)) (fun _ h9 => h9) rfl dX7_lessThan_23 ?_
        refine lv_iload hx hb dX7_lessThan_26 (lv_at hl 4 rfl) ?_
        obtain ⟨h_i, hE⟩ := gd_some hE
        refine ldM hx hb hK hP 6 (by decide) h_i dX7_lessThan_28 ?_
        refine lv_aload_n hx hb dX7_lessThan_29 rfl (lv_at hl 0 rfl) ?_
        refine va_get (ci := 7) (v := .ref (aD G 36)) (C := RX7) (T := TX7) (N := 17) hx hb hts (fun _ h => List.mem_cons_of_mem _ (List.mem_append_right _ h)) hown hK hP 13 rfl rfl 9 (by decide) (hts (.fieldLink RX7 28 "FillCellsModel" "sums" "[I") (List.mem_of_getElem? (i := 1) rfl)) (fun _ h9 => h9) rfl dX7_lessThan_30 ?_
        refine lv_iload_n hx hb dX7_lessThan_33 rfl (lv_at hl 1 rfl) ?_
        obtain ⟨h_i, hE⟩ := gd_some hE
        refine ldM hx hb hK hP 6 (by decide) h_i dX7_lessThan_34 ?_
        refine lv_icmp_ge (tgt := 42) hx hb dX7_lessThan_35 (by decide) (fun c_ => ?_) (fun c_ => ?_)
        · have hE := ip c_ hE
          exact J_42 v5.1 v5.2 _ _ _ hP hD hS (lv_sub hl [0, 1, 2, 3, 4] rfl) hE
        · have hE := im c_ hE
          refine lv_iconst (v := (1 : Int32)) hx hb dX7_lessThan_38 (by decide) ?_
          refine lv_goto (tgt := 43) hx hb dX7_lessThan_39 (by decide) ?_
          exact J_43 v5.1 v5.2 (1 : Int32) _ _ _ hP hD hS (lv_sub hl [0, 1, 2, 3, 4] rfl) hE
  refine lv_iconst (v := (0 : Int32)) hx hb dX7_lessThan_0 (by decide) ?_
  refine lv_istore_n (lv' := [(3, .int (0 : Int32)), (0, .ref (aD G 43)), (1, .int x1), (2, .int x2)]) hx hb dX7_lessThan_1 rfl hl (by decide) rfl (fun ls hl => ?_)
  refine lv_iconst (v := (0 : Int32)) hx hb dX7_lessThan_2 (by decide) ?_
  refine lv_istore (lv' := [(4, .int (0 : Int32)), (3, .int (0 : Int32)), (0, .ref (aD G 43)), (1, .int x1), (2, .int x2)]) hx hb dX7_lessThan_3 hl (by decide) rfl (fun ls hl => ?_)
  exact J_5 (0 : Int32) (0 : Int32) _ _ _ hP hD hS (lv_sub hl [2, 3, 4, 1, 0] rfl) hE
abbrev rmX7_order : Room := { frames := 2, cells := 0, slots := 0, locals := 44 }
def f_X7_order_J13 (σ : St) : Option (Int32 × St) := bnd (f_X7_refuses (-2 : Int32) σ) (fun r1 => some (r1.1, r1.2))
def f_X7_order_J78 (x2 : Int32) (x3 : Int32) (x4 : Int32) (σ : St) : Option (Int32 × St) := if x3 = 0 then (some ((-1 : Int32), σ)) else (if x2 = 0 then (some (x4, σ)) else (some (x3, σ)))
def f_X7_order_L32 (x1 : Int32) (x2 : Int32) (σ : St) (v32 : Int32 × Int32 × Int32) : Option (((Int32 × Int32)) ⊕ (Int32 × Int32 × Int32)) := if (80 : Int32) ≤ v32.2.2 then (some (.inl (v32.1, v32.2.1))) else (gd v32.2.2 80 (if (rd σ 6 v32.2.2) < 0 then (some (.inr (v32.1, v32.2.1, (v32.2.2 + (1 : Int32))))) else (bnd (f_X7_lessThan v32.2.2 (1 : Int32) σ) (fun r4 => if r4 = x1 then (gd v32.2.2 80 (some (.inr ((v32.1 + (1 : Int32)), (rd σ 6 v32.2.2), (v32.2.2 + (1 : Int32)))))) else (some (.inr (v32.1, v32.2.1, (v32.2.2 + (1 : Int32)))))))))
def f_X7_order_J32 (x1 : Int32) (x2 : Int32) (x3 : Int32) (x4 : Int32) (x5 : Int32) (σ : St) : Option (Int32 × St) := bnd (loopN (f_X7_order_L32 x1 x2 σ) 4096 (x3, x4, x5)) (fun y32 => f_X7_order_J78 x2 y32.1 y32.2 σ)
def f_X7_order (x1 x2 : Int32) (σ : St) : Option (Int32 × St) := if x1 < 0 then (f_X7_order_J13 σ) else (bnd (f_X7_in x2 (0 : Int32) (1 : Int32)) (fun r2 => if r2 = 0 then (f_X7_order_J13 σ) else (bnd (f_X7_laysSums σ) (fun r3 => f_X7_order_J32 x1 x2 (0 : Int32) (-1 : Int32) (0 : Int32) r3))))
set_option maxHeartbeats 4000000 in
set_option maxRecDepth 100000 in
theorem c_X7_order (l : Launch) (G : EV)  (x1 x2 : Int32) (σ : St) (r : (Int32 × St)) (hE : f_X7_order x1 x2 σ = some r) : MetI l G yX7_order wsX7_order rmX7_order [.ref (aD G 43), .int x1, .int x2] (wM G σ) r.1 (wM G r.2) := by
  refine Met.of0 (Qf := PI G r.1 (wM G r.2)) (cc := cX7_order) (maxL := 6) (ret := (some .int)) (by decide) rfl (Nat.le_of_ble_eq_true rfl) ?_
  intro p e s m below meth c args A hx hb hr hts hown hlocks hml hin0 hA hS hP hK hD hX ls hl
  have hl : lv_has ls 6 [(0, .ref (aD G 43)), (1, .int x1), (2, .int x2)] := hl
  generalize hQ : MQ below (PI G r.1 (wM G r.2) A) args s 0 0 A = Q
  unfold f_X7_order at hE
  have J_13 : ∀ (σ : St) (H : Heap) (locs : List Loc) (ls : Array Slot), va_P G.1 vwCl (wM G σ) H → va_D A (wM G σ) → va_S A s.heap H locs → lv_has ls 6 [(0, .ref (aD G 43))] → f_X7_order_J13 σ = some r → W p l e rmX7_order s m args below meth c H locs 0 0 Q (F0 m 13 ls []) := by
    intro σ H locs ls hP hD hS hl hE
    unfold f_X7_order_J13 at hE
    refine lv_aload_n hx hb dX7_order_13 rfl (lv_at hl 0 rfl) ?_
    refine lv_bipush (v := (-2 : Int32)) hx hb dX7_order_14 (by decide) ?_
    obtain ⟨r1, hC, hE⟩ := bnd_some hE
    refine ci (va_runV (As := [.int (-2 : Int32)]) (rest := []) ⟨hx, hb, hml, hown, hts⟩ (c_X7_refuses l G (-2 : Int32) σ r1 hC _) (cwV 1 hts gX7_order_X7_refuses rfl rfl rfl (by decide +kernel) ⟨Nat.le_of_ble_eq_true rfl, Nat.le_of_ble_eq_true rfl⟩) (preV hK hP hD hS hA hX (va_recv hK hP (ci := 7) (q0 := 13) rfl rfl)) rfl rfl hl.1 rfl (lv_room (Nat.le_of_ble_eq_true rfl)) dX7_order_16 ⟨Nat.le_of_ble_eq_true rfl, Nat.le_of_ble_eq_true rfl⟩) hD hS hA (fun H locs hP hD hS => ?_)
    rw [← hQ, ← Option.some.inj hE]
    exact ri hx hb hr hlocks hK hP hD hS dX7_order_19
  have J_78 : ∀ (x3 : Int32) (x4 : Int32) (σ : St) (H : Heap) (locs : List Loc) (ls : Array Slot), va_P G.1 vwCl (wM G σ) H → va_D A (wM G σ) → va_S A s.heap H locs → lv_has ls 6 [(2, .int x2), (3, .int x3), (4, .int x4)] → f_X7_order_J78 x2 x3 x4 σ = some r → W p l e rmX7_order s m args below meth c H locs 0 0 Q (F0 m 78 ls []) := by
    intro x3 x4 σ H locs ls hP hD hS hl hE
    unfold f_X7_order_J78 at hE
    refine lv_iload_n hx hb dX7_order_78 rfl (lv_at hl 1 rfl) ?_
    refine lv_if_ne (tgt := 86) hx hb dX7_order_79 (by decide) (fun c_ => ?_) (fun c_ => ?_)
    · have hE := im c_ hE
      refine lv_iload_n hx hb dX7_order_86 rfl (lv_at hl 0 rfl) ?_
      refine lv_if_ne (tgt := 95) hx hb dX7_order_87 (by decide) (fun c_ => ?_) (fun c_ => ?_)
      · have hE := im c_ hE
        refine lv_iload_n hx hb dX7_order_95 rfl (lv_at hl 1 rfl) ?_
        rw [← hQ, ← Option.some.inj hE]
        exact ri hx hb hr hlocks hK hP hD hS dX7_order_96
      · have hE := ip c_ hE
        refine lv_iload hx hb dX7_order_90 (lv_at hl 2 rfl) ?_
        refine lv_goto (tgt := 96) hx hb dX7_order_92 (by decide) ?_
        rw [← hQ, ← Option.some.inj hE]
        exact ri hx hb hr hlocks hK hP hD hS dX7_order_96
    · have hE := ip c_ hE
      refine lv_iconst (v := (-1 : Int32)) hx hb dX7_order_82 (by decide) ?_
      refine lv_goto (tgt := 96) hx hb dX7_order_83 (by decide) ?_
      rw [← hQ, ← Option.some.inj hE]
      exact ri hx hb hr hlocks hK hP hD hS dX7_order_96
  have J_32 : ∀ (x3 : Int32) (x4 : Int32) (x5 : Int32) (σ : St) (H : Heap) (locs : List Loc) (ls : Array Slot), va_P G.1 vwCl (wM G σ) H → va_D A (wM G σ) → va_S A s.heap H locs → lv_has ls 6 [(0, .ref (aD G 43)), (1, .int x1), (2, .int x2), (3, .int x3), (4, .int x4), (5, .int x5)] → f_X7_order_J32 x1 x2 x3 x4 x5 σ = some r → W p l e rmX7_order s m args below meth c H locs 0 0 Q (F0 m 32 ls []) := by
    intro x3 x4 x5 σ H locs ls hP hD hS hl hE
    unfold f_X7_order_J32 at hE
    obtain ⟨y32, hL, hE32⟩ := bnd_some hE
    refine loop_W (body := f_X7_order_L32 x1 x2 σ) (y := y32) (P := fun v32 => ∀ (H : Heap) (locs : List Loc) (ls : Array Slot), va_P G.1 vwCl (wM G σ) H → va_D A (wM G σ) → va_S A s.heap H locs → lv_has ls 6 [(0, .ref (aD G 43)), (1, .int x1), (2, .int x2), (3, .int v32.1), (4, .int v32.2.1), (5, .int v32.2.2)] → W p l e rmX7_order s m args below meth c H locs 0 0 Q (F0 m 32 ls [])) ?_ _ _ hL H locs ls hP hD hS hl
    clear hP hD hS hl hE hL
    intro v32 t32 hE hN32 hY32
    intro H locs ls hP hD hS hl
    unfold f_X7_order_L32 at hE
    refine lv_iload hx hb dX7_order_32 (lv_at hl 5 rfl) ?_
    refine lv_bipush (v := (80 : Int32)) hx hb dX7_order_34 (by decide) ?_
    refine lv_icmp_ge (tgt := 78) hx hb dX7_order_36 (by decide) (fun c_ => ?_) (fun c_ => ?_)
    · have hE := ip c_ hE
      have e9 := hY32 _ (Option.some.inj hE).symm
      have hE := hE32
      rw [← e9] at hE
      exact J_78 v32.1 v32.2.1 σ _ _ _ hP hD hS (lv_sub hl [2, 3, 4] rfl) hE
    · have hE := im c_ hE
      refine lv_aload_n hx hb dX7_order_39 rfl (lv_at hl 0 rfl) ?_
      refine va_get (ci := 7) (v := .ref (aD G 36)) (C := RX7) (T := TX7) (N := 17) hx hb hts (fun _ h => List.mem_cons_of_mem _ (List.mem_append_right _ h)) hown hK hP 13 rfl rfl 9 (by decide) (hts (.fieldLink RX7 28 "FillCellsModel" "sums" "[I") (List.mem_of_getElem? (i := 1) rfl)) (fun _ h9 => h9) rfl dX7_order_40 ?_
      refine lv_iload hx hb dX7_order_43 (lv_at hl 5 rfl) ?_
      obtain ⟨h_i, hE⟩ := gd_some hE
      refine ldM hx hb hK hP 6 (by decide) h_i dX7_order_45 ?_
      refine lv_if_lt (tgt := 72) hx hb dX7_order_46 (by decide) (fun c_ => ?_) (fun c_ => ?_)
      · have hE := ip c_ hE
        refine lv_iinc (v := (v32.2.2 + (1 : Int32))) (lv' := [(5, .int (v32.2.2 + (1 : Int32))), (0, .ref (aD G 43)), (1, .int x1), (2, .int x2), (3, .int v32.1), (4, .int v32.2.1)]) hx hb dX7_order_72 hl (k := 5) rfl rfl (by decide) rfl (fun ls hl => ?_)
        refine lv_goto (tgt := 32) hx hb dX7_order_75 (by decide) ?_
        exact hN32 _ (Option.some.inj hE).symm _ _ _ hP hD hS (lv_sub hl [1, 2, 3, 4, 5, 0] rfl)
      · have hE := im c_ hE
        refine lv_aload_n hx hb dX7_order_49 rfl (lv_at hl 0 rfl) ?_
        refine lv_iload hx hb dX7_order_50 (lv_at hl 5 rfl) ?_
        refine lv_iconst (v := (1 : Int32)) hx hb dX7_order_52 (by decide) ?_
        obtain ⟨r4, hC, hE⟩ := bnd_some hE
        refine ci (va_runV (As := [.int v32.2.2, .int (1 : Int32)]) (rest := []) ⟨hx, hb, hml, hown, hts⟩ (c_X7_lessThan l G v32.2.2 (1 : Int32) σ r4 hC _) (cwV 2 hts gX7_order_X7_lessThan rfl rfl rfl (by decide +kernel) ⟨Nat.le_of_ble_eq_true rfl, Nat.le_of_ble_eq_true rfl⟩) (preV hK hP hD hS hA hX (va_recv hK hP (ci := 7) (q0 := 13) rfl rfl)) rfl rfl hl.1 rfl (lv_room (Nat.le_of_ble_eq_true rfl)) dX7_order_53 ⟨Nat.le_of_ble_eq_true rfl, Nat.le_of_ble_eq_true rfl⟩) hD hS hA (fun H locs hP hD hS => ?_)
        refine lv_iload_n hx hb dX7_order_56 rfl (lv_at hl 1 rfl) ?_
        refine lv_icmp_ne (tgt := 72) hx hb dX7_order_57 (by decide) (fun c_ => ?_) (fun c_ => ?_)
        · have hE := im c_ hE
          refine lv_iinc (v := (v32.2.2 + (1 : Int32))) (lv' := [(5, .int (v32.2.2 + (1 : Int32))), (0, .ref (aD G 43)), (1, .int x1), (2, .int x2), (3, .int v32.1), (4, .int v32.2.1)]) hx hb dX7_order_72 hl (k := 5) rfl rfl (by decide) rfl (fun ls hl => ?_)
          refine lv_goto (tgt := 32) hx hb dX7_order_75 (by decide) ?_
          exact hN32 _ (Option.some.inj hE).symm _ _ _ hP hD hS (lv_sub hl [1, 2, 3, 4, 5, 0] rfl)
        · have hE := ip c_ hE
          refine lv_aload_n hx hb dX7_order_60 rfl (lv_at hl 0 rfl) ?_
          refine va_get (ci := 7) (v := .ref (aD G 36)) (C := RX7) (T := TX7) (N := 17) hx hb hts (fun _ h => List.mem_cons_of_mem _ (List.mem_append_right _ h)) hown hK hP 13 rfl rfl 9 (by decide) (hts (.fieldLink RX7 28 "FillCellsModel" "sums" "[I") (List.mem_of_getElem? (i := 1) rfl)) (fun _ h9 => h9) rfl dX7_order_61 ?_
          refine lv_iload hx hb dX7_order_64 (lv_at hl 5 rfl) ?_
          obtain ⟨h_i, hE⟩ := gd_some hE
          refine ldM hx hb hK hP 6 (by decide) h_i dX7_order_66 ?_
          refine lv_istore (lv' := [(4, .int (rd σ 6 v32.2.2)), (0, .ref (aD G 43)), (1, .int x1), (2, .int x2), (3, .int v32.1), (5, .int v32.2.2)]) hx hb dX7_order_67 hl (by decide) rfl (fun ls hl => ?_)
          refine lv_iinc (v := (v32.1 + (1 : Int32))) (lv' := [(3, .int (v32.1 + (1 : Int32))), (4, .int (rd σ 6 v32.2.2)), (0, .ref (aD G 43)), (1, .int x1), (2, .int x2), (5, .int v32.2.2)]) hx hb dX7_order_69 hl (k := 4) rfl rfl (by decide) rfl (fun ls hl => ?_)
          refine lv_iinc (v := (v32.2.2 + (1 : Int32))) (lv' := [(5, .int (v32.2.2 + (1 : Int32))), (3, .int (v32.1 + (1 : Int32))), (4, .int (rd σ 6 v32.2.2)), (0, .ref (aD G 43)), (1, .int x1), (2, .int x2)]) hx hb dX7_order_72 hl (k := 5) rfl rfl (by decide) rfl (fun ls hl => ?_)
          refine lv_goto (tgt := 32) hx hb dX7_order_75 (by decide) ?_
          exact hN32 _ (Option.some.inj hE).symm _ _ _ hP hD hS (lv_sub hl [3, 4, 5, 1, 2, 0] rfl)
  refine lv_iload_n hx hb dX7_order_0 rfl (lv_at hl 1 rfl) ?_
  refine lv_if_lt (tgt := 13) hx hb dX7_order_1 (by decide) (fun c_ => ?_) (fun c_ => ?_)
  · have hE := ip c_ hE
    exact J_13 σ _ _ _ hP hD hS (lv_sub hl [0] rfl) hE
  · have hE := im c_ hE
    refine lv_iload_n hx hb dX7_order_4 rfl (lv_at hl 2 rfl) ?_
    refine lv_iconst (v := (0 : Int32)) hx hb dX7_order_5 (by decide) ?_
    refine lv_iconst (v := (1 : Int32)) hx hb dX7_order_6 (by decide) ?_
    obtain ⟨r2, hC, hE⟩ := bnd_some hE
    refine ci (va_runS (As := [.int x2, .int (0 : Int32), .int (1 : Int32)]) (rest := []) ⟨hx, hb, hml, hown, hts⟩ (c_X7_in l G x2 (0 : Int32) (1 : Int32) σ r2 hC _) (va_cwS 3 hts gX7_order_X7_in rfl rfl rfl (by decide +kernel) ⟨Nat.le_of_ble_eq_true rfl, Nat.le_of_ble_eq_true rfl⟩) (preS hK hP hD hS hA hX) rfl rfl hl.1 rfl (lv_room (Nat.le_of_ble_eq_true rfl)) dX7_order_7 ⟨Nat.le_of_ble_eq_true rfl, Nat.le_of_ble_eq_true rfl⟩) hD hS hA (fun H locs hP hD hS => ?_)
    refine lv_if_ne (tgt := 20) hx hb dX7_order_10 (by decide) (fun c_ => ?_) (fun c_ => ?_)
    · have hE := im c_ hE
      refine lv_aload_n hx hb dX7_order_20 rfl (lv_at hl 0 rfl) ?_
      obtain ⟨r3, hC, hE⟩ := bnd_some hE
      refine cv (va_runV (As := []) (rest := []) ⟨hx, hb, hml, hown, hts⟩ (c_X7_laysSums l G σ r3 hC _) (cwV 0 hts gX7_order_X7_laysSums rfl rfl rfl (by decide +kernel) ⟨Nat.le_of_ble_eq_true rfl, Nat.le_of_ble_eq_true rfl⟩) (preV hK hP hD hS hA hX (va_recv hK hP (ci := 7) (q0 := 13) rfl rfl)) rfl rfl hl.1 rfl (lv_room (Nat.le_of_ble_eq_true rfl)) dX7_order_21 ⟨Nat.le_of_ble_eq_true rfl, Nat.le_of_ble_eq_true rfl⟩) hD hS hA (fun H locs hP hD hS => ?_)
      refine lv_iconst (v := (0 : Int32)) hx hb dX7_order_24 (by decide) ?_
      refine lv_istore_n (lv' := [(3, .int (0 : Int32)), (0, .ref (aD G 43)), (1, .int x1), (2, .int x2)]) hx hb dX7_order_25 rfl hl (by decide) rfl (fun ls hl => ?_)
      refine lv_iconst (v := (-1 : Int32)) hx hb dX7_order_26 (by decide) ?_
      refine lv_istore (lv' := [(4, .int (-1 : Int32)), (3, .int (0 : Int32)), (0, .ref (aD G 43)), (1, .int x1), (2, .int x2)]) hx hb dX7_order_27 hl (by decide) rfl (fun ls hl => ?_)
      refine lv_iconst (v := (0 : Int32)) hx hb dX7_order_29 (by decide) ?_
      refine lv_istore (lv' := [(5, .int (0 : Int32)), (4, .int (-1 : Int32)), (3, .int (0 : Int32)), (0, .ref (aD G 43)), (1, .int x1), (2, .int x2)]) hx hb dX7_order_30 hl (by decide) rfl (fun ls hl => ?_)
      exact J_32 (0 : Int32) (-1 : Int32) (0 : Int32) r3 _ _ _ hP hD hS (lv_sub hl [3, 4, 5, 2, 1, 0] rfl) hE
    · have hE := ip c_ hE
      exact J_13 σ _ _ _ hP hD hS (lv_sub hl [0] rfl) hE
abbrev rmX7_turn : Room := { frames := 2, cells := 0, slots := 0, locals := 44 }
def f_X7_turn_J83 (x1 : Int32) (x2 : Int32) (x3 : Int32) (x4 : Int32) (σ : St) : Option (((Int32)) ⊕ (Int32 × Int32)) := if x4 = x1 then (some (.inr (x3, (x3 + (1 : Int32))))) else (some (.inr (x2, (x3 + (1 : Int32)))))
def f_X7_turn_J74 (x1 : Int32) (x2 : Int32) (x3 : Int32) (x5 : Int32) (t0 : Int32) (t1 : Int32) (σ : St) : Option (((Int32)) ⊕ (Int32 × Int32)) := some (.inr ((t1 + t0), (x5 + (1 : Int32))))
def f_X7_turn_L45 (x1 : Int32) (x2 : Int32) (x3 : Int32) (σ : St) (v45 : Int32 × Int32) : Option (((Int32)) ⊕ (Int32 × Int32)) := if x3 ≤ v45.2 then (some (.inl (v45.1))) else (gd v45.2 80 (gd x3 80 (if (rd σ 6 v45.2) = (rd σ 6 x3) then (f_X7_turn_J74 x1 x2 x3 v45.2 (1 : Int32) v45.1 σ) else (f_X7_turn_J74 x1 x2 x3 v45.2 (0 : Int32) v45.1 σ))))
def f_X7_turn_J45 (x1 : Int32) (x2 : Int32) (x3 : Int32) (x4 : Int32) (x5 : Int32) (σ : St) : Option (((Int32)) ⊕ (Int32 × Int32)) := bnd (loopN (f_X7_turn_L45 x1 x2 x3 σ) 4096 (x4, x5)) (fun y45 => f_X7_turn_J83 x1 x2 x3 y45 σ)
def f_X7_turn_L19 (x1 : Int32) (σ : St) (v19 : Int32 × Int32) : Option (((Int32)) ⊕ (Int32 × Int32)) := if (80 : Int32) ≤ v19.2 then (some (.inl (v19.1))) else (gd v19.2 80 (if (rd σ 6 v19.2) < 0 then (some (.inr (v19.1, (v19.2 + (1 : Int32))))) else (bnd (f_X7_lessThan v19.2 (0 : Int32) σ) (fun r2 => f_X7_turn_J45 x1 v19.1 v19.2 r2 (0 : Int32) σ))))
def f_X7_turn_J19 (x1 : Int32) (x2 : Int32) (x3 : Int32) (σ : St) : Option (Int32 × St) := bnd (loopN (f_X7_turn_L19 x1 σ) 4096 (x2, x3)) (fun y19 => some (y19, σ))
def f_X7_turn (x1 : Int32) (σ : St) : Option (Int32 × St) := if 0 ≤ x1 then (bnd (f_X7_laysSums σ) (fun r1 => f_X7_turn_J19 x1 (-1 : Int32) (0 : Int32) r1)) else (bnd (f_X7_refuses (-2 : Int32) σ) (fun r3 => some (r3.1, r3.2)))
set_option maxHeartbeats 4000000 in
set_option maxRecDepth 100000 in
theorem c_X7_turn (l : Launch) (G : EV)  (x1 : Int32) (σ : St) (r : (Int32 × St)) (hE : f_X7_turn x1 σ = some r) : MetI l G yX7_turn wsX7_turn rmX7_turn [.ref (aD G 43), .int x1] (wM G σ) r.1 (wM G r.2) := by
  refine Met.of0 (Qf := PI G r.1 (wM G r.2)) (cc := cX7_turn) (maxL := 6) (ret := (some .int)) (by decide) rfl (Nat.le_of_ble_eq_true rfl) ?_
  intro p e s m below meth c args A hx hb hr hts hown hlocks hml hin0 hA hS hP hK hD hX ls hl
  have hl : lv_has ls 6 [(0, .ref (aD G 43)), (1, .int x1)] := hl
  generalize hQ : MQ below (PI G r.1 (wM G r.2) A) args s 0 0 A = Q
  unfold f_X7_turn at hE
  have J_19 : ∀ (x2 : Int32) (x3 : Int32) (σ : St) (H : Heap) (locs : List Loc) (ls : Array Slot), va_P G.1 vwCl (wM G σ) H → va_D A (wM G σ) → va_S A s.heap H locs → lv_has ls 6 [(0, .ref (aD G 43)), (1, .int x1), (2, .int x2), (3, .int x3)] → f_X7_turn_J19 x1 x2 x3 σ = some r → W p l e rmX7_turn s m args below meth c H locs 0 0 Q (F0 m 19 ls []) := by
    intro x2 x3 σ H locs ls hP hD hS hl hE
    unfold f_X7_turn_J19 at hE
    obtain ⟨y19, hL, hE19⟩ := bnd_some hE
    refine loop_W (body := f_X7_turn_L19 x1 σ) (y := y19) (P := fun v19 => ∀ (H : Heap) (locs : List Loc) (ls : Array Slot), va_P G.1 vwCl (wM G σ) H → va_D A (wM G σ) → va_S A s.heap H locs → lv_has ls 6 [(0, .ref (aD G 43)), (1, .int x1), (2, .int v19.1), (3, .int v19.2)] → W p l e rmX7_turn s m args below meth c H locs 0 0 Q (F0 m 19 ls [])) ?_ _ _ hL H locs ls hP hD hS hl
    clear hP hD hS hl hE hL
    intro v19 t19 hE hN19 hY19
    intro H locs ls hP hD hS hl
    unfold f_X7_turn_L19 at hE
    have J_83 : ∀ (x2 : Int32) (x3 : Int32) (x4 : Int32) (H : Heap) (locs : List Loc) (ls : Array Slot), va_P G.1 vwCl (wM G σ) H → va_D A (wM G σ) → va_S A s.heap H locs → lv_has ls 6 [(0, .ref (aD G 43)), (1, .int x1), (2, .int x2), (3, .int x3), (4, .int x4)] → f_X7_turn_J83 x1 x2 x3 x4 σ = some t19 → W p l e rmX7_turn s m args below meth c H locs 0 0 Q (F0 m 83 ls []) := by
      intro x2 x3 x4 H locs ls hP hD hS hl hE
      unfold f_X7_turn_J83 at hE
      refine lv_iload hx hb dX7_turn_83 (lv_at hl 4 rfl) ?_
      refine lv_iload_n hx hb dX7_turn_85 rfl (lv_at hl 1 rfl) ?_
      refine lv_icmp_ne (tgt := 93) hx hb dX7_turn_86 (by decide) (fun c_ => ?_) (fun c_ => ?_)
      · have hE := im c_ hE
        refine lv_iload_n hx hb dX7_turn_93 rfl (lv_at hl 2 rfl) ?_
        refine lv_istore_n (lv' := [(2, .int x2), (0, .ref (aD G 43)), (1, .int x1), (3, .int x3), (4, .int x4)]) hx hb dX7_turn_94 rfl hl (by decide) rfl (fun ls hl => ?_)
        refine lv_iinc (v := (x3 + (1 : Int32))) (lv' := [(3, .int (x3 + (1 : Int32))), (2, .int x2), (0, .ref (aD G 43)), (1, .int x1), (4, .int x4)]) hx hb dX7_turn_95 hl (k := 3) rfl rfl (by decide) rfl (fun ls hl => ?_)
        refine lv_goto (tgt := 19) hx hb dX7_turn_98 (by decide) ?_
        exact hN19 _ (Option.some.inj hE).symm _ _ _ hP hD hS (lv_sub hl [2, 3, 1, 0] rfl)
      · have hE := ip c_ hE
        refine lv_iload_n hx hb dX7_turn_89 rfl (lv_at hl 3 rfl) ?_
        refine lv_goto (tgt := 94) hx hb dX7_turn_90 (by decide) ?_
        refine lv_istore_n (lv' := [(2, .int x3), (0, .ref (aD G 43)), (1, .int x1), (3, .int x3), (4, .int x4)]) hx hb dX7_turn_94 rfl hl (by decide) rfl (fun ls hl => ?_)
        refine lv_iinc (v := (x3 + (1 : Int32))) (lv' := [(3, .int (x3 + (1 : Int32))), (2, .int x3), (0, .ref (aD G 43)), (1, .int x1), (4, .int x4)]) hx hb dX7_turn_95 hl (k := 3) rfl rfl (by decide) rfl (fun ls hl => ?_)
        refine lv_goto (tgt := 19) hx hb dX7_turn_98 (by decide) ?_
        exact hN19 _ (Option.some.inj hE).symm _ _ _ hP hD hS (lv_sub hl [2, 3, 1, 0] rfl)
    have J_45 : ∀ (x2 : Int32) (x3 : Int32) (x4 : Int32) (x5 : Int32) (H : Heap) (locs : List Loc) (ls : Array Slot), va_P G.1 vwCl (wM G σ) H → va_D A (wM G σ) → va_S A s.heap H locs → lv_has ls 6 [(0, .ref (aD G 43)), (1, .int x1), (2, .int x2), (3, .int x3), (4, .int x4), (5, .int x5)] → f_X7_turn_J45 x1 x2 x3 x4 x5 σ = some t19 → W p l e rmX7_turn s m args below meth c H locs 0 0 Q (F0 m 45 ls []) := by
      intro x2 x3 x4 x5 H locs ls hP hD hS hl hE
      unfold f_X7_turn_J45 at hE
      obtain ⟨y45, hL, hE45⟩ := bnd_some hE
      refine loop_W (body := f_X7_turn_L45 x1 x2 x3 σ) (y := y45) (P := fun v45 => ∀ (H : Heap) (locs : List Loc) (ls : Array Slot), va_P G.1 vwCl (wM G σ) H → va_D A (wM G σ) → va_S A s.heap H locs → lv_has ls 6 [(0, .ref (aD G 43)), (1, .int x1), (2, .int x2), (3, .int x3), (4, .int v45.1), (5, .int v45.2)] → W p l e rmX7_turn s m args below meth c H locs 0 0 Q (F0 m 45 ls [])) ?_ _ _ hL H locs ls hP hD hS hl
      clear hP hD hS hl hE hL
      intro v45 t45 hE hN45 hY45
      intro H locs ls hP hD hS hl
      unfold f_X7_turn_L45 at hE
      have J_74 : ∀ (x5 : Int32) (t0 : Int32) (t1 : Int32) (H : Heap) (locs : List Loc) (ls : Array Slot), va_P G.1 vwCl (wM G σ) H → va_D A (wM G σ) → va_S A s.heap H locs → lv_has ls 6 [(0, .ref (aD G 43)), (1, .int x1), (2, .int x2), (3, .int x3), (5, .int x5)] → f_X7_turn_J74 x1 x2 x3 x5 t0 t1 σ = some t45 → W p l e rmX7_turn s m args below meth c H locs 0 0 Q (F0 m 74 ls [.int t0, .int t1]) := by
        intro x5 t0 t1 H locs ls hP hD hS hl hE
        unfold f_X7_turn_J74 at hE
        refine lv_iadd hx hb dX7_turn_74 ?_
        refine lv_istore (lv' := [(4, .int (t1 + t0)), (0, .ref (aD G 43)), (1, .int x1), (2, .int x2), (3, .int x3), (5, .int x5)]) hx hb dX7_turn_75 hl (by decide) rfl (fun ls hl => ?_)
        refine lv_iinc (v := (x5 + (1 : Int32))) (lv' := [(5, .int (x5 + (1 : Int32))), (4, .int (t1 + t0)), (0, .ref (aD G 43)), (1, .int x1), (2, .int x2), (3, .int x3)]) hx hb dX7_turn_77 hl (k := 5) rfl rfl (by decide) rfl (fun ls hl => ?_)
        refine lv_goto (tgt := 45) hx hb dX7_turn_80 (by decide) ?_
        exact hN45 _ (Option.some.inj hE).symm _ _ _ hP hD hS (lv_sub hl [2, 3, 4, 5, 1, 0] rfl)
      refine lv_iload hx hb dX7_turn_45 (lv_at hl 5 rfl) ?_
      refine lv_iload_n hx hb dX7_turn_47 rfl (lv_at hl 3 rfl) ?_
      refine lv_icmp_ge (tgt := 83) hx hb dX7_turn_48 (by decide) (fun c_ => ?_) (fun c_ => ?_)
      · have hE := ip c_ hE
        have e9 := hY45 _ (Option.some.inj hE).symm
        have hE := hE45
        rw [← e9] at hE
        exact J_83 x2 x3 v45.1 _ _ _ hP hD hS (lv_sub hl [0, 1, 2, 3, 4] rfl) hE
      · have hE := im c_ hE
        refine lv_iload hx hb dX7_turn_51 (lv_at hl 4 rfl) ?_
        refine lv_aload_n hx hb dX7_turn_53 rfl (lv_at hl 0 rfl) ?_
        refine va_get (ci := 7) (v := .ref (aD G 36)) (C := RX7) (T := TX7) (N := 17) hx hb hts (fun _ h => List.mem_cons_of_mem _ (List.mem_append_right _ h)) hown hK hP 13 rfl rfl 9 (by decide) (hts (.fieldLink RX7 28 "FillCellsModel" "sums" "[I") (List.mem_of_getElem? (i := 1) rfl)) (fun _ h9 => h9) rfl dX7_turn_54 ?_
        refine lv_iload hx hb dX7_turn_57 (lv_at hl 5 rfl) ?_
        obtain ⟨h_i, hE⟩ := gd_some hE
        refine ldM hx hb hK hP 6 (by decide) h_i dX7_turn_59 ?_
        refine lv_aload_n hx hb dX7_turn_60 rfl (lv_at hl 0 rfl) ?_
        refine va_get (ci := 7) (v := .ref (aD G 36)) (C := RX7) (T := TX7) (N := 17) hx hb hts (fun _ h => List.mem_cons_of_mem _ (List.mem_append_right _ h)) hown hK hP 13 rfl rfl 9 (by decide) (hts (.fieldLink RX7 28 "FillCellsModel" "sums" "[I") (List.mem_of_getElem? (i := 1) rfl)) (fun _ h9 => h9) rfl dX7_turn_61 ?_
        refine lv_iload_n hx hb dX7_turn_64 rfl (lv_at hl 3 rfl) ?_
        obtain ⟨h_i, hE⟩ := gd_some hE
        refine ldM hx hb hK hP 6 (by decide) h_i dX7_turn_65 ?_
        refine lv_icmp_ne (tgt := 73) hx hb dX7_turn_66 (by decide) (fun c_ => ?_) (fun c_ => ?_)
        · have hE := im c_ hE
          refine lv_iconst (v := (0 : Int32)) hx hb dX7_turn_73 (by decide) ?_
          exact J_74 v45.2 (0 : Int32) v45.1 _ _ _ hP hD hS (lv_sub hl [0, 1, 2, 3, 5] rfl) hE
        · have hE := ip c_ hE
          refine lv_iconst (v := (1 : Int32)) hx hb dX7_turn_69 (by decide) ?_
          refine lv_goto (tgt := 74) hx hb dX7_turn_70 (by decide) ?_
          exact J_74 v45.2 (1 : Int32) v45.1 _ _ _ hP hD hS (lv_sub hl [0, 1, 2, 3, 5] rfl) hE
    refine lv_iload_n hx hb dX7_turn_19 rfl (lv_at hl 3 rfl) ?_
    refine lv_bipush (v := (80 : Int32)) hx hb dX7_turn_20 (by decide) ?_
    refine lv_icmp_ge (tgt := 101) hx hb dX7_turn_22 (by decide) (fun c_ => ?_) (fun c_ => ?_)
    · have hE := ip c_ hE
      have e9 := hY19 _ (Option.some.inj hE).symm
      have hE := hE19
      rw [← e9] at hE
      refine lv_iload_n hx hb dX7_turn_101 rfl (lv_at hl 2 rfl) ?_
      rw [← hQ, ← Option.some.inj hE]
      exact ri hx hb hr hlocks hK hP hD hS dX7_turn_102
    · have hE := im c_ hE
      refine lv_aload_n hx hb dX7_turn_25 rfl (lv_at hl 0 rfl) ?_
      refine va_get (ci := 7) (v := .ref (aD G 36)) (C := RX7) (T := TX7) (N := 17) hx hb hts (fun _ h => List.mem_cons_of_mem _ (List.mem_append_right _ h)) hown hK hP 13 rfl rfl 9 (by decide) (hts (.fieldLink RX7 28 "FillCellsModel" "sums" "[I") (List.mem_of_getElem? (i := 1) rfl)) (fun _ h9 => h9) rfl dX7_turn_26 ?_
      refine lv_iload_n hx hb dX7_turn_29 rfl (lv_at hl 3 rfl) ?_
      obtain ⟨h_i, hE⟩ := gd_some hE
      refine ldM hx hb hK hP 6 (by decide) h_i dX7_turn_30 ?_
      refine lv_if_lt (tgt := 95) hx hb dX7_turn_31 (by decide) (fun c_ => ?_) (fun c_ => ?_)
      · have hE := ip c_ hE
        refine lv_iinc (v := (v19.2 + (1 : Int32))) (lv' := [(3, .int (v19.2 + (1 : Int32))), (0, .ref (aD G 43)), (1, .int x1), (2, .int v19.1)]) hx hb dX7_turn_95 hl (k := 3) rfl rfl (by decide) rfl (fun ls hl => ?_)
        refine lv_goto (tgt := 19) hx hb dX7_turn_98 (by decide) ?_
        exact hN19 _ (Option.some.inj hE).symm _ _ _ hP hD hS (lv_sub hl [1, 2, 3, 0] rfl)
      · have hE := im c_ hE
        refine lv_aload_n hx hb dX7_turn_34 rfl (lv_at hl 0 rfl) ?_
        refine lv_iload_n hx hb dX7_turn_35 rfl (lv_at hl 3 rfl) ?_
        refine lv_iconst (v := (0 : Int32)) hx hb dX7_turn_36 (by decide) ?_
        obtain ⟨r2, hC, hE⟩ := bnd_some hE
        refine ci (va_runV (As := [.int v19.2, .int (0 : Int32)]) (rest := []) ⟨hx, hb, hml, hown, hts⟩ (c_X7_lessThan l G v19.2 (0 : Int32) σ r2 hC _) (cwV 2 hts gX7_turn_X7_lessThan rfl rfl rfl (by decide +kernel) ⟨Nat.le_of_ble_eq_true rfl, Nat.le_of_ble_eq_true rfl⟩) (preV hK hP hD hS hA hX (va_recv hK hP (ci := 7) (q0 := 13) rfl rfl)) rfl rfl hl.1 rfl (lv_room (Nat.le_of_ble_eq_true rfl)) dX7_turn_37 ⟨Nat.le_of_ble_eq_true rfl, Nat.le_of_ble_eq_true rfl⟩) hD hS hA (fun H locs hP hD hS => ?_)
        refine lv_istore (lv' := [(4, .int r2), (0, .ref (aD G 43)), (1, .int x1), (2, .int v19.1), (3, .int v19.2)]) hx hb dX7_turn_40 hl (by decide) rfl (fun ls hl => ?_)
        refine lv_iconst (v := (0 : Int32)) hx hb dX7_turn_42 (by decide) ?_
        refine lv_istore (lv' := [(5, .int (0 : Int32)), (4, .int r2), (0, .ref (aD G 43)), (1, .int x1), (2, .int v19.1), (3, .int v19.2)]) hx hb dX7_turn_43 hl (by decide) rfl (fun ls hl => ?_)
        exact J_45 v19.1 v19.2 r2 (0 : Int32) _ _ _ hP hD hS (lv_sub hl [2, 3, 4, 5, 1, 0] rfl) hE
  refine lv_iload_n hx hb dX7_turn_0 rfl (lv_at hl 1 rfl) ?_
  refine lv_if_ge (tgt := 11) hx hb dX7_turn_1 (by decide) (fun c_ => ?_) (fun c_ => ?_)
  · have hE := ip c_ hE
    refine lv_aload_n hx hb dX7_turn_11 rfl (lv_at hl 0 rfl) ?_
    obtain ⟨r1, hC, hE⟩ := bnd_some hE
    refine cv (va_runV (As := []) (rest := []) ⟨hx, hb, hml, hown, hts⟩ (c_X7_laysSums l G σ r1 hC _) (cwV 0 hts gX7_turn_X7_laysSums rfl rfl rfl (by decide +kernel) ⟨Nat.le_of_ble_eq_true rfl, Nat.le_of_ble_eq_true rfl⟩) (preV hK hP hD hS hA hX (va_recv hK hP (ci := 7) (q0 := 13) rfl rfl)) rfl rfl hl.1 rfl (lv_room (Nat.le_of_ble_eq_true rfl)) dX7_turn_12 ⟨Nat.le_of_ble_eq_true rfl, Nat.le_of_ble_eq_true rfl⟩) hD hS hA (fun H locs hP hD hS => ?_)
    refine lv_iconst (v := (-1 : Int32)) hx hb dX7_turn_15 (by decide) ?_
    refine lv_istore_n (lv' := [(2, .int (-1 : Int32)), (0, .ref (aD G 43)), (1, .int x1)]) hx hb dX7_turn_16 rfl hl (by decide) rfl (fun ls hl => ?_)
    refine lv_iconst (v := (0 : Int32)) hx hb dX7_turn_17 (by decide) ?_
    refine lv_istore_n (lv' := [(3, .int (0 : Int32)), (2, .int (-1 : Int32)), (0, .ref (aD G 43)), (1, .int x1)]) hx hb dX7_turn_18 rfl hl (by decide) rfl (fun ls hl => ?_)
    exact J_19 (-1 : Int32) (0 : Int32) r1 _ _ _ hP hD hS (lv_sub hl [2, 3, 1, 0] rfl) hE
  · have hE := im c_ hE
    refine lv_aload_n hx hb dX7_turn_4 rfl (lv_at hl 0 rfl) ?_
    refine lv_bipush (v := (-2 : Int32)) hx hb dX7_turn_5 (by decide) ?_
    obtain ⟨r3, hC, hE⟩ := bnd_some hE
    refine ci (va_runV (As := [.int (-2 : Int32)]) (rest := []) ⟨hx, hb, hml, hown, hts⟩ (c_X7_refuses l G (-2 : Int32) σ r3 hC _) (cwV 1 hts gX7_turn_X7_refuses rfl rfl rfl (by decide +kernel) ⟨Nat.le_of_ble_eq_true rfl, Nat.le_of_ble_eq_true rfl⟩) (preV hK hP hD hS hA hX (va_recv hK hP (ci := 7) (q0 := 13) rfl rfl)) rfl rfl hl.1 rfl (lv_room (Nat.le_of_ble_eq_true rfl)) dX7_turn_7 ⟨Nat.le_of_ble_eq_true rfl, Nat.le_of_ble_eq_true rfl⟩) hD hS hA (fun H locs hP hD hS => ?_)
    rw [← hQ, ← Option.some.inj hE]
    exact ri hx hb hr hlocks hK hP hD hS dX7_turn_10
abbrev rmX7_burden : Room := { frames := 3, cells := 0, slots := 0, locals := 67 }

def f_X7_burden (x1 : Int32) (σ : St) : Option (Int32 × St) := bnd (f_X7_laysBurdens σ) (fun r1 => bnd (f_X7_in x1 (1 : Int32) (3 : Int32)) (fun r2 => if r2 = 0 then (bnd (f_X7_refuses (-2 : Int32) r1) (fun r3 => some (r3.1, r3.2))) else (gd x1 4 (some ((rd r1 10 x1), r1)))))
set_option maxHeartbeats 4000000 in
set_option maxRecDepth 100000 in
theorem c_X7_burden (l : Launch) (G : EV)  (x1 : Int32) (σ : St) (r : (Int32 × St)) (hE : f_X7_burden x1 σ = some r) : MetI l G yX7_burden wsX7_burden rmX7_burden [.ref (aD G 43), .int x1] (wM G σ) r.1 (wM G r.2) := by
  refine Met.of0 (Qf := PI G r.1 (wM G r.2)) (cc := cX7_burden) (maxL := 2) (ret := (some .int)) (by decide) rfl (Nat.le_of_ble_eq_true rfl) ?_
  intro p e s m below meth c args A hx hb hr hts hown hlocks hml hin0 hA hS hP hK hD hX ls hl
  have hl : lv_has ls 2 [(0, .ref (aD G 43)), (1, .int x1)] := hl
  generalize hQ : MQ below (PI G r.1 (wM G r.2) A) args s 0 0 A = Q
  unfold f_X7_burden at hE
  refine lv_aload_n hx hb dX7_burden_0 rfl (lv_at hl 0 rfl) ?_
  obtain ⟨r1, hC, hE⟩ := bnd_some hE
  refine cv (va_runV (As := []) (rest := []) ⟨hx, hb, hml, hown, hts⟩ (c_X7_laysBurdens l G σ r1 hC _) (cwV 0 hts gX7_burden_X7_laysBurdens rfl rfl rfl (by decide +kernel) ⟨Nat.le_of_ble_eq_true rfl, Nat.le_of_ble_eq_true rfl⟩) (preV hK hP hD hS hA hX (va_recv hK hP (ci := 7) (q0 := 13) rfl rfl)) rfl rfl hl.1 rfl (lv_room (Nat.le_of_ble_eq_true rfl)) dX7_burden_1 ⟨Nat.le_of_ble_eq_true rfl, Nat.le_of_ble_eq_true rfl⟩) hD hS hA (fun H locs hP hD hS => ?_)
  refine lv_iload_n hx hb dX7_burden_4 rfl (lv_at hl 1 rfl) ?_
  refine lv_iconst (v := (1 : Int32)) hx hb dX7_burden_5 (by decide) ?_
  refine lv_iconst (v := (3 : Int32)) hx hb dX7_burden_6 (by decide) ?_
  obtain ⟨r2, hC, hE⟩ := bnd_some hE
  refine ci (va_runS (As := [.int x1, .int (1 : Int32), .int (3 : Int32)]) (rest := []) ⟨hx, hb, hml, hown, hts⟩ (c_X7_in l G x1 (1 : Int32) (3 : Int32) r1 r2 hC _) (va_cwS 3 hts gX7_burden_X7_in rfl rfl rfl (by decide +kernel) ⟨Nat.le_of_ble_eq_true rfl, Nat.le_of_ble_eq_true rfl⟩) (preS hK hP hD hS hA hX) rfl rfl hl.1 rfl (lv_room (Nat.le_of_ble_eq_true rfl)) dX7_burden_7 ⟨Nat.le_of_ble_eq_true rfl, Nat.le_of_ble_eq_true rfl⟩) hD hS hA (fun H locs hP hD hS => ?_)
  refine lv_if_eq (tgt := 22) hx hb dX7_burden_10 (by decide) (fun c_ => ?_) (fun c_ => ?_)
  · have hE := ip c_ hE
    refine lv_aload_n hx hb dX7_burden_22 rfl (lv_at hl 0 rfl) ?_
    refine lv_bipush (v := (-2 : Int32)) hx hb dX7_burden_23 (by decide) ?_
    obtain ⟨r3, hC, hE⟩ := bnd_some hE
    refine ci (va_runV (As := [.int (-2 : Int32)]) (rest := []) ⟨hx, hb, hml, hown, hts⟩ (c_X7_refuses l G (-2 : Int32) r1 r3 hC _) (cwV 1 hts gX7_burden_X7_refuses rfl rfl rfl (by decide +kernel) ⟨Nat.le_of_ble_eq_true rfl, Nat.le_of_ble_eq_true rfl⟩) (preV hK hP hD hS hA hX (va_recv hK hP (ci := 7) (q0 := 13) rfl rfl)) rfl rfl hl.1 rfl (lv_room (Nat.le_of_ble_eq_true rfl)) dX7_burden_25 ⟨Nat.le_of_ble_eq_true rfl, Nat.le_of_ble_eq_true rfl⟩) hD hS hA (fun H locs hP hD hS => ?_)
    rw [← hQ, ← Option.some.inj hE]
    exact ri hx hb hr hlocks hK hP hD hS dX7_burden_28
  · have hE := im c_ hE
    refine lv_aload_n hx hb dX7_burden_13 rfl (lv_at hl 0 rfl) ?_
    refine va_get (ci := 7) (v := .ref (aD G 40)) (C := RX7) (T := TX7) (N := 17) hx hb hts (fun _ h => List.mem_cons_of_mem _ (List.mem_append_right _ h)) hown hK hP 13 rfl rfl 14 (by decide) (hts (.fieldLink RX7 40 "FillCellsModel" "burdens" "[I") (List.mem_of_getElem? (i := 1) rfl)) (fun _ h9 => h9) rfl dX7_burden_14 ?_
    refine lv_iload_n hx hb dX7_burden_17 rfl (lv_at hl 1 rfl) ?_
    obtain ⟨h_i, hE⟩ := gd_some hE
    refine ldM hx hb hK hP 10 (by decide) h_i dX7_burden_18 ?_
    refine lv_goto (tgt := 28) hx hb dX7_burden_19 (by decide) ?_
    rw [← hQ, ← Option.some.inj hE]
    exact ri hx hb hr hlocks hK hP hD hS dX7_burden_28
abbrev rmX7_all : Room := { frames := 1, cells := 0, slots := 0, locals := 22 }
def f_X7_all_J93 (x1 : Int32) (x3 : Int32) (t0 : Int32) (t1 : Int32) (σ : St) : Option (((Int32)) ⊕ (Int32 × Int32)) := some (.inr ((t1 + t0), (x3 + (1 : Int32))))
def f_X7_all_L20 (x1 : Int32) (σ : St) (v20 : Int32 × Int32) : Option (((Int32)) ⊕ (Int32 × Int32)) := if (80 : Int32) ≤ v20.2 then (some (.inl (v20.1))) else (if x1 = 0 then (gd ((320 : Int32) + v20.2) 400 (f_X7_all_J93 x1 v20.2 (rd σ 0 ((320 : Int32) + v20.2)) v20.1 σ)) else (if x1 = (1 : Int32) then (gd v20.2 400 (f_X7_all_J93 x1 v20.2 (rd σ 0 v20.2) v20.1 σ)) else (if x1 = (2 : Int32) then (gd ((320 : Int32) + v20.2) 400 (if (rd σ 0 ((320 : Int32) + v20.2)) ≤ 0 then (f_X7_all_J93 x1 v20.2 (0 : Int32) v20.1 σ) else (f_X7_all_J93 x1 v20.2 (1 : Int32) v20.1 σ))) else (gd ((80 : Int32) + v20.2) 400 (f_X7_all_J93 x1 v20.2 (rd σ 0 ((80 : Int32) + v20.2)) v20.1 σ)))))
def f_X7_all_J20 (x1 : Int32) (x2 : Int32) (x3 : Int32) (σ : St) : Option (Int32 × St) := bnd (loopN (f_X7_all_L20 x1 σ) 4096 (x2, x3)) (fun y20 => some (y20, σ))
def f_X7_all (x1 : Int32) (σ : St) : Option (Int32 × St) := bnd (f_X7_in x1 (0 : Int32) (3 : Int32)) (fun r1 => if r1 = 0 then (bnd (f_X7_refuses (-2 : Int32) σ) (fun r2 => some (r2.1, r2.2))) else (f_X7_all_J20 x1 (0 : Int32) (0 : Int32) σ))
set_option maxHeartbeats 4000000 in
set_option maxRecDepth 100000 in
theorem c_X7_all (l : Launch) (G : EV)  (x1 : Int32) (σ : St) (r : (Int32 × St)) (hE : f_X7_all x1 σ = some r) : MetI l G yX7_all wsX7_all rmX7_all [.ref (aD G 43), .int x1] (wM G σ) r.1 (wM G r.2) := by
  refine Met.of0 (Qf := PI G r.1 (wM G r.2)) (cc := cX7_all) (maxL := 4) (ret := (some .int)) (by decide) rfl (Nat.le_of_ble_eq_true rfl) ?_
  intro p e s m below meth c args A hx hb hr hts hown hlocks hml hin0 hA hS hP hK hD hX ls hl
  have hl : lv_has ls 4 [(0, .ref (aD G 43)), (1, .int x1)] := hl
  generalize hQ : MQ below (PI G r.1 (wM G r.2) A) args s 0 0 A = Q
  unfold f_X7_all at hE
  have J_20 : ∀ (x2 : Int32) (x3 : Int32) (σ : St) (H : Heap) (locs : List Loc) (ls : Array Slot), va_P G.1 vwCl (wM G σ) H → va_D A (wM G σ) → va_S A s.heap H locs → lv_has ls 4 [(0, .ref (aD G 43)), (1, .int x1), (2, .int x2), (3, .int x3)] → f_X7_all_J20 x1 x2 x3 σ = some r → W p l e rmX7_all s m args below meth c H locs 0 0 Q (F0 m 20 ls []) := by
    intro x2 x3 σ H locs ls hP hD hS hl hE
    unfold f_X7_all_J20 at hE
    obtain ⟨y20, hL, hE20⟩ := bnd_some hE
    refine loop_W (body := f_X7_all_L20 x1 σ) (y := y20) (P := fun v20 => ∀ (H : Heap) (locs : List Loc) (ls : Array Slot), va_P G.1 vwCl (wM G σ) H → va_D A (wM G σ) → va_S A s.heap H locs → lv_has ls 4 [(0, .ref (aD G 43)), (1, .int x1), (2, .int v20.1), (3, .int v20.2)] → W p l e rmX7_all s m args below meth c H locs 0 0 Q (F0 m 20 ls [])) ?_ _ _ hL H locs ls hP hD hS hl
    clear hP hD hS hl hE hL
    intro v20 t20 hE hN20 hY20
    intro H locs ls hP hD hS hl
    unfold f_X7_all_L20 at hE
    have J_93 : ∀ (x3 : Int32) (t0 : Int32) (t1 : Int32) (H : Heap) (locs : List Loc) (ls : Array Slot), va_P G.1 vwCl (wM G σ) H → va_D A (wM G σ) → va_S A s.heap H locs → lv_has ls 4 [(0, .ref (aD G 43)), (1, .int x1), (3, .int x3)] → f_X7_all_J93 x1 x3 t0 t1 σ = some t20 → W p l e rmX7_all s m args below meth c H locs 0 0 Q (F0 m 93 ls [.int t0, .int t1]) := by
      intro x3 t0 t1 H locs ls hP hD hS hl hE
      unfold f_X7_all_J93 at hE
      refine lv_iadd hx hb dX7_all_93 ?_
      refine lv_istore_n (lv' := [(2, .int (t1 + t0)), (0, .ref (aD G 43)), (1, .int x1), (3, .int x3)]) hx hb dX7_all_94 rfl hl (by decide) rfl (fun ls hl => ?_)
      refine lv_iinc (v := (x3 + (1 : Int32))) (lv' := [(3, .int (x3 + (1 : Int32))), (2, .int (t1 + t0)), (0, .ref (aD G 43)), (1, .int x1)]) hx hb dX7_all_95 hl (k := 3) rfl rfl (by decide) rfl (fun ls hl => ?_)
      refine lv_goto (tgt := 20) hx hb dX7_all_98 (by decide) ?_
      exact hN20 _ (Option.some.inj hE).symm _ _ _ hP hD hS (lv_sub hl [2, 3, 1, 0] rfl)
    refine lv_iload_n hx hb dX7_all_20 rfl (lv_at hl 3 rfl) ?_
    refine lv_bipush (v := (80 : Int32)) hx hb dX7_all_21 (by decide) ?_
    refine lv_icmp_ge (tgt := 101) hx hb dX7_all_23 (by decide) (fun c_ => ?_) (fun c_ => ?_)
    · have hE := ip c_ hE
      have e9 := hY20 _ (Option.some.inj hE).symm
      have hE := hE20
      rw [← e9] at hE
      refine lv_iload_n hx hb dX7_all_101 rfl (lv_at hl 2 rfl) ?_
      rw [← hQ, ← Option.some.inj hE]
      exact ri hx hb hr hlocks hK hP hD hS dX7_all_102
    · have hE := im c_ hE
      refine lv_iload_n hx hb dX7_all_26 rfl (lv_at hl 2 rfl) ?_
      refine lv_iload_n hx hb dX7_all_27 rfl (lv_at hl 1 rfl) ?_
      refine lv_if_ne (tgt := 44) hx hb dX7_all_28 (by decide) (fun c_ => ?_) (fun c_ => ?_)
      · have hE := im c_ hE
        refine lv_iload_n hx hb dX7_all_44 rfl (lv_at hl 1 rfl) ?_
        refine lv_iconst (v := (1 : Int32)) hx hb dX7_all_45 (by decide) ?_
        refine lv_icmp_ne (tgt := 58) hx hb dX7_all_46 (by decide) (fun c_ => ?_) (fun c_ => ?_)
        · have hE := im c_ hE
          refine lv_iload_n hx hb dX7_all_58 rfl (lv_at hl 1 rfl) ?_
          refine lv_iconst (v := (2 : Int32)) hx hb dX7_all_59 (by decide) ?_
          refine lv_icmp_ne (tgt := 84) hx hb dX7_all_60 (by decide) (fun c_ => ?_) (fun c_ => ?_)
          · have hE := im c_ hE
            refine lv_aload_n hx hb dX7_all_84 rfl (lv_at hl 0 rfl) ?_
            refine va_get (ci := 7) (v := .ref (aD G 30)) (C := RX7) (T := TX7) (N := 17) hx hb hts (fun _ h => List.mem_cons_of_mem _ (List.mem_append_right _ h)) hown hK hP 13 rfl rfl 0 (by decide) (hts (.fieldLink RX7 7 "FillCellsModel" "s" "[I") (List.mem_of_getElem? (i := 1) rfl)) (fun _ h9 => h9) rfl dX7_all_85 ?_
            refine lv_bipush (v := (80 : Int32)) hx hb dX7_all_88 (by decide) ?_
            refine lv_iload_n hx hb dX7_all_90 rfl (lv_at hl 3 rfl) ?_
            refine lv_iadd hx hb dX7_all_91 ?_
            obtain ⟨h_i, hE⟩ := gd_some hE
            refine ldM hx hb hK hP 0 (by decide) h_i dX7_all_92 ?_
            exact J_93 v20.2 (rd σ 0 ((80 : Int32) + v20.2)) v20.1 _ _ _ hP hD hS (lv_sub hl [0, 1, 3] rfl) hE
          · have hE := ip c_ hE
            refine lv_aload_n hx hb dX7_all_63 rfl (lv_at hl 0 rfl) ?_
            refine va_get (ci := 7) (v := .ref (aD G 30)) (C := RX7) (T := TX7) (N := 17) hx hb hts (fun _ h => List.mem_cons_of_mem _ (List.mem_append_right _ h)) hown hK hP 13 rfl rfl 0 (by decide) (hts (.fieldLink RX7 7 "FillCellsModel" "s" "[I") (List.mem_of_getElem? (i := 1) rfl)) (fun _ h9 => h9) rfl dX7_all_64 ?_
            refine lv_sipush (v := (320 : Int32)) hx hb dX7_all_67 (by decide) ?_
            refine lv_iload_n hx hb dX7_all_70 rfl (lv_at hl 3 rfl) ?_
            refine lv_iadd hx hb dX7_all_71 ?_
            obtain ⟨h_i, hE⟩ := gd_some hE
            refine ldM hx hb hK hP 0 (by decide) h_i dX7_all_72 ?_
            refine lv_if_le (tgt := 80) hx hb dX7_all_73 (by decide) (fun c_ => ?_) (fun c_ => ?_)
            · have hE := ip c_ hE
              refine lv_iconst (v := (0 : Int32)) hx hb dX7_all_80 (by decide) ?_
              refine lv_goto (tgt := 93) hx hb dX7_all_81 (by decide) ?_
              exact J_93 v20.2 (0 : Int32) v20.1 _ _ _ hP hD hS (lv_sub hl [0, 1, 3] rfl) hE
            · have hE := im c_ hE
              refine lv_iconst (v := (1 : Int32)) hx hb dX7_all_76 (by decide) ?_
              refine lv_goto (tgt := 93) hx hb dX7_all_77 (by decide) ?_
              exact J_93 v20.2 (1 : Int32) v20.1 _ _ _ hP hD hS (lv_sub hl [0, 1, 3] rfl) hE
        · have hE := ip c_ hE
          refine lv_aload_n hx hb dX7_all_49 rfl (lv_at hl 0 rfl) ?_
          refine va_get (ci := 7) (v := .ref (aD G 30)) (C := RX7) (T := TX7) (N := 17) hx hb hts (fun _ h => List.mem_cons_of_mem _ (List.mem_append_right _ h)) hown hK hP 13 rfl rfl 0 (by decide) (hts (.fieldLink RX7 7 "FillCellsModel" "s" "[I") (List.mem_of_getElem? (i := 1) rfl)) (fun _ h9 => h9) rfl dX7_all_50 ?_
          refine lv_iload_n hx hb dX7_all_53 rfl (lv_at hl 3 rfl) ?_
          obtain ⟨h_i, hE⟩ := gd_some hE
          refine ldM hx hb hK hP 0 (by decide) h_i dX7_all_54 ?_
          refine lv_goto (tgt := 93) hx hb dX7_all_55 (by decide) ?_
          exact J_93 v20.2 (rd σ 0 v20.2) v20.1 _ _ _ hP hD hS (lv_sub hl [0, 1, 3] rfl) hE
      · have hE := ip c_ hE
        refine lv_aload_n hx hb dX7_all_31 rfl (lv_at hl 0 rfl) ?_
        refine va_get (ci := 7) (v := .ref (aD G 30)) (C := RX7) (T := TX7) (N := 17) hx hb hts (fun _ h => List.mem_cons_of_mem _ (List.mem_append_right _ h)) hown hK hP 13 rfl rfl 0 (by decide) (hts (.fieldLink RX7 7 "FillCellsModel" "s" "[I") (List.mem_of_getElem? (i := 1) rfl)) (fun _ h9 => h9) rfl dX7_all_32 ?_
        refine lv_sipush (v := (320 : Int32)) hx hb dX7_all_35 (by decide) ?_
        refine lv_iload_n hx hb dX7_all_38 rfl (lv_at hl 3 rfl) ?_
        refine lv_iadd hx hb dX7_all_39 ?_
        obtain ⟨h_i, hE⟩ := gd_some hE
        refine ldM hx hb hK hP 0 (by decide) h_i dX7_all_40 ?_
        refine lv_goto (tgt := 93) hx hb dX7_all_41 (by decide) ?_
        exact J_93 v20.2 (rd σ 0 ((320 : Int32) + v20.2)) v20.1 _ _ _ hP hD hS (lv_sub hl [0, 1, 3] rfl) hE
  refine lv_iload_n hx hb dX7_all_0 rfl (lv_at hl 1 rfl) ?_
  refine lv_iconst (v := (0 : Int32)) hx hb dX7_all_1 (by decide) ?_
  refine lv_iconst (v := (3 : Int32)) hx hb dX7_all_2 (by decide) ?_
  obtain ⟨r1, hC, hE⟩ := bnd_some hE
  refine ci (va_runS (As := [.int x1, .int (0 : Int32), .int (3 : Int32)]) (rest := []) ⟨hx, hb, hml, hown, hts⟩ (c_X7_in l G x1 (0 : Int32) (3 : Int32) σ r1 hC _) (va_cwS 3 hts gX7_all_X7_in rfl rfl rfl (by decide +kernel) ⟨Nat.le_of_ble_eq_true rfl, Nat.le_of_ble_eq_true rfl⟩) (preS hK hP hD hS hA hX) rfl rfl hl.1 rfl (lv_room (Nat.le_of_ble_eq_true rfl)) dX7_all_3 ⟨Nat.le_of_ble_eq_true rfl, Nat.le_of_ble_eq_true rfl⟩) hD hS hA (fun H locs hP hD hS => ?_)
  refine lv_if_ne (tgt := 16) hx hb dX7_all_6 (by decide) (fun c_ => ?_) (fun c_ => ?_)
  · have hE := im c_ hE
    refine lv_iconst (v := (0 : Int32)) hx hb dX7_all_16 (by decide) ?_
    refine lv_istore_n (lv' := [(2, .int (0 : Int32)), (0, .ref (aD G 43)), (1, .int x1)]) hx hb dX7_all_17 rfl hl (by decide) rfl (fun ls hl => ?_)
    refine lv_iconst (v := (0 : Int32)) hx hb dX7_all_18 (by decide) ?_
    refine lv_istore_n (lv' := [(3, .int (0 : Int32)), (2, .int (0 : Int32)), (0, .ref (aD G 43)), (1, .int x1)]) hx hb dX7_all_19 rfl hl (by decide) rfl (fun ls hl => ?_)
    exact J_20 (0 : Int32) (0 : Int32) σ _ _ _ hP hD hS (lv_sub hl [2, 3, 1, 0] rfl) hE
  · have hE := ip c_ hE
    refine lv_aload_n hx hb dX7_all_9 rfl (lv_at hl 0 rfl) ?_
    refine lv_bipush (v := (-2 : Int32)) hx hb dX7_all_10 (by decide) ?_
    obtain ⟨r2, hC, hE⟩ := bnd_some hE
    refine ci (va_runV (As := [.int (-2 : Int32)]) (rest := []) ⟨hx, hb, hml, hown, hts⟩ (c_X7_refuses l G (-2 : Int32) σ r2 hC _) (cwV 1 hts gX7_all_X7_refuses rfl rfl rfl (by decide +kernel) ⟨Nat.le_of_ble_eq_true rfl, Nat.le_of_ble_eq_true rfl⟩) (preV hK hP hD hS hA hX (va_recv hK hP (ci := 7) (q0 := 13) rfl rfl)) rfl rfl hl.1 rfl (lv_room (Nat.le_of_ble_eq_true rfl)) dX7_all_12 ⟨Nat.le_of_ble_eq_true rfl, Nat.le_of_ble_eq_true rfl⟩) hD hS hA (fun H locs hP hD hS => ?_)
    rw [← hQ, ← Option.some.inj hE]
    exact ri hx hb hr hlocks hK hP hD hS dX7_all_15
abbrev rmX7_fills : Room := { frames := 0, cells := 0, slots := 0, locals := 0 }
def f_X7_fills_L2 (x1 : Int32) (v2 : Int32 × St) : Option (((St)) ⊕ (Int32 × St)) := if (80 : Int32) ≤ v2.1 then (some (.inl (v2.2))) else (gd ((320 : Int32) + v2.1) 400 (gd v2.1 80 (gd ((320 : Int32) + v2.1) 400 (some (.inr ((v2.1 + (1 : Int32)), (sA v2.2 0 ((320 : Int32) + v2.1) ((rd v2.2 0 ((320 : Int32) + v2.1)) + (x1 * (rd v2.2 8 v2.1))))))))))
def f_X7_fills_J2 (x1 : Int32) (x2 : Int32) (σ : St) : Option St := bnd (loopN (f_X7_fills_L2 x1) 4096 (x2, σ)) (fun y2 => some y2)
def f_X7_fills (x1 : Int32) (σ : St) : Option St := f_X7_fills_J2 x1 (0 : Int32) σ
set_option maxHeartbeats 4000000 in
set_option maxRecDepth 100000 in
theorem c_X7_fills (l : Launch) (G : EV)  (x1 : Int32) (σ : St) (r : St) (hE : f_X7_fills x1 σ = some r) : MetV l G yX7_fills wsX7_fills rmX7_fills [.ref (aD G 43), .int x1] (wM G σ) (wM G r) := by
  refine Met.of0 (Qf := PV G (wM G r)) (cc := cX7_fills) (maxL := 3) (ret := none) (by decide) rfl (Nat.le_of_ble_eq_true rfl) ?_
  intro p e s m below meth c args A hx hb hr hts hown hlocks hml hin0 hA hS hP hK hD hX ls hl
  have hl : lv_has ls 3 [(0, .ref (aD G 43)), (1, .int x1)] := hl
  generalize hQ : MQ below (PV G (wM G r) A) args s 0 0 A = Q
  unfold f_X7_fills at hE
  have J_2 : ∀ (x2 : Int32) (σ : St) (H : Heap) (locs : List Loc) (ls : Array Slot), va_P G.1 vwCl (wM G σ) H → va_D A (wM G σ) → va_S A s.heap H locs → lv_has ls 3 [(0, .ref (aD G 43)), (1, .int x1), (2, .int x2)] → f_X7_fills_J2 x1 x2 σ = some r → W p l e rmX7_fills s m args below meth c H locs 0 0 Q (F0 m 2 ls []) := by
    intro x2 σ H locs ls hP hD hS hl hE
    unfold f_X7_fills_J2 at hE
    obtain ⟨y2, hL, hE2⟩ := bnd_some hE
    refine loop_W (body := f_X7_fills_L2 x1) (y := y2) (P := fun v2 => ∀ (H : Heap) (locs : List Loc) (ls : Array Slot), va_P G.1 vwCl (wM G v2.2) H → va_D A (wM G v2.2) → va_S A s.heap H locs → lv_has ls 3 [(0, .ref (aD G 43)), (1, .int x1), (2, .int v2.1)] → W p l e rmX7_fills s m args below meth c H locs 0 0 Q (F0 m 2 ls [])) ?_ _ _ hL H locs ls hP hD hS hl
    clear hP hD hS hl hE hL
    intro v2 t2 hE hN2 hY2
    intro H locs ls hP hD hS hl
    unfold f_X7_fills_L2 at hE
    refine lv_iload_n hx hb dX7_fills_2 rfl (lv_at hl 2 rfl) ?_
    refine lv_bipush (v := (80 : Int32)) hx hb dX7_fills_3 (by decide) ?_
    refine lv_icmp_ge (tgt := 35) hx hb dX7_fills_5 (by decide) (fun c_ => ?_) (fun c_ => ?_)
    · have hE := ip c_ hE
      have e9 := hY2 _ (Option.some.inj hE).symm
      have hE := hE2
      rw [← e9] at hE
      rw [← hQ, ← Option.some.inj hE]
      exact rv hx hb hr hlocks hK hP hD hS dX7_fills_35
    · have hE := im c_ hE
      refine lv_aload_n hx hb dX7_fills_8 rfl (lv_at hl 0 rfl) ?_
      refine va_get (ci := 7) (v := .ref (aD G 30)) (C := RX7) (T := TX7) (N := 17) hx hb hts (fun _ h => List.mem_cons_of_mem _ (List.mem_append_right _ h)) hown hK hP 13 rfl rfl 0 (by decide) (hts (.fieldLink RX7 7 "FillCellsModel" "s" "[I") (List.mem_of_getElem? (i := 1) rfl)) (fun _ h9 => h9) rfl dX7_fills_9 ?_
      refine lv_sipush (v := (320 : Int32)) hx hb dX7_fills_12 (by decide) ?_
      refine lv_iload_n hx hb dX7_fills_15 rfl (lv_at hl 2 rfl) ?_
      refine lv_iadd hx hb dX7_fills_16 ?_
      refine lv_dup2_11 hx hb dX7_fills_17 rfl rfl ?_
      obtain ⟨h_i, hE⟩ := gd_some hE
      refine ldM hx hb hK hP 0 (by decide) h_i dX7_fills_18 ?_
      refine lv_iload_n hx hb dX7_fills_19 rfl (lv_at hl 1 rfl) ?_
      refine lv_aload_n hx hb dX7_fills_20 rfl (lv_at hl 0 rfl) ?_
      refine va_get (ci := 7) (v := .ref (aD G 38)) (C := RX7) (T := TX7) (N := 17) hx hb hts (fun _ h => List.mem_cons_of_mem _ (List.mem_append_right _ h)) hown hK hP 13 rfl rfl 11 (by decide) (hts (.fieldLink RX7 34 "FillCellsModel" "family" "[I") (List.mem_of_getElem? (i := 2) rfl)) (fun _ h9 => h9) rfl dX7_fills_21 ?_
      refine lv_iload_n hx hb dX7_fills_24 rfl (lv_at hl 2 rfl) ?_
      obtain ⟨h_i, hE⟩ := gd_some hE
      refine ldM hx hb hK hP 8 (by decide) h_i dX7_fills_25 ?_
      refine lv_imul hx hb dX7_fills_26 ?_
      refine lv_iadd hx hb dX7_fills_27 ?_
      obtain ⟨h_i, hE⟩ := gd_some hE
      refine stM hx hb hK hP hD hS 0 (by decide) h_i dX7_fills_28 (fun H locs hP hD hS => ?_)
      refine lv_iinc (v := (v2.1 + (1 : Int32))) (lv' := [(2, .int (v2.1 + (1 : Int32))), (0, .ref (aD G 43)), (1, .int x1)]) hx hb dX7_fills_29 hl (k := 2) rfl rfl (by decide) rfl (fun ls hl => ?_)
      refine lv_goto (tgt := 2) hx hb dX7_fills_32 (by decide) ?_
      exact hN2 _ (Option.some.inj hE).symm _ _ _ hP hD hS (lv_sub hl [1, 2, 0] rfl)
  refine lv_iconst (v := (0 : Int32)) hx hb dX7_fills_0 (by decide) ?_
  refine lv_istore_n (lv' := [(2, .int (0 : Int32)), (0, .ref (aD G 43)), (1, .int x1)]) hx hb dX7_fills_1 rfl hl (by decide) rfl (fun ls hl => ?_)
  exact J_2 (0 : Int32) σ _ _ _ hP hD hS (lv_sub hl [1, 2, 0] rfl) hE
abbrev rmX7_more : Room := { frames := 4, cells := 0, slots := 0, locals := 87 }

def f_X7_more (x1 : Int32) (σ : St) : Option (Int32 × St) := bnd (f_X7_isCell x1) (fun r1 => if r1 = 0 then (bnd (f_X7_refuses (-2 : Int32) σ) (fun r8 => some (r8.1, r8.2))) else (bnd (f_X7_lays σ) (fun r2 => bnd (f_X7_may x1 r2) (fun r3 => if r3.1 = 0 then (bnd (f_X7_refuses (-3 : Int32) r3.2) (fun r7 => some (r7.1, r7.2))) else (bnd (f_X7_aside r3.2) (fun r4 => bnd (f_X7_keeps r4) (fun r5 => bnd (f_X7_fills (1 : Int32) r5) (fun r6 => gd ((320 : Int32) + x1) 400 (some ((rd r6 0 ((320 : Int32) + x1)), r6))))))))))
set_option maxHeartbeats 4000000 in
set_option maxRecDepth 100000 in
theorem c_X7_more (l : Launch) (G : EV)  (x1 : Int32) (σ : St) (r : (Int32 × St)) (hE : f_X7_more x1 σ = some r) : MetI l G yX7_more wsX7_more rmX7_more [.ref (aD G 43), .int x1] (wM G σ) r.1 (wM G r.2) := by
  refine Met.of0 (Qf := PI G r.1 (wM G r.2)) (cc := cX7_more) (maxL := 2) (ret := (some .int)) (by decide) rfl (Nat.le_of_ble_eq_true rfl) ?_
  intro p e s m below meth c args A hx hb hr hts hown hlocks hml hin0 hA hS hP hK hD hX ls hl
  have hl : lv_has ls 2 [(0, .ref (aD G 43)), (1, .int x1)] := hl
  generalize hQ : MQ below (PI G r.1 (wM G r.2) A) args s 0 0 A = Q
  unfold f_X7_more at hE
  refine lv_iload_n hx hb dX7_more_0 rfl (lv_at hl 1 rfl) ?_
  obtain ⟨r1, hC, hE⟩ := bnd_some hE
  refine ci (va_runS (As := [.int x1]) (rest := []) ⟨hx, hb, hml, hown, hts⟩ (c_X7_isCell l G x1 σ r1 hC _) (va_cwS 1 hts gX7_more_X7_isCell rfl rfl rfl (by decide +kernel) ⟨Nat.le_of_ble_eq_true rfl, Nat.le_of_ble_eq_true rfl⟩) (preS hK hP hD hS hA hX) rfl rfl hl.1 rfl (lv_room (Nat.le_of_ble_eq_true rfl)) dX7_more_1 ⟨Nat.le_of_ble_eq_true rfl, Nat.le_of_ble_eq_true rfl⟩) hD hS hA (fun H locs hP hD hS => ?_)
  refine lv_if_ne (tgt := 14) hx hb dX7_more_4 (by decide) (fun c_ => ?_) (fun c_ => ?_)
  · have hE := im c_ hE
    refine lv_aload_n hx hb dX7_more_14 rfl (lv_at hl 0 rfl) ?_
    obtain ⟨r2, hC, hE⟩ := bnd_some hE
    refine cv (va_runV (As := []) (rest := []) ⟨hx, hb, hml, hown, hts⟩ (c_X7_lays l G σ r2 hC _) (cwV 0 hts gX7_more_X7_lays rfl rfl rfl (by decide +kernel) ⟨Nat.le_of_ble_eq_true rfl, Nat.le_of_ble_eq_true rfl⟩) (preV hK hP hD hS hA hX (va_recv hK hP (ci := 7) (q0 := 13) rfl rfl)) rfl rfl hl.1 rfl (lv_room (Nat.le_of_ble_eq_true rfl)) dX7_more_15 ⟨Nat.le_of_ble_eq_true rfl, Nat.le_of_ble_eq_true rfl⟩) hD hS hA (fun H locs hP hD hS => ?_)
    refine lv_aload_n hx hb dX7_more_18 rfl (lv_at hl 0 rfl) ?_
    refine lv_iload_n hx hb dX7_more_19 rfl (lv_at hl 1 rfl) ?_
    obtain ⟨r3, hC, hE⟩ := bnd_some hE
    refine ci (va_runV (As := [.int x1]) (rest := []) ⟨hx, hb, hml, hown, hts⟩ (c_X7_may l G x1 r2 r3 hC _) (cwV 1 hts gX7_more_X7_may rfl rfl rfl (by decide +kernel) ⟨Nat.le_of_ble_eq_true rfl, Nat.le_of_ble_eq_true rfl⟩) (preV hK hP hD hS hA hX (va_recv hK hP (ci := 7) (q0 := 13) rfl rfl)) rfl rfl hl.1 rfl (lv_room (Nat.le_of_ble_eq_true rfl)) dX7_more_20 ⟨Nat.le_of_ble_eq_true rfl, Nat.le_of_ble_eq_true rfl⟩) hD hS hA (fun H locs hP hD hS => ?_)
    refine lv_if_ne (tgt := 33) hx hb dX7_more_23 (by decide) (fun c_ => ?_) (fun c_ => ?_)
    · have hE := im c_ hE
      refine lv_aload_n hx hb dX7_more_33 rfl (lv_at hl 0 rfl) ?_
      obtain ⟨r4, hC, hE⟩ := bnd_some hE
      refine cv (va_runV (As := []) (rest := []) ⟨hx, hb, hml, hown, hts⟩ (c_X7_aside l G r3.2 r4 hC _) (cwV 0 hts gX7_more_X7_aside rfl rfl rfl (by decide +kernel) ⟨Nat.le_of_ble_eq_true rfl, Nat.le_of_ble_eq_true rfl⟩) (preV hK hP hD hS hA hX (va_recv hK hP (ci := 7) (q0 := 13) rfl rfl)) rfl rfl hl.1 rfl (lv_room (Nat.le_of_ble_eq_true rfl)) dX7_more_34 ⟨Nat.le_of_ble_eq_true rfl, Nat.le_of_ble_eq_true rfl⟩) hD hS hA (fun H locs hP hD hS => ?_)
      refine lv_aload_n hx hb dX7_more_37 rfl (lv_at hl 0 rfl) ?_
      obtain ⟨r5, hC, hE⟩ := bnd_some hE
      refine cv (va_runV (As := []) (rest := []) ⟨hx, hb, hml, hown, hts⟩ (c_X7_keeps l G r4 r5 hC _) (cwV 0 hts gX7_more_X7_keeps rfl rfl rfl (by decide +kernel) ⟨Nat.le_of_ble_eq_true rfl, Nat.le_of_ble_eq_true rfl⟩) (preV hK hP hD hS hA hX (va_recv hK hP (ci := 7) (q0 := 13) rfl rfl)) rfl rfl hl.1 rfl (lv_room (Nat.le_of_ble_eq_true rfl)) dX7_more_38 ⟨Nat.le_of_ble_eq_true rfl, Nat.le_of_ble_eq_true rfl⟩) hD hS hA (fun H locs hP hD hS => ?_)
      refine lv_aload_n hx hb dX7_more_41 rfl (lv_at hl 0 rfl) ?_
      refine lv_iconst (v := (1 : Int32)) hx hb dX7_more_42 (by decide) ?_
      obtain ⟨r6, hC, hE⟩ := bnd_some hE
      refine cv (va_runV (As := [.int (1 : Int32)]) (rest := []) ⟨hx, hb, hml, hown, hts⟩ (c_X7_fills l G (1 : Int32) r5 r6 hC _) (cwV 1 hts gX7_more_X7_fills rfl rfl rfl (by decide +kernel) ⟨Nat.le_of_ble_eq_true rfl, Nat.le_of_ble_eq_true rfl⟩) (preV hK hP hD hS hA hX (va_recv hK hP (ci := 7) (q0 := 13) rfl rfl)) rfl rfl hl.1 rfl (lv_room (Nat.le_of_ble_eq_true rfl)) dX7_more_43 ⟨Nat.le_of_ble_eq_true rfl, Nat.le_of_ble_eq_true rfl⟩) hD hS hA (fun H locs hP hD hS => ?_)
      refine lv_aload_n hx hb dX7_more_46 rfl (lv_at hl 0 rfl) ?_
      refine va_get (ci := 7) (v := .ref (aD G 30)) (C := RX7) (T := TX7) (N := 17) hx hb hts (fun _ h => List.mem_cons_of_mem _ (List.mem_append_right _ h)) hown hK hP 13 rfl rfl 0 (by decide) (hts (.fieldLink RX7 7 "FillCellsModel" "s" "[I") (List.mem_of_getElem? (i := 1) rfl)) (fun _ h9 => h9) rfl dX7_more_47 ?_
      refine lv_sipush (v := (320 : Int32)) hx hb dX7_more_50 (by decide) ?_
      refine lv_iload_n hx hb dX7_more_53 rfl (lv_at hl 1 rfl) ?_
      refine lv_iadd hx hb dX7_more_54 ?_
      obtain ⟨h_i, hE⟩ := gd_some hE
      refine ldM hx hb hK hP 0 (by decide) h_i dX7_more_55 ?_
      rw [← hQ, ← Option.some.inj hE]
      exact ri hx hb hr hlocks hK hP hD hS dX7_more_56
    · have hE := ip c_ hE
      refine lv_aload_n hx hb dX7_more_26 rfl (lv_at hl 0 rfl) ?_
      refine lv_bipush (v := (-3 : Int32)) hx hb dX7_more_27 (by decide) ?_
      obtain ⟨r7, hC, hE⟩ := bnd_some hE
      refine ci (va_runV (As := [.int (-3 : Int32)]) (rest := []) ⟨hx, hb, hml, hown, hts⟩ (c_X7_refuses l G (-3 : Int32) r3.2 r7 hC _) (cwV 1 hts gX7_more_X7_refuses rfl rfl rfl (by decide +kernel) ⟨Nat.le_of_ble_eq_true rfl, Nat.le_of_ble_eq_true rfl⟩) (preV hK hP hD hS hA hX (va_recv hK hP (ci := 7) (q0 := 13) rfl rfl)) rfl rfl hl.1 rfl (lv_room (Nat.le_of_ble_eq_true rfl)) dX7_more_29 ⟨Nat.le_of_ble_eq_true rfl, Nat.le_of_ble_eq_true rfl⟩) hD hS hA (fun H locs hP hD hS => ?_)
      rw [← hQ, ← Option.some.inj hE]
      exact ri hx hb hr hlocks hK hP hD hS dX7_more_32
  · have hE := ip c_ hE
    refine lv_aload_n hx hb dX7_more_7 rfl (lv_at hl 0 rfl) ?_
    refine lv_bipush (v := (-2 : Int32)) hx hb dX7_more_8 (by decide) ?_
    obtain ⟨r8, hC, hE⟩ := bnd_some hE
    refine ci (va_runV (As := [.int (-2 : Int32)]) (rest := []) ⟨hx, hb, hml, hown, hts⟩ (c_X7_refuses l G (-2 : Int32) σ r8 hC _) (cwV 1 hts gX7_more_X7_refuses rfl rfl rfl (by decide +kernel) ⟨Nat.le_of_ble_eq_true rfl, Nat.le_of_ble_eq_true rfl⟩) (preV hK hP hD hS hA hX (va_recv hK hP (ci := 7) (q0 := 13) rfl rfl)) rfl rfl hl.1 rfl (lv_room (Nat.le_of_ble_eq_true rfl)) dX7_more_10 ⟨Nat.le_of_ble_eq_true rfl, Nat.le_of_ble_eq_true rfl⟩) hD hS hA (fun H locs hP hD hS => ?_)
    rw [← hQ, ← Option.some.inj hE]
    exact ri hx hb hr hlocks hK hP hD hS dX7_more_13
abbrev rmX7_less : Room := { frames := 2, cells := 0, slots := 0, locals := 42 }

def f_X7_less (x1 : Int32) (σ : St) : Option (Int32 × St) := bnd (f_X7_isCell x1) (fun r1 => if r1 = 0 then (bnd (f_X7_refuses (-2 : Int32) σ) (fun r7 => some (r7.1, r7.2))) else (gd ((320 : Int32) + x1) 400 (if (rd σ 0 ((320 : Int32) + x1)) = 0 then (bnd (f_X7_refuses (-3 : Int32) σ) (fun r6 => some (r6.1, r6.2))) else (bnd (f_X7_aside σ) (fun r2 => bnd (f_X7_keeps r2) (fun r3 => bnd (f_X7_marks x1 r3) (fun r4 => bnd (f_X7_fills (-1 : Int32) r4) (fun r5 => gd ((320 : Int32) + x1) 400 (some ((rd r5 0 ((320 : Int32) + x1)), r5))))))))))
set_option maxHeartbeats 4000000 in
set_option maxRecDepth 100000 in
theorem c_X7_less (l : Launch) (G : EV)  (x1 : Int32) (σ : St) (r : (Int32 × St)) (hE : f_X7_less x1 σ = some r) : MetI l G yX7_less wsX7_less rmX7_less [.ref (aD G 43), .int x1] (wM G σ) r.1 (wM G r.2) := by
  refine Met.of0 (Qf := PI G r.1 (wM G r.2)) (cc := cX7_less) (maxL := 2) (ret := (some .int)) (by decide) rfl (Nat.le_of_ble_eq_true rfl) ?_
  intro p e s m below meth c args A hx hb hr hts hown hlocks hml hin0 hA hS hP hK hD hX ls hl
  have hl : lv_has ls 2 [(0, .ref (aD G 43)), (1, .int x1)] := hl
  generalize hQ : MQ below (PI G r.1 (wM G r.2) A) args s 0 0 A = Q
  unfold f_X7_less at hE
  refine lv_iload_n hx hb dX7_less_0 rfl (lv_at hl 1 rfl) ?_
  obtain ⟨r1, hC, hE⟩ := bnd_some hE
  refine ci (va_runS (As := [.int x1]) (rest := []) ⟨hx, hb, hml, hown, hts⟩ (c_X7_isCell l G x1 σ r1 hC _) (va_cwS 1 hts gX7_less_X7_isCell rfl rfl rfl (by decide +kernel) ⟨Nat.le_of_ble_eq_true rfl, Nat.le_of_ble_eq_true rfl⟩) (preS hK hP hD hS hA hX) rfl rfl hl.1 rfl (lv_room (Nat.le_of_ble_eq_true rfl)) dX7_less_1 ⟨Nat.le_of_ble_eq_true rfl, Nat.le_of_ble_eq_true rfl⟩) hD hS hA (fun H locs hP hD hS => ?_)
  refine lv_if_ne (tgt := 14) hx hb dX7_less_4 (by decide) (fun c_ => ?_) (fun c_ => ?_)
  · have hE := im c_ hE
    refine lv_aload_n hx hb dX7_less_14 rfl (lv_at hl 0 rfl) ?_
    refine va_get (ci := 7) (v := .ref (aD G 30)) (C := RX7) (T := TX7) (N := 17) hx hb hts (fun _ h => List.mem_cons_of_mem _ (List.mem_append_right _ h)) hown hK hP 13 rfl rfl 0 (by decide) (hts (.fieldLink RX7 7 "FillCellsModel" "s" "[I") (List.mem_of_getElem? (i := 1) rfl)) (fun _ h9 => h9) rfl dX7_less_15 ?_
    refine lv_sipush (v := (320 : Int32)) hx hb dX7_less_18 (by decide) ?_
    refine lv_iload_n hx hb dX7_less_21 rfl (lv_at hl 1 rfl) ?_
    refine lv_iadd hx hb dX7_less_22 ?_
    obtain ⟨h_i, hE⟩ := gd_some hE
    refine ldM hx hb hK hP 0 (by decide) h_i dX7_less_23 ?_
    refine lv_if_ne (tgt := 34) hx hb dX7_less_24 (by decide) (fun c_ => ?_) (fun c_ => ?_)
    · have hE := im c_ hE
      refine lv_aload_n hx hb dX7_less_34 rfl (lv_at hl 0 rfl) ?_
      obtain ⟨r2, hC, hE⟩ := bnd_some hE
      refine cv (va_runV (As := []) (rest := []) ⟨hx, hb, hml, hown, hts⟩ (c_X7_aside l G σ r2 hC _) (cwV 0 hts gX7_less_X7_aside rfl rfl rfl (by decide +kernel) ⟨Nat.le_of_ble_eq_true rfl, Nat.le_of_ble_eq_true rfl⟩) (preV hK hP hD hS hA hX (va_recv hK hP (ci := 7) (q0 := 13) rfl rfl)) rfl rfl hl.1 rfl (lv_room (Nat.le_of_ble_eq_true rfl)) dX7_less_35 ⟨Nat.le_of_ble_eq_true rfl, Nat.le_of_ble_eq_true rfl⟩) hD hS hA (fun H locs hP hD hS => ?_)
      refine lv_aload_n hx hb dX7_less_38 rfl (lv_at hl 0 rfl) ?_
      obtain ⟨r3, hC, hE⟩ := bnd_some hE
      refine cv (va_runV (As := []) (rest := []) ⟨hx, hb, hml, hown, hts⟩ (c_X7_keeps l G r2 r3 hC _) (cwV 0 hts gX7_less_X7_keeps rfl rfl rfl (by decide +kernel) ⟨Nat.le_of_ble_eq_true rfl, Nat.le_of_ble_eq_true rfl⟩) (preV hK hP hD hS hA hX (va_recv hK hP (ci := 7) (q0 := 13) rfl rfl)) rfl rfl hl.1 rfl (lv_room (Nat.le_of_ble_eq_true rfl)) dX7_less_39 ⟨Nat.le_of_ble_eq_true rfl, Nat.le_of_ble_eq_true rfl⟩) hD hS hA (fun H locs hP hD hS => ?_)
      refine lv_aload_n hx hb dX7_less_42 rfl (lv_at hl 0 rfl) ?_
      refine lv_iload_n hx hb dX7_less_43 rfl (lv_at hl 1 rfl) ?_
      obtain ⟨r4, hC, hE⟩ := bnd_some hE
      refine cv (va_runV (As := [.int x1]) (rest := []) ⟨hx, hb, hml, hown, hts⟩ (c_X7_marks l G x1 r3 r4 hC _) (cwV 1 hts gX7_less_X7_marks rfl rfl rfl (by decide +kernel) ⟨Nat.le_of_ble_eq_true rfl, Nat.le_of_ble_eq_true rfl⟩) (preV hK hP hD hS hA hX (va_recv hK hP (ci := 7) (q0 := 13) rfl rfl)) rfl rfl hl.1 rfl (lv_room (Nat.le_of_ble_eq_true rfl)) dX7_less_44 ⟨Nat.le_of_ble_eq_true rfl, Nat.le_of_ble_eq_true rfl⟩) hD hS hA (fun H locs hP hD hS => ?_)
      refine lv_aload_n hx hb dX7_less_47 rfl (lv_at hl 0 rfl) ?_
      refine lv_iconst (v := (-1 : Int32)) hx hb dX7_less_48 (by decide) ?_
      obtain ⟨r5, hC, hE⟩ := bnd_some hE
      refine cv (va_runV (As := [.int (-1 : Int32)]) (rest := []) ⟨hx, hb, hml, hown, hts⟩ (c_X7_fills l G (-1 : Int32) r4 r5 hC _) (cwV 1 hts gX7_less_X7_fills rfl rfl rfl (by decide +kernel) ⟨Nat.le_of_ble_eq_true rfl, Nat.le_of_ble_eq_true rfl⟩) (preV hK hP hD hS hA hX (va_recv hK hP (ci := 7) (q0 := 13) rfl rfl)) rfl rfl hl.1 rfl (lv_room (Nat.le_of_ble_eq_true rfl)) dX7_less_49 ⟨Nat.le_of_ble_eq_true rfl, Nat.le_of_ble_eq_true rfl⟩) hD hS hA (fun H locs hP hD hS => ?_)
      refine lv_aload_n hx hb dX7_less_52 rfl (lv_at hl 0 rfl) ?_
      refine va_get (ci := 7) (v := .ref (aD G 30)) (C := RX7) (T := TX7) (N := 17) hx hb hts (fun _ h => List.mem_cons_of_mem _ (List.mem_append_right _ h)) hown hK hP 13 rfl rfl 0 (by decide) (hts (.fieldLink RX7 7 "FillCellsModel" "s" "[I") (List.mem_of_getElem? (i := 1) rfl)) (fun _ h9 => h9) rfl dX7_less_53 ?_
      refine lv_sipush (v := (320 : Int32)) hx hb dX7_less_56 (by decide) ?_
      refine lv_iload_n hx hb dX7_less_59 rfl (lv_at hl 1 rfl) ?_
      refine lv_iadd hx hb dX7_less_60 ?_
      obtain ⟨h_i, hE⟩ := gd_some hE
      refine ldM hx hb hK hP 0 (by decide) h_i dX7_less_61 ?_
      rw [← hQ, ← Option.some.inj hE]
      exact ri hx hb hr hlocks hK hP hD hS dX7_less_62
    · have hE := ip c_ hE
      refine lv_aload_n hx hb dX7_less_27 rfl (lv_at hl 0 rfl) ?_
      refine lv_bipush (v := (-3 : Int32)) hx hb dX7_less_28 (by decide) ?_
      obtain ⟨r6, hC, hE⟩ := bnd_some hE
      refine ci (va_runV (As := [.int (-3 : Int32)]) (rest := []) ⟨hx, hb, hml, hown, hts⟩ (c_X7_refuses l G (-3 : Int32) σ r6 hC _) (cwV 1 hts gX7_less_X7_refuses rfl rfl rfl (by decide +kernel) ⟨Nat.le_of_ble_eq_true rfl, Nat.le_of_ble_eq_true rfl⟩) (preV hK hP hD hS hA hX (va_recv hK hP (ci := 7) (q0 := 13) rfl rfl)) rfl rfl hl.1 rfl (lv_room (Nat.le_of_ble_eq_true rfl)) dX7_less_30 ⟨Nat.le_of_ble_eq_true rfl, Nat.le_of_ble_eq_true rfl⟩) hD hS hA (fun H locs hP hD hS => ?_)
      rw [← hQ, ← Option.some.inj hE]
      exact ri hx hb hr hlocks hK hP hD hS dX7_less_33
  · have hE := ip c_ hE
    refine lv_aload_n hx hb dX7_less_7 rfl (lv_at hl 0 rfl) ?_
    refine lv_bipush (v := (-2 : Int32)) hx hb dX7_less_8 (by decide) ?_
    obtain ⟨r7, hC, hE⟩ := bnd_some hE
    refine ci (va_runV (As := [.int (-2 : Int32)]) (rest := []) ⟨hx, hb, hml, hown, hts⟩ (c_X7_refuses l G (-2 : Int32) σ r7 hC _) (cwV 1 hts gX7_less_X7_refuses rfl rfl rfl (by decide +kernel) ⟨Nat.le_of_ble_eq_true rfl, Nat.le_of_ble_eq_true rfl⟩) (preV hK hP hD hS hA hX (va_recv hK hP (ci := 7) (q0 := 13) rfl rfl)) rfl rfl hl.1 rfl (lv_room (Nat.le_of_ble_eq_true rfl)) dX7_less_10 ⟨Nat.le_of_ble_eq_true rfl, Nat.le_of_ble_eq_true rfl⟩) hD hS hA (fun H locs hP hD hS => ?_)
    rw [← hQ, ← Option.some.inj hE]
    exact ri hx hb hr hlocks hK hP hD hS dX7_less_13
abbrev rmX7_reaches : Room := { frames := 2, cells := 0, slots := 0, locals := 44 }
def f_X7_reaches_J51 (x1 : Int32) (x3 : Int32) (σ : St) : Option (((Int32)) ⊕ (Int32 × Int32)) := some (.inr ((1 : Int32), (x3 + (1 : Int32))))
def f_X7_reaches_J55 (x1 : Int32) (x3 : Int32) (σ : St) : Option (((Int32)) ⊕ (Int32 × Int32)) := some (.inr ((0 : Int32), (x3 + (1 : Int32))))
def f_X7_reaches_L4 (x1 : Int32) (σ : St) (v4 : Int32 × Int32) : Option (((Int32)) ⊕ (Int32 × Int32)) := if (gI σ 3) ≤ v4.2 then (some (.inl (v4.1))) else (if v4.1 = 0 then (if 0 ≤ x1 then (gd v4.2 80 (bnd (f_X7_has x1 (rd σ 9 v4.2) σ) (fun r1 => if r1 = 0 then (f_X7_reaches_J55 x1 v4.2 σ) else (f_X7_reaches_J51 x1 v4.2 σ)))) else (gd v4.2 80 (gd (rd σ 9 v4.2) 80 (if (rd σ 7 (rd σ 9 v4.2)) ≤ 0 then (f_X7_reaches_J55 x1 v4.2 σ) else (f_X7_reaches_J51 x1 v4.2 σ))))) else (f_X7_reaches_J51 x1 v4.2 σ))
def f_X7_reaches_J4 (x1 : Int32) (x2 : Int32) (x3 : Int32) (σ : St) : Option Int32 := bnd (loopN (f_X7_reaches_L4 x1 σ) 4096 (x2, x3)) (fun y4 => gb y4 (some y4))
def f_X7_reaches (x1 : Int32) (σ : St) : Option Int32 := f_X7_reaches_J4 x1 (0 : Int32) (0 : Int32) σ
set_option maxHeartbeats 4000000 in
set_option maxRecDepth 100000 in
theorem c_X7_reaches (l : Launch) (G : EV)  (x1 : Int32) (σ : St) (r : Int32) (hE : f_X7_reaches x1 σ = some r) : MetI l G yX7_reaches wsX7_reaches rmX7_reaches [.ref (aD G 43), .int x1] (wM G σ) r (wM G σ) := by
  refine Met.of0 (Qf := PI G r (wM G σ)) (cc := cX7_reaches) (maxL := 4) (ret := (some .boolean)) (by decide) rfl (Nat.le_of_ble_eq_true rfl) ?_
  intro p e s m below meth c args A hx hb hr hts hown hlocks hml hin0 hA hS hP hK hD hX ls hl
  have hl : lv_has ls 4 [(0, .ref (aD G 43)), (1, .int x1)] := hl
  generalize hQ : MQ below (PI G r (wM G σ) A) args s 0 0 A = Q
  unfold f_X7_reaches at hE
  have J_4 : ∀ (x2 : Int32) (x3 : Int32) (H : Heap) (locs : List Loc) (ls : Array Slot), va_P G.1 vwCl (wM G σ) H → va_D A (wM G σ) → va_S A s.heap H locs → lv_has ls 4 [(0, .ref (aD G 43)), (1, .int x1), (2, .int x2), (3, .int x3)] → f_X7_reaches_J4 x1 x2 x3 σ = some r → W p l e rmX7_reaches s m args below meth c H locs 0 0 Q (F0 m 4 ls []) := by
    intro x2 x3 H locs ls hP hD hS hl hE
    unfold f_X7_reaches_J4 at hE
    obtain ⟨y4, hL, hE4⟩ := bnd_some hE
    refine loop_W (body := f_X7_reaches_L4 x1 σ) (y := y4) (P := fun v4 => ∀ (H : Heap) (locs : List Loc) (ls : Array Slot), va_P G.1 vwCl (wM G σ) H → va_D A (wM G σ) → va_S A s.heap H locs → lv_has ls 4 [(0, .ref (aD G 43)), (1, .int x1), (2, .int v4.1), (3, .int v4.2)] → W p l e rmX7_reaches s m args below meth c H locs 0 0 Q (F0 m 4 ls [])) ?_ _ _ hL H locs ls hP hD hS hl
    clear hP hD hS hl hE hL
    intro v4 t4 hE hN4 hY4
    intro H locs ls hP hD hS hl
    unfold f_X7_reaches_L4 at hE
    have J_51 : ∀ (x3 : Int32) (H : Heap) (locs : List Loc) (ls : Array Slot), va_P G.1 vwCl (wM G σ) H → va_D A (wM G σ) → va_S A s.heap H locs → lv_has ls 4 [(0, .ref (aD G 43)), (1, .int x1), (3, .int x3)] → f_X7_reaches_J51 x1 x3 σ = some t4 → W p l e rmX7_reaches s m args below meth c H locs 0 0 Q (F0 m 51 ls []) := by
      intro x3 H locs ls hP hD hS hl hE
      unfold f_X7_reaches_J51 at hE
      refine lv_iconst (v := (1 : Int32)) hx hb dX7_reaches_51 (by decide) ?_
      refine lv_goto (tgt := 56) hx hb dX7_reaches_52 (by decide) ?_
      refine lv_istore_n (lv' := [(2, .int (1 : Int32)), (0, .ref (aD G 43)), (1, .int x1), (3, .int x3)]) hx hb dX7_reaches_56 rfl hl (by decide) rfl (fun ls hl => ?_)
      refine lv_iinc (v := (x3 + (1 : Int32))) (lv' := [(3, .int (x3 + (1 : Int32))), (2, .int (1 : Int32)), (0, .ref (aD G 43)), (1, .int x1)]) hx hb dX7_reaches_57 hl (k := 3) rfl rfl (by decide) rfl (fun ls hl => ?_)
      refine lv_goto (tgt := 4) hx hb dX7_reaches_60 (by decide) ?_
      exact hN4 _ (Option.some.inj hE).symm _ _ _ hP hD hS (lv_sub hl [2, 3, 1, 0] rfl)
    have J_55 : ∀ (x3 : Int32) (H : Heap) (locs : List Loc) (ls : Array Slot), va_P G.1 vwCl (wM G σ) H → va_D A (wM G σ) → va_S A s.heap H locs → lv_has ls 4 [(0, .ref (aD G 43)), (1, .int x1), (3, .int x3)] → f_X7_reaches_J55 x1 x3 σ = some t4 → W p l e rmX7_reaches s m args below meth c H locs 0 0 Q (F0 m 55 ls []) := by
      intro x3 H locs ls hP hD hS hl hE
      unfold f_X7_reaches_J55 at hE
      refine lv_iconst (v := (0 : Int32)) hx hb dX7_reaches_55 (by decide) ?_
      refine lv_istore_n (lv' := [(2, .int (0 : Int32)), (0, .ref (aD G 43)), (1, .int x1), (3, .int x3)]) hx hb dX7_reaches_56 rfl hl (by decide) rfl (fun ls hl => ?_)
      refine lv_iinc (v := (x3 + (1 : Int32))) (lv' := [(3, .int (x3 + (1 : Int32))), (2, .int (0 : Int32)), (0, .ref (aD G 43)), (1, .int x1)]) hx hb dX7_reaches_57 hl (k := 3) rfl rfl (by decide) rfl (fun ls hl => ?_)
      refine lv_goto (tgt := 4) hx hb dX7_reaches_60 (by decide) ?_
      exact hN4 _ (Option.some.inj hE).symm _ _ _ hP hD hS (lv_sub hl [2, 3, 1, 0] rfl)
    refine lv_iload_n hx hb dX7_reaches_4 rfl (lv_at hl 3 rfl) ?_
    refine lv_aload_n hx hb dX7_reaches_5 rfl (lv_at hl 0 rfl) ?_
    refine va_get (ci := 7) (v := .int (gI σ 3)) (C := RX7) (T := TX7) (N := 17) hx hb hts (fun _ h => List.mem_cons_of_mem _ (List.mem_append_right _ h)) hown hK hP 13 rfl rfl 13 (by decide) (hts (.fieldLink RX7 112 "FillCellsModel" "size" "I") (List.mem_of_getElem? (i := 1) rfl)) (fun _ h9 => h9) rfl dX7_reaches_6 ?_
    refine lv_icmp_ge (tgt := 63) hx hb dX7_reaches_9 (by decide) (fun c_ => ?_) (fun c_ => ?_)
    · have hE := ip c_ hE
      have e9 := hY4 _ (Option.some.inj hE).symm
      have hE := hE4
      rw [← e9] at hE
      refine lv_iload_n hx hb dX7_reaches_63 rfl (lv_at hl 2 rfl) ?_
      obtain ⟨h_n, hE⟩ := gb_some hE
      rw [← hQ, ← Option.some.inj hE]
      exact rz hx hb hr hlocks hK hP hD hS h_n dX7_reaches_64
    · have hE := im c_ hE
      refine lv_iload_n hx hb dX7_reaches_12 rfl (lv_at hl 2 rfl) ?_
      refine lv_if_ne (tgt := 51) hx hb dX7_reaches_13 (by decide) (fun c_ => ?_) (fun c_ => ?_)
      · have hE := im c_ hE
        exact J_51 v4.2 _ _ _ hP hD hS (lv_sub hl [0, 1, 3] rfl) hE
      · have hE := ip c_ hE
        refine lv_iload_n hx hb dX7_reaches_16 rfl (lv_at hl 1 rfl) ?_
        refine lv_if_ge (tgt := 37) hx hb dX7_reaches_17 (by decide) (fun c_ => ?_) (fun c_ => ?_)
        · have hE := ip c_ hE
          refine lv_aload_n hx hb dX7_reaches_37 rfl (lv_at hl 0 rfl) ?_
          refine lv_iload_n hx hb dX7_reaches_38 rfl (lv_at hl 1 rfl) ?_
          refine lv_aload_n hx hb dX7_reaches_39 rfl (lv_at hl 0 rfl) ?_
          refine va_get (ci := 7) (v := .ref (aD G 39)) (C := RX7) (T := TX7) (N := 17) hx hb hts (fun _ h => List.mem_cons_of_mem _ (List.mem_append_right _ h)) hown hK hP 13 rfl rfl 12 (by decide) (hts (.fieldLink RX7 37 "FillCellsModel" "members" "[I") (List.mem_of_getElem? (i := 3) rfl)) (fun _ h9 => h9) rfl dX7_reaches_40 ?_
          refine lv_iload_n hx hb dX7_reaches_43 rfl (lv_at hl 3 rfl) ?_
          obtain ⟨h_i, hE⟩ := gd_some hE
          refine ldM hx hb hK hP 9 (by decide) h_i dX7_reaches_44 ?_
          obtain ⟨r1, hC, hE⟩ := bnd_some hE
          refine ci (va_runV (As := [.int x1, .int (rd σ 9 v4.2)]) (rest := []) ⟨hx, hb, hml, hown, hts⟩ (c_X7_has l G x1 (rd σ 9 v4.2) σ r1 hC _) (cwV 2 hts gX7_reaches_X7_has rfl rfl rfl (by decide +kernel) ⟨Nat.le_of_ble_eq_true rfl, Nat.le_of_ble_eq_true rfl⟩) (preV hK hP hD hS hA hX (va_recv hK hP (ci := 7) (q0 := 13) rfl rfl)) rfl rfl hl.1 rfl (lv_room (Nat.le_of_ble_eq_true rfl)) dX7_reaches_45 ⟨Nat.le_of_ble_eq_true rfl, Nat.le_of_ble_eq_true rfl⟩) hD hS hA (fun H locs hP hD hS => ?_)
          refine lv_if_eq (tgt := 55) hx hb dX7_reaches_48 (by decide) (fun c_ => ?_) (fun c_ => ?_)
          · have hE := ip c_ hE
            exact J_55 v4.2 _ _ _ hP hD hS (lv_sub hl [0, 1, 3] rfl) hE
          · have hE := im c_ hE
            exact J_51 v4.2 _ _ _ hP hD hS (lv_sub hl [0, 1, 3] rfl) hE
        · have hE := im c_ hE
          refine lv_aload_n hx hb dX7_reaches_20 rfl (lv_at hl 0 rfl) ?_
          refine va_get (ci := 7) (v := .ref (aD G 37)) (C := RX7) (T := TX7) (N := 17) hx hb hts (fun _ h => List.mem_cons_of_mem _ (List.mem_append_right _ h)) hown hK hP 13 rfl rfl 10 (by decide) (hts (.fieldLink RX7 31 "FillCellsModel" "thin" "[I") (List.mem_of_getElem? (i := 2) rfl)) (fun _ h9 => h9) rfl dX7_reaches_21 ?_
          refine lv_aload_n hx hb dX7_reaches_24 rfl (lv_at hl 0 rfl) ?_
          refine va_get (ci := 7) (v := .ref (aD G 39)) (C := RX7) (T := TX7) (N := 17) hx hb hts (fun _ h => List.mem_cons_of_mem _ (List.mem_append_right _ h)) hown hK hP 13 rfl rfl 12 (by decide) (hts (.fieldLink RX7 37 "FillCellsModel" "members" "[I") (List.mem_of_getElem? (i := 3) rfl)) (fun _ h9 => h9) rfl dX7_reaches_25 ?_
          refine lv_iload_n hx hb dX7_reaches_28 rfl (lv_at hl 3 rfl) ?_
          obtain ⟨h_i, hE⟩ := gd_some hE
          refine ldM hx hb hK hP 9 (by decide) h_i dX7_reaches_29 ?_
          obtain ⟨h_i, hE⟩ := gd_some hE
          refine ldM hx hb hK hP 7 (by decide) h_i dX7_reaches_30 ?_
          refine lv_if_le (tgt := 55) hx hb dX7_reaches_31 (by decide) (fun c_ => ?_) (fun c_ => ?_)
          · have hE := ip c_ hE
            exact J_55 v4.2 _ _ _ hP hD hS (lv_sub hl [0, 1, 3] rfl) hE
          · have hE := im c_ hE
            refine lv_goto (tgt := 51) hx hb dX7_reaches_34 (by decide) ?_
            exact J_51 v4.2 _ _ _ hP hD hS (lv_sub hl [0, 1, 3] rfl) hE
  refine lv_iconst (v := (0 : Int32)) hx hb dX7_reaches_0 (by decide) ?_
  refine lv_istore_n (lv' := [(2, .int (0 : Int32)), (0, .ref (aD G 43)), (1, .int x1)]) hx hb dX7_reaches_1 rfl hl (by decide) rfl (fun ls hl => ?_)
  refine lv_iconst (v := (0 : Int32)) hx hb dX7_reaches_2 (by decide) ?_
  refine lv_istore_n (lv' := [(3, .int (0 : Int32)), (2, .int (0 : Int32)), (0, .ref (aD G 43)), (1, .int x1)]) hx hb dX7_reaches_3 rfl hl (by decide) rfl (fun ls hl => ?_)
  exact J_4 (0 : Int32) (0 : Int32) _ _ _ hP hD hS (lv_sub hl [2, 3, 1, 0] rfl) hE
abbrev rmX7_thinnest : Room := { frames := 1, cells := 0, slots := 0, locals := 21 }
def f_X7_thinnest_J41 (x1 : Int32) (x2 : Int32) (σ : St) : Option (((Int32)) ⊕ (Int32 × Int32)) := some (.inr (x1, (x2 + (1 : Int32))))
def f_X7_thinnest_J37 (x2 : Int32) (σ : St) : Option (((Int32)) ⊕ (Int32 × Int32)) := some (.inr (x2, (x2 + (1 : Int32))))
def f_X7_thinnest_L4 (σ : St) (v4 : Int32 × Int32) : Option (((Int32)) ⊕ (Int32 × Int32)) := if (80 : Int32) ≤ v4.2 then (some (.inl (v4.1))) else (bnd (f_X7_isThin v4.2 σ) (fun r1 => if r1 = 0 then (f_X7_thinnest_J41 v4.1 v4.2 σ) else (if v4.1 < 0 then (f_X7_thinnest_J37 v4.2 σ) else (gd v4.2 80 (gd v4.1 80 (if (rd σ 6 v4.1) ≤ (rd σ 6 v4.2) then (f_X7_thinnest_J41 v4.1 v4.2 σ) else (f_X7_thinnest_J37 v4.2 σ)))))))
def f_X7_thinnest_J4 (x1 : Int32) (x2 : Int32) (σ : St) : Option Int32 := bnd (loopN (f_X7_thinnest_L4 σ) 4096 (x1, x2)) (fun y4 => some y4)
def f_X7_thinnest (σ : St) : Option Int32 := f_X7_thinnest_J4 (-1 : Int32) (0 : Int32) σ
set_option maxHeartbeats 4000000 in
set_option maxRecDepth 100000 in
theorem c_X7_thinnest (l : Launch) (G : EV)   (σ : St) (r : Int32) (hE : f_X7_thinnest σ = some r) : MetI l G yX7_thinnest wsX7_thinnest rmX7_thinnest [.ref (aD G 43)] (wM G σ) r (wM G σ) := by
  refine Met.of0 (Qf := PI G r (wM G σ)) (cc := cX7_thinnest) (maxL := 3) (ret := (some .int)) (by decide) rfl (Nat.le_of_ble_eq_true rfl) ?_
  intro p e s m below meth c args A hx hb hr hts hown hlocks hml hin0 hA hS hP hK hD hX ls hl
  have hl : lv_has ls 3 [(0, .ref (aD G 43))] := hl
  generalize hQ : MQ below (PI G r (wM G σ) A) args s 0 0 A = Q
  unfold f_X7_thinnest at hE
  have J_4 : ∀ (x1 : Int32) (x2 : Int32) (H : Heap) (locs : List Loc) (ls : Array Slot), va_P G.1 vwCl (wM G σ) H → va_D A (wM G σ) → va_S A s.heap H locs → lv_has ls 3 [(0, .ref (aD G 43)), (1, .int x1), (2, .int x2)] → f_X7_thinnest_J4 x1 x2 σ = some r → W p l e rmX7_thinnest s m args below meth c H locs 0 0 Q (F0 m 4 ls []) := by
    intro x1 x2 H locs ls hP hD hS hl hE
    unfold f_X7_thinnest_J4 at hE
    obtain ⟨y4, hL, hE4⟩ := bnd_some hE
    refine loop_W (body := f_X7_thinnest_L4 σ) (y := y4) (P := fun v4 => ∀ (H : Heap) (locs : List Loc) (ls : Array Slot), va_P G.1 vwCl (wM G σ) H → va_D A (wM G σ) → va_S A s.heap H locs → lv_has ls 3 [(0, .ref (aD G 43)), (1, .int v4.1), (2, .int v4.2)] → W p l e rmX7_thinnest s m args below meth c H locs 0 0 Q (F0 m 4 ls [])) ?_ _ _ hL H locs ls hP hD hS hl
    clear hP hD hS hl hE hL
    intro v4 t4 hE hN4 hY4
    intro H locs ls hP hD hS hl
    unfold f_X7_thinnest_L4 at hE
    have J_41 : ∀ (x1 : Int32) (x2 : Int32) (H : Heap) (locs : List Loc) (ls : Array Slot), va_P G.1 vwCl (wM G σ) H → va_D A (wM G σ) → va_S A s.heap H locs → lv_has ls 3 [(0, .ref (aD G 43)), (1, .int x1), (2, .int x2)] → f_X7_thinnest_J41 x1 x2 σ = some t4 → W p l e rmX7_thinnest s m args below meth c H locs 0 0 Q (F0 m 41 ls []) := by
      intro x1 x2 H locs ls hP hD hS hl hE
      unfold f_X7_thinnest_J41 at hE
      refine lv_iload_n hx hb dX7_thinnest_41 rfl (lv_at hl 1 rfl) ?_
      refine lv_istore_n (lv' := [(1, .int x1), (0, .ref (aD G 43)), (2, .int x2)]) hx hb dX7_thinnest_42 rfl hl (by decide) rfl (fun ls hl => ?_)
      refine lv_iinc (v := (x2 + (1 : Int32))) (lv' := [(2, .int (x2 + (1 : Int32))), (1, .int x1), (0, .ref (aD G 43))]) hx hb dX7_thinnest_43 hl (k := 2) rfl rfl (by decide) rfl (fun ls hl => ?_)
      refine lv_goto (tgt := 4) hx hb dX7_thinnest_46 (by decide) ?_
      exact hN4 _ (Option.some.inj hE).symm _ _ _ hP hD hS (lv_sub hl [2, 1, 0] rfl)
    have J_37 : ∀ (x2 : Int32) (H : Heap) (locs : List Loc) (ls : Array Slot), va_P G.1 vwCl (wM G σ) H → va_D A (wM G σ) → va_S A s.heap H locs → lv_has ls 3 [(0, .ref (aD G 43)), (2, .int x2)] → f_X7_thinnest_J37 x2 σ = some t4 → W p l e rmX7_thinnest s m args below meth c H locs 0 0 Q (F0 m 37 ls []) := by
      intro x2 H locs ls hP hD hS hl hE
      unfold f_X7_thinnest_J37 at hE
      refine lv_iload_n hx hb dX7_thinnest_37 rfl (lv_at hl 1 rfl) ?_
      refine lv_goto (tgt := 42) hx hb dX7_thinnest_38 (by decide) ?_
      refine lv_istore_n (lv' := [(1, .int x2), (0, .ref (aD G 43)), (2, .int x2)]) hx hb dX7_thinnest_42 rfl hl (by decide) rfl (fun ls hl => ?_)
      refine lv_iinc (v := (x2 + (1 : Int32))) (lv' := [(2, .int (x2 + (1 : Int32))), (1, .int x2), (0, .ref (aD G 43))]) hx hb dX7_thinnest_43 hl (k := 2) rfl rfl (by decide) rfl (fun ls hl => ?_)
      refine lv_goto (tgt := 4) hx hb dX7_thinnest_46 (by decide) ?_
      exact hN4 _ (Option.some.inj hE).symm _ _ _ hP hD hS (lv_sub hl [2, 1, 0] rfl)
    refine lv_iload_n hx hb dX7_thinnest_4 rfl (lv_at hl 2 rfl) ?_
    refine lv_bipush (v := (80 : Int32)) hx hb dX7_thinnest_5 (by decide) ?_
    refine lv_icmp_ge (tgt := 49) hx hb dX7_thinnest_7 (by decide) (fun c_ => ?_) (fun c_ => ?_)
    · have hE := ip c_ hE
      have e9 := hY4 _ (Option.some.inj hE).symm
      have hE := hE4
      rw [← e9] at hE
      refine lv_iload_n hx hb dX7_thinnest_49 rfl (lv_at hl 1 rfl) ?_
      rw [← hQ, ← Option.some.inj hE]
      exact ri hx hb hr hlocks hK hP hD hS dX7_thinnest_50
    · have hE := im c_ hE
      refine lv_aload_n hx hb dX7_thinnest_10 rfl (lv_at hl 0 rfl) ?_
      refine lv_iload_n hx hb dX7_thinnest_11 rfl (lv_at hl 2 rfl) ?_
      obtain ⟨r1, hC, hE⟩ := bnd_some hE
      refine ci (va_runV (As := [.int v4.2]) (rest := []) ⟨hx, hb, hml, hown, hts⟩ (c_X7_isThin l G v4.2 σ r1 hC _) (cwV 1 hts gX7_thinnest_X7_isThin rfl rfl rfl (by decide +kernel) ⟨Nat.le_of_ble_eq_true rfl, Nat.le_of_ble_eq_true rfl⟩) (preV hK hP hD hS hA hX (va_recv hK hP (ci := 7) (q0 := 13) rfl rfl)) rfl rfl hl.1 rfl (lv_room (Nat.le_of_ble_eq_true rfl)) dX7_thinnest_12 ⟨Nat.le_of_ble_eq_true rfl, Nat.le_of_ble_eq_true rfl⟩) hD hS hA (fun H locs hP hD hS => ?_)
      refine lv_if_eq (tgt := 41) hx hb dX7_thinnest_15 (by decide) (fun c_ => ?_) (fun c_ => ?_)
      · have hE := ip c_ hE
        exact J_41 v4.1 v4.2 _ _ _ hP hD hS (lv_sub hl [0, 1, 2] rfl) hE
      · have hE := im c_ hE
        refine lv_iload_n hx hb dX7_thinnest_18 rfl (lv_at hl 1 rfl) ?_
        refine lv_if_lt (tgt := 37) hx hb dX7_thinnest_19 (by decide) (fun c_ => ?_) (fun c_ => ?_)
        · have hE := ip c_ hE
          exact J_37 v4.2 _ _ _ hP hD hS (lv_sub hl [0, 2] rfl) hE
        · have hE := im c_ hE
          refine lv_aload_n hx hb dX7_thinnest_22 rfl (lv_at hl 0 rfl) ?_
          refine va_get (ci := 7) (v := .ref (aD G 36)) (C := RX7) (T := TX7) (N := 17) hx hb hts (fun _ h => List.mem_cons_of_mem _ (List.mem_append_right _ h)) hown hK hP 13 rfl rfl 9 (by decide) (hts (.fieldLink RX7 28 "FillCellsModel" "sums" "[I") (List.mem_of_getElem? (i := 1) rfl)) (fun _ h9 => h9) rfl dX7_thinnest_23 ?_
          refine lv_iload_n hx hb dX7_thinnest_26 rfl (lv_at hl 2 rfl) ?_
          obtain ⟨h_i, hE⟩ := gd_some hE
          refine ldM hx hb hK hP 6 (by decide) h_i dX7_thinnest_27 ?_
          refine lv_aload_n hx hb dX7_thinnest_28 rfl (lv_at hl 0 rfl) ?_
          refine va_get (ci := 7) (v := .ref (aD G 36)) (C := RX7) (T := TX7) (N := 17) hx hb hts (fun _ h => List.mem_cons_of_mem _ (List.mem_append_right _ h)) hown hK hP 13 rfl rfl 9 (by decide) (hts (.fieldLink RX7 28 "FillCellsModel" "sums" "[I") (List.mem_of_getElem? (i := 1) rfl)) (fun _ h9 => h9) rfl dX7_thinnest_29 ?_
          refine lv_iload_n hx hb dX7_thinnest_32 rfl (lv_at hl 1 rfl) ?_
          obtain ⟨h_i, hE⟩ := gd_some hE
          refine ldM hx hb hK hP 6 (by decide) h_i dX7_thinnest_33 ?_
          refine lv_icmp_ge (tgt := 41) hx hb dX7_thinnest_34 (by decide) (fun c_ => ?_) (fun c_ => ?_)
          · have hE := ip c_ hE
            exact J_41 v4.1 v4.2 _ _ _ hP hD hS (lv_sub hl [0, 1, 2] rfl) hE
          · have hE := im c_ hE
            exact J_37 v4.2 _ _ _ hP hD hS (lv_sub hl [0, 2] rfl) hE
  refine lv_iconst (v := (-1 : Int32)) hx hb dX7_thinnest_0 (by decide) ?_
  refine lv_istore_n (lv' := [(1, .int (-1 : Int32)), (0, .ref (aD G 43))]) hx hb dX7_thinnest_1 rfl hl (by decide) rfl (fun ls hl => ?_)
  refine lv_iconst (v := (0 : Int32)) hx hb dX7_thinnest_2 (by decide) ?_
  refine lv_istore_n (lv' := [(2, .int (0 : Int32)), (1, .int (-1 : Int32)), (0, .ref (aD G 43))]) hx hb dX7_thinnest_3 rfl hl (by decide) rfl (fun ls hl => ?_)
  exact J_4 (-1 : Int32) (0 : Int32) _ _ _ hP hD hS (lv_sub hl [2, 1, 0] rfl) hE
abbrev rmX7_keyBy : Room := { frames := 1, cells := 0, slots := 0, locals := 21 }

def f_X7_keyBy (x1 x2 : Int32) (σ : St) : Option Int32 := if x1 = (1 : Int32) then (bnd (f_X7_sumOf x2 σ) (fun r1 => some r1)) else (if x1 = (2 : Int32) then (gd x2 80 (some (-(rd σ 7 x2)))) else (if x1 = (3 : Int32) then (gd (1 : Int32) 4 (gd (2 : Int32) 4 (gd (3 : Int32) 4 (some (((rd σ 11 (1 : Int32)) + (rd σ 11 (2 : Int32))) + (rd σ 11 (3 : Int32))))))) else (some (0 : Int32))))
set_option maxHeartbeats 4000000 in
set_option maxRecDepth 100000 in
theorem c_X7_keyBy (l : Launch) (G : EV)  (x1 x2 : Int32) (σ : St) (r : Int32) (hE : f_X7_keyBy x1 x2 σ = some r) : MetI l G yX7_keyBy wsX7_keyBy rmX7_keyBy [.ref (aD G 43), .int x1, .int x2] (wM G σ) r (wM G σ) := by
  refine Met.of0 (Qf := PI G r (wM G σ)) (cc := cX7_keyBy) (maxL := 3) (ret := (some .int)) (by decide) rfl (Nat.le_of_ble_eq_true rfl) ?_
  intro p e s m below meth c args A hx hb hr hts hown hlocks hml hin0 hA hS hP hK hD hX ls hl
  have hl : lv_has ls 3 [(0, .ref (aD G 43)), (1, .int x1), (2, .int x2)] := hl
  generalize hQ : MQ below (PI G r (wM G σ) A) args s 0 0 A = Q
  unfold f_X7_keyBy at hE
  refine lv_iload_n hx hb dX7_keyBy_0 rfl (lv_at hl 1 rfl) ?_
  refine lv_iconst (v := (1 : Int32)) hx hb dX7_keyBy_1 (by decide) ?_
  refine lv_icmp_ne (tgt := 13) hx hb dX7_keyBy_2 (by decide) (fun c_ => ?_) (fun c_ => ?_)
  · have hE := im c_ hE
    refine lv_iload_n hx hb dX7_keyBy_13 rfl (lv_at hl 1 rfl) ?_
    refine lv_iconst (v := (2 : Int32)) hx hb dX7_keyBy_14 (by decide) ?_
    refine lv_icmp_ne (tgt := 28) hx hb dX7_keyBy_15 (by decide) (fun c_ => ?_) (fun c_ => ?_)
    · have hE := im c_ hE
      refine lv_iload_n hx hb dX7_keyBy_28 rfl (lv_at hl 1 rfl) ?_
      refine lv_iconst (v := (3 : Int32)) hx hb dX7_keyBy_29 (by decide) ?_
      refine lv_icmp_ne (tgt := 56) hx hb dX7_keyBy_30 (by decide) (fun c_ => ?_) (fun c_ => ?_)
      · have hE := im c_ hE
        refine lv_iconst (v := (0 : Int32)) hx hb dX7_keyBy_56 (by decide) ?_
        rw [← hQ, ← Option.some.inj hE]
        exact ri hx hb hr hlocks hK hP hD hS dX7_keyBy_57
      · have hE := ip c_ hE
        refine lv_aload_n hx hb dX7_keyBy_33 rfl (lv_at hl 0 rfl) ?_
        refine va_get (ci := 7) (v := .ref (aD G 41)) (C := RX7) (T := TX7) (N := 17) hx hb hts (fun _ h => List.mem_cons_of_mem _ (List.mem_append_right _ h)) hown hK hP 13 rfl rfl 15 (by decide) (hts (.fieldLink RX7 43 "FillCellsModel" "more" "[I") (List.mem_of_getElem? (i := 2) rfl)) (fun _ h9 => h9) rfl dX7_keyBy_34 ?_
        refine lv_iconst (v := (1 : Int32)) hx hb dX7_keyBy_37 (by decide) ?_
        obtain ⟨h_i, hE⟩ := gd_some hE
        refine ldM hx hb hK hP 11 (by decide) h_i dX7_keyBy_38 ?_
        refine lv_aload_n hx hb dX7_keyBy_39 rfl (lv_at hl 0 rfl) ?_
        refine va_get (ci := 7) (v := .ref (aD G 41)) (C := RX7) (T := TX7) (N := 17) hx hb hts (fun _ h => List.mem_cons_of_mem _ (List.mem_append_right _ h)) hown hK hP 13 rfl rfl 15 (by decide) (hts (.fieldLink RX7 43 "FillCellsModel" "more" "[I") (List.mem_of_getElem? (i := 2) rfl)) (fun _ h9 => h9) rfl dX7_keyBy_40 ?_
        refine lv_iconst (v := (2 : Int32)) hx hb dX7_keyBy_43 (by decide) ?_
        obtain ⟨h_i, hE⟩ := gd_some hE
        refine ldM hx hb hK hP 11 (by decide) h_i dX7_keyBy_44 ?_
        refine lv_iadd hx hb dX7_keyBy_45 ?_
        refine lv_aload_n hx hb dX7_keyBy_46 rfl (lv_at hl 0 rfl) ?_
        refine va_get (ci := 7) (v := .ref (aD G 41)) (C := RX7) (T := TX7) (N := 17) hx hb hts (fun _ h => List.mem_cons_of_mem _ (List.mem_append_right _ h)) hown hK hP 13 rfl rfl 15 (by decide) (hts (.fieldLink RX7 43 "FillCellsModel" "more" "[I") (List.mem_of_getElem? (i := 2) rfl)) (fun _ h9 => h9) rfl dX7_keyBy_47 ?_
        refine lv_iconst (v := (3 : Int32)) hx hb dX7_keyBy_50 (by decide) ?_
        obtain ⟨h_i, hE⟩ := gd_some hE
        refine ldM hx hb hK hP 11 (by decide) h_i dX7_keyBy_51 ?_
        refine lv_iadd hx hb dX7_keyBy_52 ?_
        refine lv_goto (tgt := 57) hx hb dX7_keyBy_53 (by decide) ?_
        rw [← hQ, ← Option.some.inj hE]
        exact ri hx hb hr hlocks hK hP hD hS dX7_keyBy_57
    · have hE := ip c_ hE
      refine lv_aload_n hx hb dX7_keyBy_18 rfl (lv_at hl 0 rfl) ?_
      refine va_get (ci := 7) (v := .ref (aD G 37)) (C := RX7) (T := TX7) (N := 17) hx hb hts (fun _ h => List.mem_cons_of_mem _ (List.mem_append_right _ h)) hown hK hP 13 rfl rfl 10 (by decide) (hts (.fieldLink RX7 31 "FillCellsModel" "thin" "[I") (List.mem_of_getElem? (i := 1) rfl)) (fun _ h9 => h9) rfl dX7_keyBy_19 ?_
      refine lv_iload_n hx hb dX7_keyBy_22 rfl (lv_at hl 2 rfl) ?_
      obtain ⟨h_i, hE⟩ := gd_some hE
      refine ldM hx hb hK hP 7 (by decide) h_i dX7_keyBy_23 ?_
      refine lv_ineg hx hb dX7_keyBy_24 ?_
      refine lv_goto (tgt := 57) hx hb dX7_keyBy_25 (by decide) ?_
      rw [← hQ, ← Option.some.inj hE]
      exact ri hx hb hr hlocks hK hP hD hS dX7_keyBy_57
  · have hE := ip c_ hE
    refine lv_aload_n hx hb dX7_keyBy_5 rfl (lv_at hl 0 rfl) ?_
    refine lv_iload_n hx hb dX7_keyBy_6 rfl (lv_at hl 2 rfl) ?_
    obtain ⟨r1, hC, hE⟩ := bnd_some hE
    refine ci (va_runV (As := [.int x2]) (rest := []) ⟨hx, hb, hml, hown, hts⟩ (c_X7_sumOf l G x2 σ r1 hC _) (cwV 1 hts gX7_keyBy_X7_sumOf rfl rfl rfl (by decide +kernel) ⟨Nat.le_of_ble_eq_true rfl, Nat.le_of_ble_eq_true rfl⟩) (preV hK hP hD hS hA hX (va_recv hK hP (ci := 7) (q0 := 13) rfl rfl)) rfl rfl hl.1 rfl (lv_room (Nat.le_of_ble_eq_true rfl)) dX7_keyBy_7 ⟨Nat.le_of_ble_eq_true rfl, Nat.le_of_ble_eq_true rfl⟩) hD hS hA (fun H locs hP hD hS => ?_)
    refine lv_goto (tgt := 57) hx hb dX7_keyBy_10 (by decide) ?_
    rw [← hQ, ← Option.some.inj hE]
    exact ri hx hb hr hlocks hK hP hD hS dX7_keyBy_57
abbrev rmX7_nextBy : Room := { frames := 4, cells := 0, slots := 0, locals := 87 }
def f_X7_nextBy_J88 (x3 : Int32) (σ : St) : Option (Int32 × St) := if x3 = (-1 : Int32) then (some (x3, σ)) else (bnd (f_X7_marks x3 σ) (fun r3 => some (x3, r3)))
def f_X7_nextBy_J75 (x1 : Int32) (x2 : Int32) (x5 : Int32) (x6 : Int32) (σ : St) : Option (((Int32 × St)) ⊕ (Int32 × Int32 × Int32 × St)) := some (.inr (x5, x6, (x5 + (1 : Int32)), σ))
def f_X7_nextBy_J48 (x1 : Int32) (x2 : Int32) (x3 : Int32) (x4 : Int32) (x5 : Int32) (t0 : Int32) (σ : St) : Option (((Int32 × St)) ⊕ (Int32 × Int32 × Int32 × St)) := bnd (f_X7_reaches t0 σ) (fun r5 => if r5 = 0 then (some (.inr (x3, x4, (x5 + (1 : Int32)), σ))) else (bnd (f_X7_keyBy x1 x5 σ) (fun r6 => if x3 = (-1 : Int32) then (f_X7_nextBy_J75 x1 x2 x5 r6 σ) else (if x4 ≤ r6 then (some (.inr (x3, x4, (x5 + (1 : Int32)), σ))) else (f_X7_nextBy_J75 x1 x2 x5 r6 σ)))))
def f_X7_nextBy_L17 (x1 : Int32) (x2 : Int32) (v17 : Int32 × Int32 × Int32 × St) : Option (((Int32 × St)) ⊕ (Int32 × Int32 × Int32 × St)) := if (80 : Int32) ≤ v17.2.2.1 then (some (.inl (v17.1, v17.2.2.2))) else (if x2 < 0 then (some (.inl (v17.1, v17.2.2.2))) else (bnd (f_X7_may v17.2.2.1 v17.2.2.2) (fun r4 => if r4.1 = 0 then (some (.inr (v17.1, v17.2.1, (v17.2.2.1 + (1 : Int32)), r4.2))) else (if x1 = (4 : Int32) then (f_X7_nextBy_J48 x1 x2 v17.1 v17.2.1 v17.2.2.1 x2 r4.2) else (f_X7_nextBy_J48 x1 x2 v17.1 v17.2.1 v17.2.2.1 (-1 : Int32) r4.2)))))
def f_X7_nextBy_J17 (x1 : Int32) (x2 : Int32) (x3 : Int32) (x4 : Int32) (x5 : Int32) (σ : St) : Option (Int32 × St) := bnd (loopN (f_X7_nextBy_L17 x1 x2) 4096 (x3, x4, x5, σ)) (fun y17 => f_X7_nextBy_J88 y17.1 y17.2)
def f_X7_nextBy (x1 : Int32) (σ : St) : Option (Int32 × St) := bnd (f_X7_lays σ) (fun r1 => bnd (f_X7_thinnest r1) (fun r2 => f_X7_nextBy_J17 x1 r2 (-1 : Int32) (0 : Int32) (0 : Int32) r1))
set_option maxHeartbeats 4000000 in
set_option maxRecDepth 100000 in
theorem c_X7_nextBy (l : Launch) (G : EV)  (x1 : Int32) (σ : St) (r : (Int32 × St)) (hE : f_X7_nextBy x1 σ = some r) : MetI l G yX7_nextBy wsX7_nextBy rmX7_nextBy [.ref (aD G 43), .int x1] (wM G σ) r.1 (wM G r.2) := by
  refine Met.of0 (Qf := PI G r.1 (wM G r.2)) (cc := cX7_nextBy) (maxL := 7) (ret := (some .int)) (by decide) rfl (Nat.le_of_ble_eq_true rfl) ?_
  intro p e s m below meth c args A hx hb hr hts hown hlocks hml hin0 hA hS hP hK hD hX ls hl
  have hl : lv_has ls 7 [(0, .ref (aD G 43)), (1, .int x1)] := hl
  generalize hQ : MQ below (PI G r.1 (wM G r.2) A) args s 0 0 A = Q
  unfold f_X7_nextBy at hE
  have J_88 : ∀ (x3 : Int32) (σ : St) (H : Heap) (locs : List Loc) (ls : Array Slot), va_P G.1 vwCl (wM G σ) H → va_D A (wM G σ) → va_S A s.heap H locs → lv_has ls 7 [(0, .ref (aD G 43)), (3, .int x3)] → f_X7_nextBy_J88 x3 σ = some r → W p l e rmX7_nextBy s m args below meth c H locs 0 0 Q (F0 m 88 ls []) := by
    intro x3 σ H locs ls hP hD hS hl hE
    unfold f_X7_nextBy_J88 at hE
    refine lv_iload_n hx hb dX7_nextBy_88 rfl (lv_at hl 1 rfl) ?_
    refine lv_iconst (v := (-1 : Int32)) hx hb dX7_nextBy_89 (by decide) ?_
    refine lv_icmp_eq (tgt := 98) hx hb dX7_nextBy_90 (by decide) (fun c_ => ?_) (fun c_ => ?_)
    · have hE := ip c_ hE
      refine lv_iload_n hx hb dX7_nextBy_98 rfl (lv_at hl 1 rfl) ?_
      rw [← hQ, ← Option.some.inj hE]
      exact ri hx hb hr hlocks hK hP hD hS dX7_nextBy_99
    · have hE := im c_ hE
      refine lv_aload_n hx hb dX7_nextBy_93 rfl (lv_at hl 0 rfl) ?_
      refine lv_iload_n hx hb dX7_nextBy_94 rfl (lv_at hl 1 rfl) ?_
      obtain ⟨r3, hC, hE⟩ := bnd_some hE
      refine cv (va_runV (As := [.int x3]) (rest := []) ⟨hx, hb, hml, hown, hts⟩ (c_X7_marks l G x3 σ r3 hC _) (cwV 1 hts gX7_nextBy_X7_marks rfl rfl rfl (by decide +kernel) ⟨Nat.le_of_ble_eq_true rfl, Nat.le_of_ble_eq_true rfl⟩) (preV hK hP hD hS hA hX (va_recv hK hP (ci := 7) (q0 := 13) rfl rfl)) rfl rfl hl.1 rfl (lv_room (Nat.le_of_ble_eq_true rfl)) dX7_nextBy_95 ⟨Nat.le_of_ble_eq_true rfl, Nat.le_of_ble_eq_true rfl⟩) hD hS hA (fun H locs hP hD hS => ?_)
      refine lv_iload_n hx hb dX7_nextBy_98 rfl (lv_at hl 1 rfl) ?_
      rw [← hQ, ← Option.some.inj hE]
      exact ri hx hb hr hlocks hK hP hD hS dX7_nextBy_99
  have J_17 : ∀ (x2 : Int32) (x3 : Int32) (x4 : Int32) (x5 : Int32) (σ : St) (H : Heap) (locs : List Loc) (ls : Array Slot), va_P G.1 vwCl (wM G σ) H → va_D A (wM G σ) → va_S A s.heap H locs → lv_has ls 7 [(0, .ref (aD G 43)), (1, .int x1), (2, .int x2), (3, .int x3), (4, .int x4), (5, .int x5)] → f_X7_nextBy_J17 x1 x2 x3 x4 x5 σ = some r → W p l e rmX7_nextBy s m args below meth c H locs 0 0 Q (F0 m 17 ls []) := by
    intro x2 x3 x4 x5 σ H locs ls hP hD hS hl hE
    unfold f_X7_nextBy_J17 at hE
    obtain ⟨y17, hL, hE17⟩ := bnd_some hE
    refine loop_W (body := f_X7_nextBy_L17 x1 x2) (y := y17) (P := fun v17 => ∀ (H : Heap) (locs : List Loc) (ls : Array Slot), va_P G.1 vwCl (wM G v17.2.2.2) H → va_D A (wM G v17.2.2.2) → va_S A s.heap H locs → lv_has ls 7 [(0, .ref (aD G 43)), (1, .int x1), (2, .int x2), (3, .int v17.1), (4, .int v17.2.1), (5, .int v17.2.2.1)] → W p l e rmX7_nextBy s m args below meth c H locs 0 0 Q (F0 m 17 ls [])) ?_ _ _ hL H locs ls hP hD hS hl
    clear hP hD hS hl hE hL
    intro v17 t17 hE hN17 hY17
    intro H locs ls hP hD hS hl
    unfold f_X7_nextBy_L17 at hE
    have J_75 : ∀ (x5 : Int32) (x6 : Int32) (σ : St) (H : Heap) (locs : List Loc) (ls : Array Slot), va_P G.1 vwCl (wM G σ) H → va_D A (wM G σ) → va_S A s.heap H locs → lv_has ls 7 [(0, .ref (aD G 43)), (1, .int x1), (2, .int x2), (5, .int x5), (6, .int x6)] → f_X7_nextBy_J75 x1 x2 x5 x6 σ = some t17 → W p l e rmX7_nextBy s m args below meth c H locs 0 0 Q (F0 m 75 ls []) := by
      intro x5 x6 σ H locs ls hP hD hS hl hE
      unfold f_X7_nextBy_J75 at hE
      refine lv_iload hx hb dX7_nextBy_75 (lv_at hl 3 rfl) ?_
      refine lv_istore_n (lv' := [(3, .int x5), (0, .ref (aD G 43)), (1, .int x1), (2, .int x2), (5, .int x5), (6, .int x6)]) hx hb dX7_nextBy_77 rfl hl (by decide) rfl (fun ls hl => ?_)
      refine lv_iload hx hb dX7_nextBy_78 (lv_at hl 5 rfl) ?_
      refine lv_istore (lv' := [(4, .int x6), (3, .int x5), (0, .ref (aD G 43)), (1, .int x1), (2, .int x2), (5, .int x5), (6, .int x6)]) hx hb dX7_nextBy_80 hl (by decide) rfl (fun ls hl => ?_)
      refine lv_iinc (v := (x5 + (1 : Int32))) (lv' := [(5, .int (x5 + (1 : Int32))), (4, .int x6), (3, .int x5), (0, .ref (aD G 43)), (1, .int x1), (2, .int x2), (6, .int x6)]) hx hb dX7_nextBy_82 hl (k := 5) rfl rfl (by decide) rfl (fun ls hl => ?_)
      refine lv_goto (tgt := 17) hx hb dX7_nextBy_85 (by decide) ?_
      exact hN17 _ (Option.some.inj hE).symm _ _ _ hP hD hS (lv_sub hl [3, 4, 5, 2, 1, 0] rfl)
    have J_48 : ∀ (x3 : Int32) (x4 : Int32) (x5 : Int32) (t0 : Int32) (σ : St) (H : Heap) (locs : List Loc) (ls : Array Slot), va_P G.1 vwCl (wM G σ) H → va_D A (wM G σ) → va_S A s.heap H locs → lv_has ls 7 [(0, .ref (aD G 43)), (1, .int x1), (2, .int x2), (3, .int x3), (4, .int x4), (5, .int x5)] → f_X7_nextBy_J48 x1 x2 x3 x4 x5 t0 σ = some t17 → W p l e rmX7_nextBy s m args below meth c H locs 0 0 Q (F0 m 48 ls [.int t0, .ref (aD G 43)]) := by
      intro x3 x4 x5 t0 σ H locs ls hP hD hS hl hE
      unfold f_X7_nextBy_J48 at hE
      obtain ⟨r5, hC, hE⟩ := bnd_some hE
      refine ci (va_runV (As := [.int t0]) (rest := []) ⟨hx, hb, hml, hown, hts⟩ (c_X7_reaches l G t0 σ r5 hC _) (cwV 1 hts gX7_nextBy_X7_reaches rfl rfl rfl (by decide +kernel) ⟨Nat.le_of_ble_eq_true rfl, Nat.le_of_ble_eq_true rfl⟩) (preV hK hP hD hS hA hX (va_recv hK hP (ci := 7) (q0 := 13) rfl rfl)) rfl rfl hl.1 rfl (lv_room (Nat.le_of_ble_eq_true rfl)) dX7_nextBy_48 ⟨Nat.le_of_ble_eq_true rfl, Nat.le_of_ble_eq_true rfl⟩) hD hS hA (fun H locs hP hD hS => ?_)
      refine lv_if_eq (tgt := 82) hx hb dX7_nextBy_51 (by decide) (fun c_ => ?_) (fun c_ => ?_)
      · have hE := ip c_ hE
        refine lv_iinc (v := (x5 + (1 : Int32))) (lv' := [(5, .int (x5 + (1 : Int32))), (0, .ref (aD G 43)), (1, .int x1), (2, .int x2), (3, .int x3), (4, .int x4)]) hx hb dX7_nextBy_82 hl (k := 5) rfl rfl (by decide) rfl (fun ls hl => ?_)
        refine lv_goto (tgt := 17) hx hb dX7_nextBy_85 (by decide) ?_
        exact hN17 _ (Option.some.inj hE).symm _ _ _ hP hD hS (lv_sub hl [1, 2, 3, 4, 5, 0] rfl)
      · have hE := im c_ hE
        refine lv_aload_n hx hb dX7_nextBy_54 rfl (lv_at hl 0 rfl) ?_
        refine lv_iload_n hx hb dX7_nextBy_55 rfl (lv_at hl 1 rfl) ?_
        refine lv_iload hx hb dX7_nextBy_56 (lv_at hl 5 rfl) ?_
        obtain ⟨r6, hC, hE⟩ := bnd_some hE
        refine ci (va_runV (As := [.int x1, .int x5]) (rest := []) ⟨hx, hb, hml, hown, hts⟩ (c_X7_keyBy l G x1 x5 σ r6 hC _) (cwV 2 hts gX7_nextBy_X7_keyBy rfl rfl rfl (by decide +kernel) ⟨Nat.le_of_ble_eq_true rfl, Nat.le_of_ble_eq_true rfl⟩) (preV hK hP hD hS hA hX (va_recv hK hP (ci := 7) (q0 := 13) rfl rfl)) rfl rfl hl.1 rfl (lv_room (Nat.le_of_ble_eq_true rfl)) dX7_nextBy_58 ⟨Nat.le_of_ble_eq_true rfl, Nat.le_of_ble_eq_true rfl⟩) hD hS hA (fun H locs hP hD hS => ?_)
        refine lv_istore (lv' := [(6, .int r6), (0, .ref (aD G 43)), (1, .int x1), (2, .int x2), (3, .int x3), (4, .int x4), (5, .int x5)]) hx hb dX7_nextBy_61 hl (by decide) rfl (fun ls hl => ?_)
        refine lv_iload_n hx hb dX7_nextBy_63 rfl (lv_at hl 4 rfl) ?_
        refine lv_iconst (v := (-1 : Int32)) hx hb dX7_nextBy_64 (by decide) ?_
        refine lv_icmp_eq (tgt := 75) hx hb dX7_nextBy_65 (by decide) (fun c_ => ?_) (fun c_ => ?_)
        · have hE := ip c_ hE
          exact J_75 x5 r6 σ _ _ _ hP hD hS (lv_sub hl [1, 2, 3, 6, 0] rfl) hE
        · have hE := im c_ hE
          refine lv_iload hx hb dX7_nextBy_68 (lv_at hl 0 rfl) ?_
          refine lv_iload hx hb dX7_nextBy_70 (lv_at hl 5 rfl) ?_
          refine lv_icmp_ge (tgt := 82) hx hb dX7_nextBy_72 (by decide) (fun c_ => ?_) (fun c_ => ?_)
          · have hE := ip c_ hE
            refine lv_iinc (v := (x5 + (1 : Int32))) (lv' := [(5, .int (x5 + (1 : Int32))), (6, .int r6), (0, .ref (aD G 43)), (1, .int x1), (2, .int x2), (3, .int x3), (4, .int x4)]) hx hb dX7_nextBy_82 hl (k := 6) rfl rfl (by decide) rfl (fun ls hl => ?_)
            refine lv_goto (tgt := 17) hx hb dX7_nextBy_85 (by decide) ?_
            exact hN17 _ (Option.some.inj hE).symm _ _ _ hP hD hS (lv_sub hl [2, 3, 4, 5, 6, 0] rfl)
          · have hE := im c_ hE
            exact J_75 x5 r6 σ _ _ _ hP hD hS (lv_sub hl [1, 2, 3, 6, 0] rfl) hE
    refine lv_iload hx hb dX7_nextBy_17 (lv_at hl 5 rfl) ?_
    refine lv_bipush (v := (80 : Int32)) hx hb dX7_nextBy_19 (by decide) ?_
    refine lv_icmp_ge (tgt := 88) hx hb dX7_nextBy_21 (by decide) (fun c_ => ?_) (fun c_ => ?_)
    · have hE := ip c_ hE
      have e9 := hY17 _ (Option.some.inj hE).symm
      have hE := hE17
      rw [← e9] at hE
      exact J_88 v17.1 v17.2.2.2 _ _ _ hP hD hS (lv_sub hl [0, 3] rfl) hE
    · have hE := im c_ hE
      refine lv_iload_n hx hb dX7_nextBy_24 rfl (lv_at hl 2 rfl) ?_
      refine lv_if_lt (tgt := 88) hx hb dX7_nextBy_25 (by decide) (fun c_ => ?_) (fun c_ => ?_)
      · have hE := ip c_ hE
        have e9 := hY17 _ (Option.some.inj hE).symm
        have hE := hE17
        rw [← e9] at hE
        exact J_88 v17.1 v17.2.2.2 _ _ _ hP hD hS (lv_sub hl [0, 3] rfl) hE
      · have hE := im c_ hE
        refine lv_aload_n hx hb dX7_nextBy_28 rfl (lv_at hl 0 rfl) ?_
        refine lv_iload hx hb dX7_nextBy_29 (lv_at hl 5 rfl) ?_
        obtain ⟨r4, hC, hE⟩ := bnd_some hE
        refine ci (va_runV (As := [.int v17.2.2.1]) (rest := []) ⟨hx, hb, hml, hown, hts⟩ (c_X7_may l G v17.2.2.1 v17.2.2.2 r4 hC _) (cwV 1 hts gX7_nextBy_X7_may rfl rfl rfl (by decide +kernel) ⟨Nat.le_of_ble_eq_true rfl, Nat.le_of_ble_eq_true rfl⟩) (preV hK hP hD hS hA hX (va_recv hK hP (ci := 7) (q0 := 13) rfl rfl)) rfl rfl hl.1 rfl (lv_room (Nat.le_of_ble_eq_true rfl)) dX7_nextBy_31 ⟨Nat.le_of_ble_eq_true rfl, Nat.le_of_ble_eq_true rfl⟩) hD hS hA (fun H locs hP hD hS => ?_)
        refine lv_if_eq (tgt := 82) hx hb dX7_nextBy_34 (by decide) (fun c_ => ?_) (fun c_ => ?_)
        · have hE := ip c_ hE
          refine lv_iinc (v := (v17.2.2.1 + (1 : Int32))) (lv' := [(5, .int (v17.2.2.1 + (1 : Int32))), (0, .ref (aD G 43)), (1, .int x1), (2, .int x2), (3, .int v17.1), (4, .int v17.2.1)]) hx hb dX7_nextBy_82 hl (k := 5) rfl rfl (by decide) rfl (fun ls hl => ?_)
          refine lv_goto (tgt := 17) hx hb dX7_nextBy_85 (by decide) ?_
          exact hN17 _ (Option.some.inj hE).symm _ _ _ hP hD hS (lv_sub hl [1, 2, 3, 4, 5, 0] rfl)
        · have hE := im c_ hE
          refine lv_aload_n hx hb dX7_nextBy_37 rfl (lv_at hl 0 rfl) ?_
          refine lv_iload_n hx hb dX7_nextBy_38 rfl (lv_at hl 1 rfl) ?_
          refine lv_iconst (v := (4 : Int32)) hx hb dX7_nextBy_39 (by decide) ?_
          refine lv_icmp_ne (tgt := 47) hx hb dX7_nextBy_40 (by decide) (fun c_ => ?_) (fun c_ => ?_)
          · have hE := im c_ hE
            refine lv_iconst (v := (-1 : Int32)) hx hb dX7_nextBy_47 (by decide) ?_
            exact J_48 v17.1 v17.2.1 v17.2.2.1 (-1 : Int32) r4.2 _ _ _ hP hD hS (lv_sub hl [0, 1, 2, 3, 4, 5] rfl) hE
          · have hE := ip c_ hE
            refine lv_iload_n hx hb dX7_nextBy_43 rfl (lv_at hl 2 rfl) ?_
            refine lv_goto (tgt := 48) hx hb dX7_nextBy_44 (by decide) ?_
            exact J_48 v17.1 v17.2.1 v17.2.2.1 x2 r4.2 _ _ _ hP hD hS (lv_sub hl [0, 1, 2, 3, 4, 5] rfl) hE
  refine lv_aload_n hx hb dX7_nextBy_0 rfl (lv_at hl 0 rfl) ?_
  obtain ⟨r1, hC, hE⟩ := bnd_some hE
  refine cv (va_runV (As := []) (rest := []) ⟨hx, hb, hml, hown, hts⟩ (c_X7_lays l G σ r1 hC _) (cwV 0 hts gX7_nextBy_X7_lays rfl rfl rfl (by decide +kernel) ⟨Nat.le_of_ble_eq_true rfl, Nat.le_of_ble_eq_true rfl⟩) (preV hK hP hD hS hA hX (va_recv hK hP (ci := 7) (q0 := 13) rfl rfl)) rfl rfl hl.1 rfl (lv_room (Nat.le_of_ble_eq_true rfl)) dX7_nextBy_1 ⟨Nat.le_of_ble_eq_true rfl, Nat.le_of_ble_eq_true rfl⟩) hD hS hA (fun H locs hP hD hS => ?_)
  refine lv_aload_n hx hb dX7_nextBy_4 rfl (lv_at hl 0 rfl) ?_
  obtain ⟨r2, hC, hE⟩ := bnd_some hE
  refine ci (va_runV (As := []) (rest := []) ⟨hx, hb, hml, hown, hts⟩ (c_X7_thinnest l G r1 r2 hC _) (cwV 0 hts gX7_nextBy_X7_thinnest rfl rfl rfl (by decide +kernel) ⟨Nat.le_of_ble_eq_true rfl, Nat.le_of_ble_eq_true rfl⟩) (preV hK hP hD hS hA hX (va_recv hK hP (ci := 7) (q0 := 13) rfl rfl)) rfl rfl hl.1 rfl (lv_room (Nat.le_of_ble_eq_true rfl)) dX7_nextBy_5 ⟨Nat.le_of_ble_eq_true rfl, Nat.le_of_ble_eq_true rfl⟩) hD hS hA (fun H locs hP hD hS => ?_)
  refine lv_istore_n (lv' := [(2, .int r2), (0, .ref (aD G 43)), (1, .int x1)]) hx hb dX7_nextBy_8 rfl hl (by decide) rfl (fun ls hl => ?_)
  refine lv_iconst (v := (-1 : Int32)) hx hb dX7_nextBy_9 (by decide) ?_
  refine lv_istore_n (lv' := [(3, .int (-1 : Int32)), (2, .int r2), (0, .ref (aD G 43)), (1, .int x1)]) hx hb dX7_nextBy_10 rfl hl (by decide) rfl (fun ls hl => ?_)
  refine lv_iconst (v := (0 : Int32)) hx hb dX7_nextBy_11 (by decide) ?_
  refine lv_istore (lv' := [(4, .int (0 : Int32)), (3, .int (-1 : Int32)), (2, .int r2), (0, .ref (aD G 43)), (1, .int x1)]) hx hb dX7_nextBy_12 hl (by decide) rfl (fun ls hl => ?_)
  refine lv_iconst (v := (0 : Int32)) hx hb dX7_nextBy_14 (by decide) ?_
  refine lv_istore (lv' := [(5, .int (0 : Int32)), (4, .int (0 : Int32)), (3, .int (-1 : Int32)), (2, .int r2), (0, .ref (aD G 43)), (1, .int x1)]) hx hb dX7_nextBy_15 hl (by decide) rfl (fun ls hl => ?_)
  exact J_17 r2 (-1 : Int32) (0 : Int32) (0 : Int32) r1 _ _ _ hP hD hS (lv_sub hl [4, 5, 3, 2, 1, 0] rfl) hE
abbrev rmX7_next : Room := { frames := 5, cells := 0, slots := 0, locals := 113 }

def f_X7_next (σ : St) : Option (Int32 × St) := gd (7 : Int32) 8 (bnd (f_X7_nextBy (rd σ 3 (7 : Int32)) σ) (fun r1 => some (r1.1, r1.2)))
set_option maxHeartbeats 4000000 in
set_option maxRecDepth 100000 in
theorem c_X7_next (l : Launch) (G : EV)   (σ : St) (r : (Int32 × St)) (hE : f_X7_next σ = some r) : MetI l G yX7_next wsX7_next rmX7_next [.ref (aD G 43)] (wM G σ) r.1 (wM G r.2) := by
  refine Met.of0 (Qf := PI G r.1 (wM G r.2)) (cc := cX7_next) (maxL := 1) (ret := (some .int)) (by decide) rfl (Nat.le_of_ble_eq_true rfl) ?_
  intro p e s m below meth c args A hx hb hr hts hown hlocks hml hin0 hA hS hP hK hD hX ls hl
  have hl : lv_has ls 1 [(0, .ref (aD G 43))] := hl
  generalize hQ : MQ below (PI G r.1 (wM G r.2) A) args s 0 0 A = Q
  unfold f_X7_next at hE
  refine lv_aload_n hx hb dX7_next_0 rfl (lv_at hl 0 rfl) ?_
  refine lv_aload_n hx hb dX7_next_1 rfl (lv_at hl 0 rfl) ?_
  refine va_get (ci := 7) (v := .ref (aD G 33)) (C := RX7) (T := TX7) (N := 17) hx hb hts (fun _ h => List.mem_cons_of_mem _ (List.mem_append_right _ h)) hown hK hP 13 rfl rfl 4 (by decide) (hts (.fieldLink RX7 19 "FillCellsModel" "rules" "[I") (List.mem_of_getElem? (i := 1) rfl)) (fun _ h9 => h9) rfl dX7_next_2 ?_
  refine lv_bipush (v := (7 : Int32)) hx hb dX7_next_5 (by decide) ?_
  obtain ⟨h_i, hE⟩ := gd_some hE
  refine ldM hx hb hK hP 3 (by decide) h_i dX7_next_7 ?_
  obtain ⟨r1, hC, hE⟩ := bnd_some hE
  refine ci (va_runV (As := [.int (rd σ 3 (7 : Int32))]) (rest := []) ⟨hx, hb, hml, hown, hts⟩ (c_X7_nextBy l G (rd σ 3 (7 : Int32)) σ r1 hC _) (cwV 1 hts gX7_next_X7_nextBy rfl rfl rfl (by decide +kernel) ⟨Nat.le_of_ble_eq_true rfl, Nat.le_of_ble_eq_true rfl⟩) (preV hK hP hD hS hA hX (va_recv hK hP (ci := 7) (q0 := 13) rfl rfl)) rfl rfl hl.1 rfl (lv_room (Nat.le_of_ble_eq_true rfl)) dX7_next_8 ⟨Nat.le_of_ble_eq_true rfl, Nat.le_of_ble_eq_true rfl⟩) hD hS hA (fun H locs hP hD hS => ?_)
  rw [← hQ, ← Option.some.inj hE]
  exact ri hx hb hr hlocks hK hP hD hS dX7_next_11
abbrev rmX7_stepsBy : Room := { frames := 5, cells := 0, slots := 0, locals := 113 }
def f_X7_stepsBy_L2 (x1 : Int32) (x2 : Int32) (v2 : Int32 × St) : Option (((Int32 × St)) ⊕ (Int32 × St)) := if x2 ≤ v2.1 then (some (.inl (v2.1, v2.2))) else (bnd (f_X7_nextBy x1 v2.2) (fun r1 => if r1.1 = (-1 : Int32) then (some (.inl (v2.1, r1.2))) else (bnd (f_X7_fills (1 : Int32) r1.2) (fun r2 => some (.inr ((v2.1 + (1 : Int32)), r2))))))
def f_X7_stepsBy_J2 (x1 : Int32) (x2 : Int32) (x3 : Int32) (σ : St) : Option (Int32 × St) := bnd (loopN (f_X7_stepsBy_L2 x1 x2) 4096 (x3, σ)) (fun y2 => some (y2.1, y2.2))
def f_X7_stepsBy (x1 x2 : Int32) (σ : St) : Option (Int32 × St) := f_X7_stepsBy_J2 x1 x2 (0 : Int32) σ
set_option maxHeartbeats 4000000 in
set_option maxRecDepth 100000 in
theorem c_X7_stepsBy (l : Launch) (G : EV)  (x1 x2 : Int32) (σ : St) (r : (Int32 × St)) (hE : f_X7_stepsBy x1 x2 σ = some r) : MetI l G yX7_stepsBy wsX7_stepsBy rmX7_stepsBy [.ref (aD G 43), .int x1, .int x2] (wM G σ) r.1 (wM G r.2) := by
  refine Met.of0 (Qf := PI G r.1 (wM G r.2)) (cc := cX7_stepsBy) (maxL := 4) (ret := (some .int)) (by decide) rfl (Nat.le_of_ble_eq_true rfl) ?_
  intro p e s m below meth c args A hx hb hr hts hown hlocks hml hin0 hA hS hP hK hD hX ls hl
  have hl : lv_has ls 4 [(0, .ref (aD G 43)), (1, .int x1), (2, .int x2)] := hl
  generalize hQ : MQ below (PI G r.1 (wM G r.2) A) args s 0 0 A = Q
  unfold f_X7_stepsBy at hE
  have J_2 : ∀ (x3 : Int32) (σ : St) (H : Heap) (locs : List Loc) (ls : Array Slot), va_P G.1 vwCl (wM G σ) H → va_D A (wM G σ) → va_S A s.heap H locs → lv_has ls 4 [(0, .ref (aD G 43)), (1, .int x1), (2, .int x2), (3, .int x3)] → f_X7_stepsBy_J2 x1 x2 x3 σ = some r → W p l e rmX7_stepsBy s m args below meth c H locs 0 0 Q (F0 m 2 ls []) := by
    intro x3 σ H locs ls hP hD hS hl hE
    unfold f_X7_stepsBy_J2 at hE
    obtain ⟨y2, hL, hE2⟩ := bnd_some hE
    refine loop_W (body := f_X7_stepsBy_L2 x1 x2) (y := y2) (P := fun v2 => ∀ (H : Heap) (locs : List Loc) (ls : Array Slot), va_P G.1 vwCl (wM G v2.2) H → va_D A (wM G v2.2) → va_S A s.heap H locs → lv_has ls 4 [(0, .ref (aD G 43)), (1, .int x1), (2, .int x2), (3, .int v2.1)] → W p l e rmX7_stepsBy s m args below meth c H locs 0 0 Q (F0 m 2 ls [])) ?_ _ _ hL H locs ls hP hD hS hl
    clear hP hD hS hl hE hL
    intro v2 t2 hE hN2 hY2
    intro H locs ls hP hD hS hl
    unfold f_X7_stepsBy_L2 at hE
    refine lv_iload_n hx hb dX7_stepsBy_2 rfl (lv_at hl 3 rfl) ?_
    refine lv_iload_n hx hb dX7_stepsBy_3 rfl (lv_at hl 2 rfl) ?_
    refine lv_icmp_ge (tgt := 27) hx hb dX7_stepsBy_4 (by decide) (fun c_ => ?_) (fun c_ => ?_)
    · have hE := ip c_ hE
      have e9 := hY2 _ (Option.some.inj hE).symm
      have hE := hE2
      rw [← e9] at hE
      refine lv_iload_n hx hb dX7_stepsBy_27 rfl (lv_at hl 3 rfl) ?_
      rw [← hQ, ← Option.some.inj hE]
      exact ri hx hb hr hlocks hK hP hD hS dX7_stepsBy_28
    · have hE := im c_ hE
      refine lv_aload_n hx hb dX7_stepsBy_7 rfl (lv_at hl 0 rfl) ?_
      refine lv_iload_n hx hb dX7_stepsBy_8 rfl (lv_at hl 1 rfl) ?_
      obtain ⟨r1, hC, hE⟩ := bnd_some hE
      refine ci (va_runV (As := [.int x1]) (rest := []) ⟨hx, hb, hml, hown, hts⟩ (c_X7_nextBy l G x1 v2.2 r1 hC _) (cwV 1 hts gX7_stepsBy_X7_nextBy rfl rfl rfl (by decide +kernel) ⟨Nat.le_of_ble_eq_true rfl, Nat.le_of_ble_eq_true rfl⟩) (preV hK hP hD hS hA hX (va_recv hK hP (ci := 7) (q0 := 13) rfl rfl)) rfl rfl hl.1 rfl (lv_room (Nat.le_of_ble_eq_true rfl)) dX7_stepsBy_9 ⟨Nat.le_of_ble_eq_true rfl, Nat.le_of_ble_eq_true rfl⟩) hD hS hA (fun H locs hP hD hS => ?_)
      refine lv_iconst (v := (-1 : Int32)) hx hb dX7_stepsBy_12 (by decide) ?_
      refine lv_icmp_eq (tgt := 27) hx hb dX7_stepsBy_13 (by decide) (fun c_ => ?_) (fun c_ => ?_)
      · have hE := ip c_ hE
        have e9 := hY2 _ (Option.some.inj hE).symm
        have hE := hE2
        rw [← e9] at hE
        refine lv_iload_n hx hb dX7_stepsBy_27 rfl (lv_at hl 3 rfl) ?_
        rw [← hQ, ← Option.some.inj hE]
        exact ri hx hb hr hlocks hK hP hD hS dX7_stepsBy_28
      · have hE := im c_ hE
        refine lv_aload_n hx hb dX7_stepsBy_16 rfl (lv_at hl 0 rfl) ?_
        refine lv_iconst (v := (1 : Int32)) hx hb dX7_stepsBy_17 (by decide) ?_
        obtain ⟨r2, hC, hE⟩ := bnd_some hE
        refine cv (va_runV (As := [.int (1 : Int32)]) (rest := []) ⟨hx, hb, hml, hown, hts⟩ (c_X7_fills l G (1 : Int32) r1.2 r2 hC _) (cwV 1 hts gX7_stepsBy_X7_fills rfl rfl rfl (by decide +kernel) ⟨Nat.le_of_ble_eq_true rfl, Nat.le_of_ble_eq_true rfl⟩) (preV hK hP hD hS hA hX (va_recv hK hP (ci := 7) (q0 := 13) rfl rfl)) rfl rfl hl.1 rfl (lv_room (Nat.le_of_ble_eq_true rfl)) dX7_stepsBy_18 ⟨Nat.le_of_ble_eq_true rfl, Nat.le_of_ble_eq_true rfl⟩) hD hS hA (fun H locs hP hD hS => ?_)
        refine lv_iinc (v := (v2.1 + (1 : Int32))) (lv' := [(3, .int (v2.1 + (1 : Int32))), (0, .ref (aD G 43)), (1, .int x1), (2, .int x2)]) hx hb dX7_stepsBy_21 hl (k := 3) rfl rfl (by decide) rfl (fun ls hl => ?_)
        refine lv_goto (tgt := 2) hx hb dX7_stepsBy_24 (by decide) ?_
        exact hN2 _ (Option.some.inj hE).symm _ _ _ hP hD hS (lv_sub hl [1, 2, 3, 0] rfl)
  refine lv_iconst (v := (0 : Int32)) hx hb dX7_stepsBy_0 (by decide) ?_
  refine lv_istore_n (lv' := [(3, .int (0 : Int32)), (0, .ref (aD G 43)), (1, .int x1), (2, .int x2)]) hx hb dX7_stepsBy_1 rfl hl (by decide) rfl (fun ls hl => ?_)
  exact J_2 (0 : Int32) σ _ _ _ hP hD hS (lv_sub hl [1, 2, 3, 0] rfl) hE
abbrev rmX7_steps : Room := { frames := 6, cells := 0, slots := 0, locals := 136 }

def f_X7_steps (x1 : Int32) (σ : St) : Option (Int32 × St) := bnd (f_X7_in x1 (1 : Int32) (60 : Int32)) (fun r1 => if r1 = 0 then (bnd (f_X7_refuses (-2 : Int32) σ) (fun r5 => some (r5.1, r5.2))) else (bnd (f_X7_aside σ) (fun r2 => gd (7 : Int32) 8 (bnd (f_X7_stepsBy (rd r2 3 (7 : Int32)) x1 r2) (fun r3 => if r3.1 ≤ 0 then (some (r3.1, r3.2)) else (bnd (f_X7_keeps r3.2) (fun r4 => some (r3.1, r4))))))))
set_option maxHeartbeats 4000000 in
set_option maxRecDepth 100000 in
theorem c_X7_steps (l : Launch) (G : EV)  (x1 : Int32) (σ : St) (r : (Int32 × St)) (hE : f_X7_steps x1 σ = some r) : MetI l G yX7_steps wsX7_steps rmX7_steps [.ref (aD G 43), .int x1] (wM G σ) r.1 (wM G r.2) := by
  refine Met.of0 (Qf := PI G r.1 (wM G r.2)) (cc := cX7_steps) (maxL := 3) (ret := (some .int)) (by decide) rfl (Nat.le_of_ble_eq_true rfl) ?_
  intro p e s m below meth c args A hx hb hr hts hown hlocks hml hin0 hA hS hP hK hD hX ls hl
  have hl : lv_has ls 3 [(0, .ref (aD G 43)), (1, .int x1)] := hl
  generalize hQ : MQ below (PI G r.1 (wM G r.2) A) args s 0 0 A = Q
  unfold f_X7_steps at hE
  refine lv_iload_n hx hb dX7_steps_0 rfl (lv_at hl 1 rfl) ?_
  refine lv_iconst (v := (1 : Int32)) hx hb dX7_steps_1 (by decide) ?_
  refine lv_bipush (v := (60 : Int32)) hx hb dX7_steps_2 (by decide) ?_
  obtain ⟨r1, hC, hE⟩ := bnd_some hE
  refine ci (va_runS (As := [.int x1, .int (1 : Int32), .int (60 : Int32)]) (rest := []) ⟨hx, hb, hml, hown, hts⟩ (c_X7_in l G x1 (1 : Int32) (60 : Int32) σ r1 hC _) (va_cwS 3 hts gX7_steps_X7_in rfl rfl rfl (by decide +kernel) ⟨Nat.le_of_ble_eq_true rfl, Nat.le_of_ble_eq_true rfl⟩) (preS hK hP hD hS hA hX) rfl rfl hl.1 rfl (lv_room (Nat.le_of_ble_eq_true rfl)) dX7_steps_4 ⟨Nat.le_of_ble_eq_true rfl, Nat.le_of_ble_eq_true rfl⟩) hD hS hA (fun H locs hP hD hS => ?_)
  refine lv_if_ne (tgt := 17) hx hb dX7_steps_7 (by decide) (fun c_ => ?_) (fun c_ => ?_)
  · have hE := im c_ hE
    refine lv_aload_n hx hb dX7_steps_17 rfl (lv_at hl 0 rfl) ?_
    obtain ⟨r2, hC, hE⟩ := bnd_some hE
    refine cv (va_runV (As := []) (rest := []) ⟨hx, hb, hml, hown, hts⟩ (c_X7_aside l G σ r2 hC _) (cwV 0 hts gX7_steps_X7_aside rfl rfl rfl (by decide +kernel) ⟨Nat.le_of_ble_eq_true rfl, Nat.le_of_ble_eq_true rfl⟩) (preV hK hP hD hS hA hX (va_recv hK hP (ci := 7) (q0 := 13) rfl rfl)) rfl rfl hl.1 rfl (lv_room (Nat.le_of_ble_eq_true rfl)) dX7_steps_18 ⟨Nat.le_of_ble_eq_true rfl, Nat.le_of_ble_eq_true rfl⟩) hD hS hA (fun H locs hP hD hS => ?_)
    refine lv_aload_n hx hb dX7_steps_21 rfl (lv_at hl 0 rfl) ?_
    refine lv_aload_n hx hb dX7_steps_22 rfl (lv_at hl 0 rfl) ?_
    refine va_get (ci := 7) (v := .ref (aD G 33)) (C := RX7) (T := TX7) (N := 17) hx hb hts (fun _ h => List.mem_cons_of_mem _ (List.mem_append_right _ h)) hown hK hP 13 rfl rfl 4 (by decide) (hts (.fieldLink RX7 19 "FillCellsModel" "rules" "[I") (List.mem_of_getElem? (i := 1) rfl)) (fun _ h9 => h9) rfl dX7_steps_23 ?_
    refine lv_bipush (v := (7 : Int32)) hx hb dX7_steps_26 (by decide) ?_
    obtain ⟨h_i, hE⟩ := gd_some hE
    refine ldM hx hb hK hP 3 (by decide) h_i dX7_steps_28 ?_
    refine lv_iload_n hx hb dX7_steps_29 rfl (lv_at hl 1 rfl) ?_
    obtain ⟨r3, hC, hE⟩ := bnd_some hE
    refine ci (va_runV (As := [.int (rd r2 3 (7 : Int32)), .int x1]) (rest := []) ⟨hx, hb, hml, hown, hts⟩ (c_X7_stepsBy l G (rd r2 3 (7 : Int32)) x1 r2 r3 hC _) (cwV 2 hts gX7_steps_X7_stepsBy rfl rfl rfl (by decide +kernel) ⟨Nat.le_of_ble_eq_true rfl, Nat.le_of_ble_eq_true rfl⟩) (preV hK hP hD hS hA hX (va_recv hK hP (ci := 7) (q0 := 13) rfl rfl)) rfl rfl hl.1 rfl (lv_room (Nat.le_of_ble_eq_true rfl)) dX7_steps_30 ⟨Nat.le_of_ble_eq_true rfl, Nat.le_of_ble_eq_true rfl⟩) hD hS hA (fun H locs hP hD hS => ?_)
    refine lv_istore_n (lv' := [(2, .int r3.1), (0, .ref (aD G 43)), (1, .int x1)]) hx hb dX7_steps_33 rfl hl (by decide) rfl (fun ls hl => ?_)
    refine lv_iload_n hx hb dX7_steps_34 rfl (lv_at hl 0 rfl) ?_
    refine lv_if_le (tgt := 42) hx hb dX7_steps_35 (by decide) (fun c_ => ?_) (fun c_ => ?_)
    · have hE := ip c_ hE
      refine lv_iload_n hx hb dX7_steps_42 rfl (lv_at hl 0 rfl) ?_
      rw [← hQ, ← Option.some.inj hE]
      exact ri hx hb hr hlocks hK hP hD hS dX7_steps_43
    · have hE := im c_ hE
      refine lv_aload_n hx hb dX7_steps_38 rfl (lv_at hl 1 rfl) ?_
      obtain ⟨r4, hC, hE⟩ := bnd_some hE
      refine cv (va_runV (As := []) (rest := []) ⟨hx, hb, hml, hown, hts⟩ (c_X7_keeps l G r3.2 r4 hC _) (cwV 0 hts gX7_steps_X7_keeps rfl rfl rfl (by decide +kernel) ⟨Nat.le_of_ble_eq_true rfl, Nat.le_of_ble_eq_true rfl⟩) (preV hK hP hD hS hA hX (va_recv hK hP (ci := 7) (q0 := 13) rfl rfl)) rfl rfl hl.1 rfl (lv_room (Nat.le_of_ble_eq_true rfl)) dX7_steps_39 ⟨Nat.le_of_ble_eq_true rfl, Nat.le_of_ble_eq_true rfl⟩) hD hS hA (fun H locs hP hD hS => ?_)
      refine lv_iload_n hx hb dX7_steps_42 rfl (lv_at hl 0 rfl) ?_
      rw [← hQ, ← Option.some.inj hE]
      exact ri hx hb hr hlocks hK hP hD hS dX7_steps_43
  · have hE := ip c_ hE
    refine lv_aload_n hx hb dX7_steps_10 rfl (lv_at hl 0 rfl) ?_
    refine lv_bipush (v := (-2 : Int32)) hx hb dX7_steps_11 (by decide) ?_
    obtain ⟨r5, hC, hE⟩ := bnd_some hE
    refine ci (va_runV (As := [.int (-2 : Int32)]) (rest := []) ⟨hx, hb, hml, hown, hts⟩ (c_X7_refuses l G (-2 : Int32) σ r5 hC _) (cwV 1 hts gX7_steps_X7_refuses rfl rfl rfl (by decide +kernel) ⟨Nat.le_of_ble_eq_true rfl, Nat.le_of_ble_eq_true rfl⟩) (preV hK hP hD hS hA hX (va_recv hK hP (ci := 7) (q0 := 13) rfl rfl)) rfl rfl hl.1 rfl (lv_room (Nat.le_of_ble_eq_true rfl)) dX7_steps_13 ⟨Nat.le_of_ble_eq_true rfl, Nat.le_of_ble_eq_true rfl⟩) hD hS hA (fun H locs hP hD hS => ?_)
    rw [← hQ, ← Option.some.inj hE]
    exact ri hx hb hr hlocks hK hP hD hS dX7_steps_16
abbrev rmX7_mayLose : Room := { frames := 2, cells := 0, slots := 0, locals := 44 }
def f_X7_mayLose_L8 (σ : St) (v8 : Int32 × Int32) : Option (((Int32)) ⊕ (Int32 × Int32)) := if (80 : Int32) ≤ v8.2 then (some (.inl (v8.1))) else (if v8.1 = 0 then (some (.inl (v8.1))) else (gd v8.2 80 (gd (2 : Int32) 8 (if (rd σ 6 v8.2) < (rd σ 3 (2 : Int32)) then (some (.inr (v8.1, (v8.2 + (1 : Int32))))) else (gd v8.2 80 (bnd (f_X7_manyIn v8.2 σ) (fun r2 => gd (2 : Int32) 8 (if ((rd σ 6 v8.2) - r2) < (rd σ 3 (2 : Int32)) then (some (.inr ((0 : Int32), (v8.2 + (1 : Int32))))) else (some (.inr ((1 : Int32), (v8.2 + (1 : Int32)))))))))))))
def f_X7_mayLose_J8 (x1 : Int32) (x2 : Int32) (σ : St) : Option (Int32 × St) := bnd (loopN (f_X7_mayLose_L8 σ) 4096 (x1, x2)) (fun y8 => gb y8 (some (y8, σ)))
def f_X7_mayLose (σ : St) : Option (Int32 × St) := bnd (f_X7_laysSums σ) (fun r1 => f_X7_mayLose_J8 (1 : Int32) (0 : Int32) r1)
set_option maxHeartbeats 4000000 in
set_option maxRecDepth 100000 in
theorem c_X7_mayLose (l : Launch) (G : EV)   (σ : St) (r : (Int32 × St)) (hE : f_X7_mayLose σ = some r) : MetI l G yX7_mayLose wsX7_mayLose rmX7_mayLose [.ref (aD G 43)] (wM G σ) r.1 (wM G r.2) := by
  refine Met.of0 (Qf := PI G r.1 (wM G r.2)) (cc := cX7_mayLose) (maxL := 3) (ret := (some .boolean)) (by decide) rfl (Nat.le_of_ble_eq_true rfl) ?_
  intro p e s m below meth c args A hx hb hr hts hown hlocks hml hin0 hA hS hP hK hD hX ls hl
  have hl : lv_has ls 3 [(0, .ref (aD G 43))] := hl
  generalize hQ : MQ below (PI G r.1 (wM G r.2) A) args s 0 0 A = Q
  unfold f_X7_mayLose at hE
  have J_8 : ∀ (x1 : Int32) (x2 : Int32) (σ : St) (H : Heap) (locs : List Loc) (ls : Array Slot), va_P G.1 vwCl (wM G σ) H → va_D A (wM G σ) → va_S A s.heap H locs → lv_has ls 3 [(0, .ref (aD G 43)), (1, .int x1), (2, .int x2)] → f_X7_mayLose_J8 x1 x2 σ = some r → W p l e rmX7_mayLose s m args below meth c H locs 0 0 Q (F0 m 8 ls []) := by
    intro x1 x2 σ H locs ls hP hD hS hl hE
    unfold f_X7_mayLose_J8 at hE
    obtain ⟨y8, hL, hE8⟩ := bnd_some hE
    refine loop_W (body := f_X7_mayLose_L8 σ) (y := y8) (P := fun v8 => ∀ (H : Heap) (locs : List Loc) (ls : Array Slot), va_P G.1 vwCl (wM G σ) H → va_D A (wM G σ) → va_S A s.heap H locs → lv_has ls 3 [(0, .ref (aD G 43)), (1, .int v8.1), (2, .int v8.2)] → W p l e rmX7_mayLose s m args below meth c H locs 0 0 Q (F0 m 8 ls [])) ?_ _ _ hL H locs ls hP hD hS hl
    clear hP hD hS hl hE hL
    intro v8 t8 hE hN8 hY8
    intro H locs ls hP hD hS hl
    unfold f_X7_mayLose_L8 at hE
    refine lv_iload_n hx hb dX7_mayLose_8 rfl (lv_at hl 2 rfl) ?_
    refine lv_bipush (v := (80 : Int32)) hx hb dX7_mayLose_9 (by decide) ?_
    refine lv_icmp_ge (tgt := 66) hx hb dX7_mayLose_11 (by decide) (fun c_ => ?_) (fun c_ => ?_)
    · have hE := ip c_ hE
      have e9 := hY8 _ (Option.some.inj hE).symm
      have hE := hE8
      rw [← e9] at hE
      refine lv_iload_n hx hb dX7_mayLose_66 rfl (lv_at hl 1 rfl) ?_
      obtain ⟨h_n, hE⟩ := gb_some hE
      rw [← hQ, ← Option.some.inj hE]
      exact rz hx hb hr hlocks hK hP hD hS h_n dX7_mayLose_67
    · have hE := im c_ hE
      refine lv_iload_n hx hb dX7_mayLose_14 rfl (lv_at hl 1 rfl) ?_
      refine lv_if_eq (tgt := 66) hx hb dX7_mayLose_15 (by decide) (fun c_ => ?_) (fun c_ => ?_)
      · have hE := ip c_ hE
        have e9 := hY8 _ (Option.some.inj hE).symm
        have hE := hE8
        rw [← e9] at hE
        refine lv_iload_n hx hb dX7_mayLose_66 rfl (lv_at hl 1 rfl) ?_
        obtain ⟨h_n, hE⟩ := gb_some hE
        rw [← hQ, ← Option.some.inj hE]
        exact rz hx hb hr hlocks hK hP hD hS h_n dX7_mayLose_67
      · have hE := im c_ hE
        refine lv_aload_n hx hb dX7_mayLose_18 rfl (lv_at hl 0 rfl) ?_
        refine va_get (ci := 7) (v := .ref (aD G 36)) (C := RX7) (T := TX7) (N := 17) hx hb hts (fun _ h => List.mem_cons_of_mem _ (List.mem_append_right _ h)) hown hK hP 13 rfl rfl 9 (by decide) (hts (.fieldLink RX7 28 "FillCellsModel" "sums" "[I") (List.mem_of_getElem? (i := 1) rfl)) (fun _ h9 => h9) rfl dX7_mayLose_19 ?_
        refine lv_iload_n hx hb dX7_mayLose_22 rfl (lv_at hl 2 rfl) ?_
        obtain ⟨h_i, hE⟩ := gd_some hE
        refine ldM hx hb hK hP 6 (by decide) h_i dX7_mayLose_23 ?_
        refine lv_aload_n hx hb dX7_mayLose_24 rfl (lv_at hl 0 rfl) ?_
        refine va_get (ci := 7) (v := .ref (aD G 33)) (C := RX7) (T := TX7) (N := 17) hx hb hts (fun _ h => List.mem_cons_of_mem _ (List.mem_append_right _ h)) hown hK hP 13 rfl rfl 4 (by decide) (hts (.fieldLink RX7 19 "FillCellsModel" "rules" "[I") (List.mem_of_getElem? (i := 2) rfl)) (fun _ h9 => h9) rfl dX7_mayLose_25 ?_
        refine lv_iconst (v := (2 : Int32)) hx hb dX7_mayLose_28 (by decide) ?_
        obtain ⟨h_i, hE⟩ := gd_some hE
        refine ldM hx hb hK hP 3 (by decide) h_i dX7_mayLose_29 ?_
        refine lv_icmp_lt (tgt := 60) hx hb dX7_mayLose_30 (by decide) (fun c_ => ?_) (fun c_ => ?_)
        · have hE := ip c_ hE
          refine lv_iinc (v := (v8.2 + (1 : Int32))) (lv' := [(2, .int (v8.2 + (1 : Int32))), (0, .ref (aD G 43)), (1, .int v8.1)]) hx hb dX7_mayLose_60 hl (k := 2) rfl rfl (by decide) rfl (fun ls hl => ?_)
          refine lv_goto (tgt := 8) hx hb dX7_mayLose_63 (by decide) ?_
          exact hN8 _ (Option.some.inj hE).symm _ _ _ hP hD hS (lv_sub hl [1, 2, 0] rfl)
        · have hE := im c_ hE
          refine lv_aload_n hx hb dX7_mayLose_33 rfl (lv_at hl 0 rfl) ?_
          refine va_get (ci := 7) (v := .ref (aD G 36)) (C := RX7) (T := TX7) (N := 17) hx hb hts (fun _ h => List.mem_cons_of_mem _ (List.mem_append_right _ h)) hown hK hP 13 rfl rfl 9 (by decide) (hts (.fieldLink RX7 28 "FillCellsModel" "sums" "[I") (List.mem_of_getElem? (i := 1) rfl)) (fun _ h9 => h9) rfl dX7_mayLose_34 ?_
          refine lv_iload_n hx hb dX7_mayLose_37 rfl (lv_at hl 2 rfl) ?_
          obtain ⟨h_i, hE⟩ := gd_some hE
          refine ldM hx hb hK hP 6 (by decide) h_i dX7_mayLose_38 ?_
          refine lv_aload_n hx hb dX7_mayLose_39 rfl (lv_at hl 0 rfl) ?_
          refine lv_iload_n hx hb dX7_mayLose_40 rfl (lv_at hl 2 rfl) ?_
          obtain ⟨r2, hC, hE⟩ := bnd_some hE
          refine ci (va_runV (As := [.int v8.2]) (rest := [.int (rd σ 6 v8.2)]) ⟨hx, hb, hml, hown, hts⟩ (c_X7_manyIn l G v8.2 σ r2 hC _) (cwV 1 hts gX7_mayLose_X7_manyIn rfl rfl rfl (by decide +kernel) ⟨Nat.le_of_ble_eq_true rfl, Nat.le_of_ble_eq_true rfl⟩) (preV hK hP hD hS hA hX (va_recv hK hP (ci := 7) (q0 := 13) rfl rfl)) rfl rfl hl.1 rfl (lv_room (Nat.le_of_ble_eq_true rfl)) dX7_mayLose_41 ⟨Nat.le_of_ble_eq_true rfl, Nat.le_of_ble_eq_true rfl⟩) hD hS hA (fun H locs hP hD hS => ?_)
          refine lv_isub hx hb dX7_mayLose_44 ?_
          refine lv_aload_n hx hb dX7_mayLose_45 rfl (lv_at hl 0 rfl) ?_
          refine va_get (ci := 7) (v := .ref (aD G 33)) (C := RX7) (T := TX7) (N := 17) hx hb hts (fun _ h => List.mem_cons_of_mem _ (List.mem_append_right _ h)) hown hK hP 13 rfl rfl 4 (by decide) (hts (.fieldLink RX7 19 "FillCellsModel" "rules" "[I") (List.mem_of_getElem? (i := 2) rfl)) (fun _ h9 => h9) rfl dX7_mayLose_46 ?_
          refine lv_iconst (v := (2 : Int32)) hx hb dX7_mayLose_49 (by decide) ?_
          obtain ⟨h_i, hE⟩ := gd_some hE
          refine ldM hx hb hK hP 3 (by decide) h_i dX7_mayLose_50 ?_
          refine lv_icmp_lt (tgt := 58) hx hb dX7_mayLose_51 (by decide) (fun c_ => ?_) (fun c_ => ?_)
          · have hE := ip c_ hE
            refine lv_iconst (v := (0 : Int32)) hx hb dX7_mayLose_58 (by decide) ?_
            refine lv_istore_n (lv' := [(1, .int (0 : Int32)), (0, .ref (aD G 43)), (2, .int v8.2)]) hx hb dX7_mayLose_59 rfl hl (by decide) rfl (fun ls hl => ?_)
            refine lv_iinc (v := (v8.2 + (1 : Int32))) (lv' := [(2, .int (v8.2 + (1 : Int32))), (1, .int (0 : Int32)), (0, .ref (aD G 43))]) hx hb dX7_mayLose_60 hl (k := 2) rfl rfl (by decide) rfl (fun ls hl => ?_)
            refine lv_goto (tgt := 8) hx hb dX7_mayLose_63 (by decide) ?_
            exact hN8 _ (Option.some.inj hE).symm _ _ _ hP hD hS (lv_sub hl [2, 1, 0] rfl)
          · have hE := im c_ hE
            refine lv_iconst (v := (1 : Int32)) hx hb dX7_mayLose_54 (by decide) ?_
            refine lv_goto (tgt := 59) hx hb dX7_mayLose_55 (by decide) ?_
            refine lv_istore_n (lv' := [(1, .int (1 : Int32)), (0, .ref (aD G 43)), (2, .int v8.2)]) hx hb dX7_mayLose_59 rfl hl (by decide) rfl (fun ls hl => ?_)
            refine lv_iinc (v := (v8.2 + (1 : Int32))) (lv' := [(2, .int (v8.2 + (1 : Int32))), (1, .int (1 : Int32)), (0, .ref (aD G 43))]) hx hb dX7_mayLose_60 hl (k := 2) rfl rfl (by decide) rfl (fun ls hl => ?_)
            refine lv_goto (tgt := 8) hx hb dX7_mayLose_63 (by decide) ?_
            exact hN8 _ (Option.some.inj hE).symm _ _ _ hP hD hS (lv_sub hl [2, 1, 0] rfl)
  refine lv_aload_n hx hb dX7_mayLose_0 rfl (lv_at hl 0 rfl) ?_
  obtain ⟨r1, hC, hE⟩ := bnd_some hE
  refine cv (va_runV (As := []) (rest := []) ⟨hx, hb, hml, hown, hts⟩ (c_X7_laysSums l G σ r1 hC _) (cwV 0 hts gX7_mayLose_X7_laysSums rfl rfl rfl (by decide +kernel) ⟨Nat.le_of_ble_eq_true rfl, Nat.le_of_ble_eq_true rfl⟩) (preV hK hP hD hS hA hX (va_recv hK hP (ci := 7) (q0 := 13) rfl rfl)) rfl rfl hl.1 rfl (lv_room (Nat.le_of_ble_eq_true rfl)) dX7_mayLose_1 ⟨Nat.le_of_ble_eq_true rfl, Nat.le_of_ble_eq_true rfl⟩) hD hS hA (fun H locs hP hD hS => ?_)
  refine lv_iconst (v := (1 : Int32)) hx hb dX7_mayLose_4 (by decide) ?_
  refine lv_istore_n (lv' := [(1, .int (1 : Int32)), (0, .ref (aD G 43))]) hx hb dX7_mayLose_5 rfl hl (by decide) rfl (fun ls hl => ?_)
  refine lv_iconst (v := (0 : Int32)) hx hb dX7_mayLose_6 (by decide) ?_
  refine lv_istore_n (lv' := [(2, .int (0 : Int32)), (1, .int (1 : Int32)), (0, .ref (aD G 43))]) hx hb dX7_mayLose_7 rfl hl (by decide) rfl (fun ls hl => ?_)
  exact J_8 (1 : Int32) (0 : Int32) r1 _ _ _ hP hD hS (lv_sub hl [2, 1, 0] rfl) hE
abbrev rmX7_loses : Room := { frames := 3, cells := 0, slots := 0, locals := 66 }
def f_X7_loses_J51 (x1 : Int32) (σ : St) : Option (Int32 × St) := bnd (f_X7_fillOf σ) (fun r2 => some ((x1 - r2), σ))
def f_X7_loses_J45 (x1 : Int32) (x2 : Int32) (σ : St) : Option (((St)) ⊕ (Int32 × St)) := some (.inr ((x2 + (-1 : Int32)), σ))
def f_X7_loses_L17 (x1 : Int32) (x2 : Int32) (v17 : St) : Option (((St)) ⊕ (St)) := gd ((320 : Int32) + x2) 400 (if (rd v17 0 ((320 : Int32) + x2)) ≤ 0 then (some (.inl (v17))) else (bnd (f_X7_mayLose v17) (fun r4 => if r4.1 = 0 then (some (.inl (r4.2))) else (bnd (f_X7_fills (-1 : Int32) r4.2) (fun r5 => some (.inr (r5)))))))
def f_X7_loses_J17 (x1 : Int32) (x2 : Int32) (σ : St) : Option (((St)) ⊕ (Int32 × St)) := bnd (loopN (f_X7_loses_L17 x1 x2) 4096 (σ)) (fun y17 => f_X7_loses_J45 x1 x2 y17)
def f_X7_loses_L8 (x1 : Int32) (v8 : Int32 × St) : Option (((St)) ⊕ (Int32 × St)) := if v8.1 < 0 then (some (.inl (v8.2))) else (bnd (f_X7_marks v8.1 v8.2) (fun r3 => f_X7_loses_J17 x1 v8.1 r3))
def f_X7_loses_J8 (x1 : Int32) (x2 : Int32) (σ : St) : Option (Int32 × St) := bnd (loopN (f_X7_loses_L8 x1) 4096 (x2, σ)) (fun y8 => f_X7_loses_J51 x1 y8)
def f_X7_loses (σ : St) : Option (Int32 × St) := bnd (f_X7_fillOf σ) (fun r1 => f_X7_loses_J8 r1 (79 : Int32) σ)
set_option maxHeartbeats 4000000 in
set_option maxRecDepth 100000 in
theorem c_X7_loses (l : Launch) (G : EV)   (σ : St) (r : (Int32 × St)) (hE : f_X7_loses σ = some r) : MetI l G yX7_loses wsX7_loses rmX7_loses [.ref (aD G 43)] (wM G σ) r.1 (wM G r.2) := by
  refine Met.of0 (Qf := PI G r.1 (wM G r.2)) (cc := cX7_loses) (maxL := 3) (ret := (some .int)) (by decide) rfl (Nat.le_of_ble_eq_true rfl) ?_
  intro p e s m below meth c args A hx hb hr hts hown hlocks hml hin0 hA hS hP hK hD hX ls hl
  have hl : lv_has ls 3 [(0, .ref (aD G 43))] := hl
  generalize hQ : MQ below (PI G r.1 (wM G r.2) A) args s 0 0 A = Q
  unfold f_X7_loses at hE
  have J_51 : ∀ (x1 : Int32) (σ : St) (H : Heap) (locs : List Loc) (ls : Array Slot), va_P G.1 vwCl (wM G σ) H → va_D A (wM G σ) → va_S A s.heap H locs → lv_has ls 3 [(0, .ref (aD G 43)), (1, .int x1)] → f_X7_loses_J51 x1 σ = some r → W p l e rmX7_loses s m args below meth c H locs 0 0 Q (F0 m 51 ls []) := by
    intro x1 σ H locs ls hP hD hS hl hE
    unfold f_X7_loses_J51 at hE
    refine lv_iload_n hx hb dX7_loses_51 rfl (lv_at hl 1 rfl) ?_
    refine lv_aload_n hx hb dX7_loses_52 rfl (lv_at hl 0 rfl) ?_
    obtain ⟨r2, hC, hE⟩ := bnd_some hE
    refine ci (va_runV (As := []) (rest := [.int x1]) ⟨hx, hb, hml, hown, hts⟩ (c_X7_fillOf l G σ r2 hC _) (cwV 0 hts gX7_loses_X7_fillOf rfl rfl rfl (by decide +kernel) ⟨Nat.le_of_ble_eq_true rfl, Nat.le_of_ble_eq_true rfl⟩) (preV hK hP hD hS hA hX (va_recv hK hP (ci := 7) (q0 := 13) rfl rfl)) rfl rfl hl.1 rfl (lv_room (Nat.le_of_ble_eq_true rfl)) dX7_loses_53 ⟨Nat.le_of_ble_eq_true rfl, Nat.le_of_ble_eq_true rfl⟩) hD hS hA (fun H locs hP hD hS => ?_)
    refine lv_isub hx hb dX7_loses_56 ?_
    rw [← hQ, ← Option.some.inj hE]
    exact ri hx hb hr hlocks hK hP hD hS dX7_loses_57
  have J_8 : ∀ (x1 : Int32) (x2 : Int32) (σ : St) (H : Heap) (locs : List Loc) (ls : Array Slot), va_P G.1 vwCl (wM G σ) H → va_D A (wM G σ) → va_S A s.heap H locs → lv_has ls 3 [(0, .ref (aD G 43)), (1, .int x1), (2, .int x2)] → f_X7_loses_J8 x1 x2 σ = some r → W p l e rmX7_loses s m args below meth c H locs 0 0 Q (F0 m 8 ls []) := by
    intro x1 x2 σ H locs ls hP hD hS hl hE
    unfold f_X7_loses_J8 at hE
    obtain ⟨y8, hL, hE8⟩ := bnd_some hE
    refine loop_W (body := f_X7_loses_L8 x1) (y := y8) (P := fun v8 => ∀ (H : Heap) (locs : List Loc) (ls : Array Slot), va_P G.1 vwCl (wM G v8.2) H → va_D A (wM G v8.2) → va_S A s.heap H locs → lv_has ls 3 [(0, .ref (aD G 43)), (1, .int x1), (2, .int v8.1)] → W p l e rmX7_loses s m args below meth c H locs 0 0 Q (F0 m 8 ls [])) ?_ _ _ hL H locs ls hP hD hS hl
    clear hP hD hS hl hE hL
    intro v8 t8 hE hN8 hY8
    intro H locs ls hP hD hS hl
    unfold f_X7_loses_L8 at hE
    have J_45 : ∀ (x2 : Int32) (σ : St) (H : Heap) (locs : List Loc) (ls : Array Slot), va_P G.1 vwCl (wM G σ) H → va_D A (wM G σ) → va_S A s.heap H locs → lv_has ls 3 [(0, .ref (aD G 43)), (1, .int x1), (2, .int x2)] → f_X7_loses_J45 x1 x2 σ = some t8 → W p l e rmX7_loses s m args below meth c H locs 0 0 Q (F0 m 45 ls []) := by
      intro x2 σ H locs ls hP hD hS hl hE
      unfold f_X7_loses_J45 at hE
      refine lv_iinc (v := (x2 + (-1 : Int32))) (lv' := [(2, .int (x2 + (-1 : Int32))), (0, .ref (aD G 43)), (1, .int x1)]) hx hb dX7_loses_45 hl (k := 2) rfl rfl (by decide) rfl (fun ls hl => ?_)
      refine lv_goto (tgt := 8) hx hb dX7_loses_48 (by decide) ?_
      exact hN8 _ (Option.some.inj hE).symm _ _ _ hP hD hS (lv_sub hl [1, 2, 0] rfl)
    have J_17 : ∀ (x2 : Int32) (σ : St) (H : Heap) (locs : List Loc) (ls : Array Slot), va_P G.1 vwCl (wM G σ) H → va_D A (wM G σ) → va_S A s.heap H locs → lv_has ls 3 [(0, .ref (aD G 43)), (1, .int x1), (2, .int x2)] → f_X7_loses_J17 x1 x2 σ = some t8 → W p l e rmX7_loses s m args below meth c H locs 0 0 Q (F0 m 17 ls []) := by
      intro x2 σ H locs ls hP hD hS hl hE
      unfold f_X7_loses_J17 at hE
      obtain ⟨y17, hL, hE17⟩ := bnd_some hE
      refine loop_W (body := f_X7_loses_L17 x1 x2) (y := y17) (P := fun v17 => ∀ (H : Heap) (locs : List Loc) (ls : Array Slot), va_P G.1 vwCl (wM G v17) H → va_D A (wM G v17) → va_S A s.heap H locs → lv_has ls 3 [(0, .ref (aD G 43)), (1, .int x1), (2, .int x2)] → W p l e rmX7_loses s m args below meth c H locs 0 0 Q (F0 m 17 ls [])) ?_ _ _ hL H locs ls hP hD hS hl
      clear hP hD hS hl hE hL
      intro v17 t17 hE hN17 hY17
      intro H locs ls hP hD hS hl
      unfold f_X7_loses_L17 at hE
      refine lv_aload_n hx hb dX7_loses_17 rfl (lv_at hl 0 rfl) ?_
      refine va_get (ci := 7) (v := .ref (aD G 30)) (C := RX7) (T := TX7) (N := 17) hx hb hts (fun _ h => List.mem_cons_of_mem _ (List.mem_append_right _ h)) hown hK hP 13 rfl rfl 0 (by decide) (hts (.fieldLink RX7 7 "FillCellsModel" "s" "[I") (List.mem_of_getElem? (i := 1) rfl)) (fun _ h9 => h9) rfl dX7_loses_18 ?_
      refine lv_sipush (v := (320 : Int32)) hx hb dX7_loses_21 (by decide) ?_
      refine lv_iload_n hx hb dX7_loses_24 rfl (lv_at hl 2 rfl) ?_
      refine lv_iadd hx hb dX7_loses_25 ?_
      obtain ⟨h_i, hE⟩ := gd_some hE
      refine ldM hx hb hK hP 0 (by decide) h_i dX7_loses_26 ?_
      refine lv_if_le (tgt := 45) hx hb dX7_loses_27 (by decide) (fun c_ => ?_) (fun c_ => ?_)
      · have hE := ip c_ hE
        have e9 := hY17 _ (Option.some.inj hE).symm
        have hE := hE17
        rw [← e9] at hE
        exact J_45 x2 v17 _ _ _ hP hD hS (lv_sub hl [0, 1, 2] rfl) hE
      · have hE := im c_ hE
        refine lv_aload_n hx hb dX7_loses_30 rfl (lv_at hl 0 rfl) ?_
        obtain ⟨r4, hC, hE⟩ := bnd_some hE
        refine ci (va_runV (As := []) (rest := []) ⟨hx, hb, hml, hown, hts⟩ (c_X7_mayLose l G v17 r4 hC _) (cwV 0 hts gX7_loses_X7_mayLose rfl rfl rfl (by decide +kernel) ⟨Nat.le_of_ble_eq_true rfl, Nat.le_of_ble_eq_true rfl⟩) (preV hK hP hD hS hA hX (va_recv hK hP (ci := 7) (q0 := 13) rfl rfl)) rfl rfl hl.1 rfl (lv_room (Nat.le_of_ble_eq_true rfl)) dX7_loses_31 ⟨Nat.le_of_ble_eq_true rfl, Nat.le_of_ble_eq_true rfl⟩) hD hS hA (fun H locs hP hD hS => ?_)
        refine lv_if_eq (tgt := 45) hx hb dX7_loses_34 (by decide) (fun c_ => ?_) (fun c_ => ?_)
        · have hE := ip c_ hE
          have e9 := hY17 _ (Option.some.inj hE).symm
          have hE := hE17
          rw [← e9] at hE
          exact J_45 x2 r4.2 _ _ _ hP hD hS (lv_sub hl [0, 1, 2] rfl) hE
        · have hE := im c_ hE
          refine lv_aload_n hx hb dX7_loses_37 rfl (lv_at hl 0 rfl) ?_
          refine lv_iconst (v := (-1 : Int32)) hx hb dX7_loses_38 (by decide) ?_
          obtain ⟨r5, hC, hE⟩ := bnd_some hE
          refine cv (va_runV (As := [.int (-1 : Int32)]) (rest := []) ⟨hx, hb, hml, hown, hts⟩ (c_X7_fills l G (-1 : Int32) r4.2 r5 hC _) (cwV 1 hts gX7_loses_X7_fills rfl rfl rfl (by decide +kernel) ⟨Nat.le_of_ble_eq_true rfl, Nat.le_of_ble_eq_true rfl⟩) (preV hK hP hD hS hA hX (va_recv hK hP (ci := 7) (q0 := 13) rfl rfl)) rfl rfl hl.1 rfl (lv_room (Nat.le_of_ble_eq_true rfl)) dX7_loses_39 ⟨Nat.le_of_ble_eq_true rfl, Nat.le_of_ble_eq_true rfl⟩) hD hS hA (fun H locs hP hD hS => ?_)
          refine lv_goto (tgt := 17) hx hb dX7_loses_42 (by decide) ?_
          exact hN17 _ (Option.some.inj hE).symm _ _ _ hP hD hS (lv_sub hl [0, 1, 2] rfl)
    refine lv_iload_n hx hb dX7_loses_8 rfl (lv_at hl 2 rfl) ?_
    refine lv_if_lt (tgt := 51) hx hb dX7_loses_9 (by decide) (fun c_ => ?_) (fun c_ => ?_)
    · have hE := ip c_ hE
      have e9 := hY8 _ (Option.some.inj hE).symm
      have hE := hE8
      rw [← e9] at hE
      exact J_51 x1 v8.2 _ _ _ hP hD hS (lv_sub hl [0, 1] rfl) hE
    · have hE := im c_ hE
      refine lv_aload_n hx hb dX7_loses_12 rfl (lv_at hl 0 rfl) ?_
      refine lv_iload_n hx hb dX7_loses_13 rfl (lv_at hl 2 rfl) ?_
      obtain ⟨r3, hC, hE⟩ := bnd_some hE
      refine cv (va_runV (As := [.int v8.1]) (rest := []) ⟨hx, hb, hml, hown, hts⟩ (c_X7_marks l G v8.1 v8.2 r3 hC _) (cwV 1 hts gX7_loses_X7_marks rfl rfl rfl (by decide +kernel) ⟨Nat.le_of_ble_eq_true rfl, Nat.le_of_ble_eq_true rfl⟩) (preV hK hP hD hS hA hX (va_recv hK hP (ci := 7) (q0 := 13) rfl rfl)) rfl rfl hl.1 rfl (lv_room (Nat.le_of_ble_eq_true rfl)) dX7_loses_14 ⟨Nat.le_of_ble_eq_true rfl, Nat.le_of_ble_eq_true rfl⟩) hD hS hA (fun H locs hP hD hS => ?_)
      exact J_17 v8.1 r3 _ _ _ hP hD hS (lv_sub hl [0, 1, 2] rfl) hE
  refine lv_aload_n hx hb dX7_loses_0 rfl (lv_at hl 0 rfl) ?_
  obtain ⟨r1, hC, hE⟩ := bnd_some hE
  refine ci (va_runV (As := []) (rest := []) ⟨hx, hb, hml, hown, hts⟩ (c_X7_fillOf l G σ r1 hC _) (cwV 0 hts gX7_loses_X7_fillOf rfl rfl rfl (by decide +kernel) ⟨Nat.le_of_ble_eq_true rfl, Nat.le_of_ble_eq_true rfl⟩) (preV hK hP hD hS hA hX (va_recv hK hP (ci := 7) (q0 := 13) rfl rfl)) rfl rfl hl.1 rfl (lv_room (Nat.le_of_ble_eq_true rfl)) dX7_loses_1 ⟨Nat.le_of_ble_eq_true rfl, Nat.le_of_ble_eq_true rfl⟩) hD hS hA (fun H locs hP hD hS => ?_)
  refine lv_istore_n (lv' := [(1, .int r1), (0, .ref (aD G 43))]) hx hb dX7_loses_4 rfl hl (by decide) rfl (fun ls hl => ?_)
  refine lv_bipush (v := (79 : Int32)) hx hb dX7_loses_5 (by decide) ?_
  refine lv_istore_n (lv' := [(2, .int (79 : Int32)), (1, .int r1), (0, .ref (aD G 43))]) hx hb dX7_loses_7 rfl hl (by decide) rfl (fun ls hl => ?_)
  exact J_8 r1 (79 : Int32) σ _ _ _ hP hD hS (lv_sub hl [2, 1, 0] rfl) hE
abbrev rmX7_thins : Room := { frames := 4, cells := 0, slots := 0, locals := 88 }

def f_X7_thins (σ : St) : Option (Int32 × St) := bnd (f_X7_aside σ) (fun r1 => bnd (f_X7_loses r1) (fun r2 => if r2.1 ≤ 0 then (some (r2.1, r2.2)) else (bnd (f_X7_keeps r2.2) (fun r3 => some (r2.1, r3)))))
set_option maxHeartbeats 4000000 in
set_option maxRecDepth 100000 in
theorem c_X7_thins (l : Launch) (G : EV)   (σ : St) (r : (Int32 × St)) (hE : f_X7_thins σ = some r) : MetI l G yX7_thins wsX7_thins rmX7_thins [.ref (aD G 43)] (wM G σ) r.1 (wM G r.2) := by
  refine Met.of0 (Qf := PI G r.1 (wM G r.2)) (cc := cX7_thins) (maxL := 2) (ret := (some .int)) (by decide) rfl (Nat.le_of_ble_eq_true rfl) ?_
  intro p e s m below meth c args A hx hb hr hts hown hlocks hml hin0 hA hS hP hK hD hX ls hl
  have hl : lv_has ls 2 [(0, .ref (aD G 43))] := hl
  generalize hQ : MQ below (PI G r.1 (wM G r.2) A) args s 0 0 A = Q
  unfold f_X7_thins at hE
  refine lv_aload_n hx hb dX7_thins_0 rfl (lv_at hl 0 rfl) ?_
  obtain ⟨r1, hC, hE⟩ := bnd_some hE
  refine cv (va_runV (As := []) (rest := []) ⟨hx, hb, hml, hown, hts⟩ (c_X7_aside l G σ r1 hC _) (cwV 0 hts gX7_thins_X7_aside rfl rfl rfl (by decide +kernel) ⟨Nat.le_of_ble_eq_true rfl, Nat.le_of_ble_eq_true rfl⟩) (preV hK hP hD hS hA hX (va_recv hK hP (ci := 7) (q0 := 13) rfl rfl)) rfl rfl hl.1 rfl (lv_room (Nat.le_of_ble_eq_true rfl)) dX7_thins_1 ⟨Nat.le_of_ble_eq_true rfl, Nat.le_of_ble_eq_true rfl⟩) hD hS hA (fun H locs hP hD hS => ?_)
  refine lv_aload_n hx hb dX7_thins_4 rfl (lv_at hl 0 rfl) ?_
  obtain ⟨r2, hC, hE⟩ := bnd_some hE
  refine ci (va_runV (As := []) (rest := []) ⟨hx, hb, hml, hown, hts⟩ (c_X7_loses l G r1 r2 hC _) (cwV 0 hts gX7_thins_X7_loses rfl rfl rfl (by decide +kernel) ⟨Nat.le_of_ble_eq_true rfl, Nat.le_of_ble_eq_true rfl⟩) (preV hK hP hD hS hA hX (va_recv hK hP (ci := 7) (q0 := 13) rfl rfl)) rfl rfl hl.1 rfl (lv_room (Nat.le_of_ble_eq_true rfl)) dX7_thins_5 ⟨Nat.le_of_ble_eq_true rfl, Nat.le_of_ble_eq_true rfl⟩) hD hS hA (fun H locs hP hD hS => ?_)
  refine lv_istore_n (lv' := [(1, .int r2.1), (0, .ref (aD G 43))]) hx hb dX7_thins_8 rfl hl (by decide) rfl (fun ls hl => ?_)
  refine lv_iload_n hx hb dX7_thins_9 rfl (lv_at hl 0 rfl) ?_
  refine lv_if_le (tgt := 17) hx hb dX7_thins_10 (by decide) (fun c_ => ?_) (fun c_ => ?_)
  · have hE := ip c_ hE
    refine lv_iload_n hx hb dX7_thins_17 rfl (lv_at hl 0 rfl) ?_
    rw [← hQ, ← Option.some.inj hE]
    exact ri hx hb hr hlocks hK hP hD hS dX7_thins_18
  · have hE := im c_ hE
    refine lv_aload_n hx hb dX7_thins_13 rfl (lv_at hl 1 rfl) ?_
    obtain ⟨r3, hC, hE⟩ := bnd_some hE
    refine cv (va_runV (As := []) (rest := []) ⟨hx, hb, hml, hown, hts⟩ (c_X7_keeps l G r2.2 r3 hC _) (cwV 0 hts gX7_thins_X7_keeps rfl rfl rfl (by decide +kernel) ⟨Nat.le_of_ble_eq_true rfl, Nat.le_of_ble_eq_true rfl⟩) (preV hK hP hD hS hA hX (va_recv hK hP (ci := 7) (q0 := 13) rfl rfl)) rfl rfl hl.1 rfl (lv_room (Nat.le_of_ble_eq_true rfl)) dX7_thins_14 ⟨Nat.le_of_ble_eq_true rfl, Nat.le_of_ble_eq_true rfl⟩) hD hS hA (fun H locs hP hD hS => ?_)
    refine lv_iload_n hx hb dX7_thins_17 rfl (lv_at hl 0 rfl) ?_
    rw [← hQ, ← Option.some.inj hE]
    exact ri hx hb hr hlocks hK hP hD hS dX7_thins_18
abbrev rmX7_best : Room := { frames := 6, cells := 0, slots := 0, locals := 136 }
def f_X7_best_J169 (x1 : Int32) (x2 : Int32) (σ : St) : Option (Int32 × St) := gd (((3 : Int32) * x2) + x1) 15 (some ((rd σ 12 (((3 : Int32) * x2) + x1)), σ))
def f_X7_best_J157 (x1 : Int32) (x3 : Int32) (σ : St) : Option (((Int32)) ⊕ (Int32 × Int32)) := some (.inr (x3, (x3 + (1 : Int32))))
def f_X7_best_J161 (x1 : Int32) (x2 : Int32) (x3 : Int32) (σ : St) : Option (((Int32)) ⊕ (Int32 × Int32)) := some (.inr (x2, (x3 + (1 : Int32))))
def f_X7_best_L96 (x1 : Int32) (σ : St) (v96 : Int32 × Int32) : Option (((Int32)) ⊕ (Int32 × Int32)) := if (5 : Int32) ≤ v96.2 then (some (.inl (v96.1))) else (gd (((3 : Int32) * v96.2) + (1 : Int32)) 15 (gd (((3 : Int32) * v96.1) + (1 : Int32)) 15 (if ((rd σ 12 (((3 : Int32) * v96.2) + (1 : Int32))) - (rd σ 12 (((3 : Int32) * v96.1) + (1 : Int32)))) < 0 then (f_X7_best_J157 x1 v96.2 σ) else (if ((rd σ 12 (((3 : Int32) * v96.2) + (1 : Int32))) - (rd σ 12 (((3 : Int32) * v96.1) + (1 : Int32)))) = 0 then (gd (((3 : Int32) * v96.2) + (2 : Int32)) 15 (gd (((3 : Int32) * v96.1) + (2 : Int32)) 15 (if (rd σ 12 (((3 : Int32) * v96.1) + (2 : Int32))) ≤ (rd σ 12 (((3 : Int32) * v96.2) + (2 : Int32))) then (f_X7_best_J161 x1 v96.1 v96.2 σ) else (f_X7_best_J157 x1 v96.2 σ)))) else (f_X7_best_J161 x1 v96.1 v96.2 σ)))))
def f_X7_best_J96 (x1 : Int32) (x2 : Int32) (x3 : Int32) (σ : St) : Option (Int32 × St) := bnd (loopN (f_X7_best_L96 x1 σ) 4096 (x2, x3)) (fun y96 => f_X7_best_J169 x1 y96 σ)
def f_X7_best_J92 (x1 : Int32) (σ : St) : Option (Int32 × St) := f_X7_best_J96 x1 (0 : Int32) (1 : Int32) σ
def f_X7_best_L22 (x1 : Int32) (v22 : Int32 × St) : Option (((St)) ⊕ (Int32 × St)) := if (5 : Int32) ≤ v22.1 then (some (.inl (v22.2))) else (bnd (f_X7_stepsBy v22.1 (40 : Int32) v22.2) (fun r3 => bnd (f_X7_loses r3.2) (fun r4 => bnd (f_X7_laysSums r4.2) (fun r5 => gd ((3 : Int32) * v22.1) 15 (bnd (f_X7_windowsNow (1 : Int32) (sA r5 12 ((3 : Int32) * v22.1) v22.1)) (fun r6 => gd (((3 : Int32) * v22.1) + (1 : Int32)) 15 (bnd (f_X7_fillOf (sA (sA r5 12 ((3 : Int32) * v22.1) v22.1) 12 (((3 : Int32) * v22.1) + (1 : Int32)) r6)) (fun r7 => gd (((3 : Int32) * v22.1) + (2 : Int32)) 15 (bnd (f_X7_back (sA (sA (sA r5 12 ((3 : Int32) * v22.1) v22.1) 12 (((3 : Int32) * v22.1) + (1 : Int32)) r6) 12 (((3 : Int32) * v22.1) + (2 : Int32)) r7)) (fun r8 => some (.inr ((v22.1 + (1 : Int32)), r8))))))))))))
def f_X7_best_J22 (x1 : Int32) (x2 : Int32) (σ : St) : Option (Int32 × St) := bnd (loopN (f_X7_best_L22 x1) 4096 (x2, σ)) (fun y22 => f_X7_best_J92 x1 y22)
def f_X7_best (x1 : Int32) (σ : St) : Option (Int32 × St) := bnd (f_X7_in x1 (0 : Int32) (2 : Int32)) (fun r1 => if r1 = 0 then (bnd (f_X7_refuses (-2 : Int32) σ) (fun r9 => some (r9.1, r9.2))) else (bnd (f_X7_aside σ) (fun r2 => f_X7_best_J22 x1 (0 : Int32) r2)))
set_option maxHeartbeats 4000000 in
set_option maxRecDepth 100000 in
theorem c_X7_best (l : Launch) (G : EV)  (x1 : Int32) (σ : St) (r : (Int32 × St)) (hE : f_X7_best x1 σ = some r) : MetI l G yX7_best wsX7_best rmX7_best [.ref (aD G 43), .int x1] (wM G σ) r.1 (wM G r.2) := by
  refine Met.of0 (Qf := PI G r.1 (wM G r.2)) (cc := cX7_best) (maxL := 5) (ret := (some .int)) (by decide) rfl (Nat.le_of_ble_eq_true rfl) ?_
  intro p e s m below meth c args A hx hb hr hts hown hlocks hml hin0 hA hS hP hK hD hX ls hl
  have hl : lv_has ls 5 [(0, .ref (aD G 43)), (1, .int x1)] := hl
  generalize hQ : MQ below (PI G r.1 (wM G r.2) A) args s 0 0 A = Q
  unfold f_X7_best at hE
  have J_169 : ∀ (x2 : Int32) (σ : St) (H : Heap) (locs : List Loc) (ls : Array Slot), va_P G.1 vwCl (wM G σ) H → va_D A (wM G σ) → va_S A s.heap H locs → lv_has ls 5 [(0, .ref (aD G 43)), (1, .int x1), (2, .int x2)] → f_X7_best_J169 x1 x2 σ = some r → W p l e rmX7_best s m args below meth c H locs 0 0 Q (F0 m 169 ls []) := by
    intro x2 σ H locs ls hP hD hS hl hE
    unfold f_X7_best_J169 at hE
    refine lv_aload_n hx hb dX7_best_169 rfl (lv_at hl 0 rfl) ?_
    refine va_get (ci := 7) (v := .ref (aD G 42)) (C := RX7) (T := TX7) (N := 17) hx hb hts (fun _ h => List.mem_cons_of_mem _ (List.mem_append_right _ h)) hown hK hP 13 rfl rfl 16 (by decide) (hts (.fieldLink RX7 46 "FillCellsModel" "results" "[I") (List.mem_of_getElem? (i := 1) rfl)) (fun _ h9 => h9) rfl dX7_best_170 ?_
    refine lv_iconst (v := (3 : Int32)) hx hb dX7_best_173 (by decide) ?_
    refine lv_iload_n hx hb dX7_best_174 rfl (lv_at hl 2 rfl) ?_
    refine lv_imul hx hb dX7_best_175 ?_
    refine lv_iload_n hx hb dX7_best_176 rfl (lv_at hl 1 rfl) ?_
    refine lv_iadd hx hb dX7_best_177 ?_
    obtain ⟨h_i, hE⟩ := gd_some hE
    refine ldM hx hb hK hP 12 (by decide) h_i dX7_best_178 ?_
    rw [← hQ, ← Option.some.inj hE]
    exact ri hx hb hr hlocks hK hP hD hS dX7_best_179
  have J_96 : ∀ (x2 : Int32) (x3 : Int32) (σ : St) (H : Heap) (locs : List Loc) (ls : Array Slot), va_P G.1 vwCl (wM G σ) H → va_D A (wM G σ) → va_S A s.heap H locs → lv_has ls 5 [(0, .ref (aD G 43)), (1, .int x1), (2, .int x2), (3, .int x3)] → f_X7_best_J96 x1 x2 x3 σ = some r → W p l e rmX7_best s m args below meth c H locs 0 0 Q (F0 m 96 ls []) := by
    intro x2 x3 σ H locs ls hP hD hS hl hE
    unfold f_X7_best_J96 at hE
    obtain ⟨y96, hL, hE96⟩ := bnd_some hE
    refine loop_W (body := f_X7_best_L96 x1 σ) (y := y96) (P := fun v96 => ∀ (H : Heap) (locs : List Loc) (ls : Array Slot), va_P G.1 vwCl (wM G σ) H → va_D A (wM G σ) → va_S A s.heap H locs → lv_has ls 5 [(0, .ref (aD G 43)), (1, .int x1), (2, .int v96.1), (3, .int v96.2)] → W p l e rmX7_best s m args below meth c H locs 0 0 Q (F0 m 96 ls [])) ?_ _ _ hL H locs ls hP hD hS hl
    clear hP hD hS hl hE hL
    intro v96 t96 hE hN96 hY96
    intro H locs ls hP hD hS hl
    unfold f_X7_best_L96 at hE
    have J_157 : ∀ (x3 : Int32) (H : Heap) (locs : List Loc) (ls : Array Slot), va_P G.1 vwCl (wM G σ) H → va_D A (wM G σ) → va_S A s.heap H locs → lv_has ls 5 [(0, .ref (aD G 43)), (1, .int x1), (3, .int x3)] → f_X7_best_J157 x1 x3 σ = some t96 → W p l e rmX7_best s m args below meth c H locs 0 0 Q (F0 m 157 ls []) := by
      intro x3 H locs ls hP hD hS hl hE
      unfold f_X7_best_J157 at hE
      refine lv_iload_n hx hb dX7_best_157 rfl (lv_at hl 2 rfl) ?_
      refine lv_goto (tgt := 162) hx hb dX7_best_158 (by decide) ?_
      refine lv_istore_n (lv' := [(2, .int x3), (0, .ref (aD G 43)), (1, .int x1), (3, .int x3)]) hx hb dX7_best_162 rfl hl (by decide) rfl (fun ls hl => ?_)
      refine lv_iinc (v := (x3 + (1 : Int32))) (lv' := [(3, .int (x3 + (1 : Int32))), (2, .int x3), (0, .ref (aD G 43)), (1, .int x1)]) hx hb dX7_best_163 hl (k := 3) rfl rfl (by decide) rfl (fun ls hl => ?_)
      refine lv_goto (tgt := 96) hx hb dX7_best_166 (by decide) ?_
      exact hN96 _ (Option.some.inj hE).symm _ _ _ hP hD hS (lv_sub hl [2, 3, 1, 0] rfl)
    have J_161 : ∀ (x2 : Int32) (x3 : Int32) (H : Heap) (locs : List Loc) (ls : Array Slot), va_P G.1 vwCl (wM G σ) H → va_D A (wM G σ) → va_S A s.heap H locs → lv_has ls 5 [(0, .ref (aD G 43)), (1, .int x1), (2, .int x2), (3, .int x3)] → f_X7_best_J161 x1 x2 x3 σ = some t96 → W p l e rmX7_best s m args below meth c H locs 0 0 Q (F0 m 161 ls []) := by
      intro x2 x3 H locs ls hP hD hS hl hE
      unfold f_X7_best_J161 at hE
      refine lv_iload_n hx hb dX7_best_161 rfl (lv_at hl 2 rfl) ?_
      refine lv_istore_n (lv' := [(2, .int x2), (0, .ref (aD G 43)), (1, .int x1), (3, .int x3)]) hx hb dX7_best_162 rfl hl (by decide) rfl (fun ls hl => ?_)
      refine lv_iinc (v := (x3 + (1 : Int32))) (lv' := [(3, .int (x3 + (1 : Int32))), (2, .int x2), (0, .ref (aD G 43)), (1, .int x1)]) hx hb dX7_best_163 hl (k := 3) rfl rfl (by decide) rfl (fun ls hl => ?_)
      refine lv_goto (tgt := 96) hx hb dX7_best_166 (by decide) ?_
      exact hN96 _ (Option.some.inj hE).symm _ _ _ hP hD hS (lv_sub hl [2, 3, 1, 0] rfl)
    refine lv_iload_n hx hb dX7_best_96 rfl (lv_at hl 3 rfl) ?_
    refine lv_iconst (v := (5 : Int32)) hx hb dX7_best_97 (by decide) ?_
    refine lv_icmp_ge (tgt := 169) hx hb dX7_best_98 (by decide) (fun c_ => ?_) (fun c_ => ?_)
    · have hE := ip c_ hE
      have e9 := hY96 _ (Option.some.inj hE).symm
      have hE := hE96
      rw [← e9] at hE
      exact J_169 v96.1 σ _ _ _ hP hD hS (lv_sub hl [0, 1, 2] rfl) hE
    · have hE := im c_ hE
      refine lv_aload_n hx hb dX7_best_101 rfl (lv_at hl 0 rfl) ?_
      refine va_get (ci := 7) (v := .ref (aD G 42)) (C := RX7) (T := TX7) (N := 17) hx hb hts (fun _ h => List.mem_cons_of_mem _ (List.mem_append_right _ h)) hown hK hP 13 rfl rfl 16 (by decide) (hts (.fieldLink RX7 46 "FillCellsModel" "results" "[I") (List.mem_of_getElem? (i := 1) rfl)) (fun _ h9 => h9) rfl dX7_best_102 ?_
      refine lv_iconst (v := (3 : Int32)) hx hb dX7_best_105 (by decide) ?_
      refine lv_iload_n hx hb dX7_best_106 rfl (lv_at hl 3 rfl) ?_
      refine lv_imul hx hb dX7_best_107 ?_
      refine lv_iconst (v := (1 : Int32)) hx hb dX7_best_108 (by decide) ?_
      refine lv_iadd hx hb dX7_best_109 ?_
      obtain ⟨h_i, hE⟩ := gd_some hE
      refine ldM hx hb hK hP 12 (by decide) h_i dX7_best_110 ?_
      refine lv_aload_n hx hb dX7_best_111 rfl (lv_at hl 0 rfl) ?_
      refine va_get (ci := 7) (v := .ref (aD G 42)) (C := RX7) (T := TX7) (N := 17) hx hb hts (fun _ h => List.mem_cons_of_mem _ (List.mem_append_right _ h)) hown hK hP 13 rfl rfl 16 (by decide) (hts (.fieldLink RX7 46 "FillCellsModel" "results" "[I") (List.mem_of_getElem? (i := 1) rfl)) (fun _ h9 => h9) rfl dX7_best_112 ?_
      refine lv_iconst (v := (3 : Int32)) hx hb dX7_best_115 (by decide) ?_
      refine lv_iload_n hx hb dX7_best_116 rfl (lv_at hl 2 rfl) ?_
      refine lv_imul hx hb dX7_best_117 ?_
      refine lv_iconst (v := (1 : Int32)) hx hb dX7_best_118 (by decide) ?_
      refine lv_iadd hx hb dX7_best_119 ?_
      obtain ⟨h_i, hE⟩ := gd_some hE
      refine ldM hx hb hK hP 12 (by decide) h_i dX7_best_120 ?_
      refine lv_isub hx hb dX7_best_121 ?_
      refine lv_istore (lv' := [(4, .int ((rd σ 12 (((3 : Int32) * v96.2) + (1 : Int32))) - (rd σ 12 (((3 : Int32) * v96.1) + (1 : Int32))))), (0, .ref (aD G 43)), (1, .int x1), (2, .int v96.1), (3, .int v96.2)]) hx hb dX7_best_122 hl (by decide) rfl (fun ls hl => ?_)
      refine lv_iload hx hb dX7_best_124 (lv_at hl 0 rfl) ?_
      refine lv_if_lt (tgt := 157) hx hb dX7_best_126 (by decide) (fun c_ => ?_) (fun c_ => ?_)
      · have hE := ip c_ hE
        exact J_157 v96.2 _ _ _ hP hD hS (lv_sub hl [1, 2, 4] rfl) hE
      · have hE := im c_ hE
        refine lv_iload hx hb dX7_best_129 (lv_at hl 0 rfl) ?_
        refine lv_if_ne (tgt := 161) hx hb dX7_best_131 (by decide) (fun c_ => ?_) (fun c_ => ?_)
        · have hE := im c_ hE
          exact J_161 v96.1 v96.2 _ _ _ hP hD hS (lv_sub hl [1, 2, 3, 4] rfl) hE
        · have hE := ip c_ hE
          refine lv_aload_n hx hb dX7_best_134 rfl (lv_at hl 1 rfl) ?_
          refine va_get (ci := 7) (v := .ref (aD G 42)) (C := RX7) (T := TX7) (N := 17) hx hb hts (fun _ h => List.mem_cons_of_mem _ (List.mem_append_right _ h)) hown hK hP 13 rfl rfl 16 (by decide) (hts (.fieldLink RX7 46 "FillCellsModel" "results" "[I") (List.mem_of_getElem? (i := 1) rfl)) (fun _ h9 => h9) rfl dX7_best_135 ?_
          refine lv_iconst (v := (3 : Int32)) hx hb dX7_best_138 (by decide) ?_
          refine lv_iload_n hx hb dX7_best_139 rfl (lv_at hl 4 rfl) ?_
          refine lv_imul hx hb dX7_best_140 ?_
          refine lv_iconst (v := (2 : Int32)) hx hb dX7_best_141 (by decide) ?_
          refine lv_iadd hx hb dX7_best_142 ?_
          obtain ⟨h_i, hE⟩ := gd_some hE
          refine ldM hx hb hK hP 12 (by decide) h_i dX7_best_143 ?_
          refine lv_aload_n hx hb dX7_best_144 rfl (lv_at hl 1 rfl) ?_
          refine va_get (ci := 7) (v := .ref (aD G 42)) (C := RX7) (T := TX7) (N := 17) hx hb hts (fun _ h => List.mem_cons_of_mem _ (List.mem_append_right _ h)) hown hK hP 13 rfl rfl 16 (by decide) (hts (.fieldLink RX7 46 "FillCellsModel" "results" "[I") (List.mem_of_getElem? (i := 1) rfl)) (fun _ h9 => h9) rfl dX7_best_145 ?_
          refine lv_iconst (v := (3 : Int32)) hx hb dX7_best_148 (by decide) ?_
          refine lv_iload_n hx hb dX7_best_149 rfl (lv_at hl 3 rfl) ?_
          refine lv_imul hx hb dX7_best_150 ?_
          refine lv_iconst (v := (2 : Int32)) hx hb dX7_best_151 (by decide) ?_
          refine lv_iadd hx hb dX7_best_152 ?_
          obtain ⟨h_i, hE⟩ := gd_some hE
          refine ldM hx hb hK hP 12 (by decide) h_i dX7_best_153 ?_
          refine lv_icmp_ge (tgt := 161) hx hb dX7_best_154 (by decide) (fun c_ => ?_) (fun c_ => ?_)
          · have hE := ip c_ hE
            exact J_161 v96.1 v96.2 _ _ _ hP hD hS (lv_sub hl [1, 2, 3, 4] rfl) hE
          · have hE := im c_ hE
            exact J_157 v96.2 _ _ _ hP hD hS (lv_sub hl [1, 2, 4] rfl) hE
  have J_92 : ∀ (σ : St) (H : Heap) (locs : List Loc) (ls : Array Slot), va_P G.1 vwCl (wM G σ) H → va_D A (wM G σ) → va_S A s.heap H locs → lv_has ls 5 [(0, .ref (aD G 43)), (1, .int x1)] → f_X7_best_J92 x1 σ = some r → W p l e rmX7_best s m args below meth c H locs 0 0 Q (F0 m 92 ls []) := by
    intro σ H locs ls hP hD hS hl hE
    unfold f_X7_best_J92 at hE
    refine lv_iconst (v := (0 : Int32)) hx hb dX7_best_92 (by decide) ?_
    refine lv_istore_n (lv' := [(2, .int (0 : Int32)), (0, .ref (aD G 43)), (1, .int x1)]) hx hb dX7_best_93 rfl hl (by decide) rfl (fun ls hl => ?_)
    refine lv_iconst (v := (1 : Int32)) hx hb dX7_best_94 (by decide) ?_
    refine lv_istore_n (lv' := [(3, .int (1 : Int32)), (2, .int (0 : Int32)), (0, .ref (aD G 43)), (1, .int x1)]) hx hb dX7_best_95 rfl hl (by decide) rfl (fun ls hl => ?_)
    exact J_96 (0 : Int32) (1 : Int32) σ _ _ _ hP hD hS (lv_sub hl [2, 3, 1, 0] rfl) hE
  have J_22 : ∀ (x2 : Int32) (σ : St) (H : Heap) (locs : List Loc) (ls : Array Slot), va_P G.1 vwCl (wM G σ) H → va_D A (wM G σ) → va_S A s.heap H locs → lv_has ls 5 [(0, .ref (aD G 43)), (1, .int x1), (2, .int x2)] → f_X7_best_J22 x1 x2 σ = some r → W p l e rmX7_best s m args below meth c H locs 0 0 Q (F0 m 22 ls []) := by
    intro x2 σ H locs ls hP hD hS hl hE
    unfold f_X7_best_J22 at hE
    obtain ⟨y22, hL, hE22⟩ := bnd_some hE
    refine loop_W (body := f_X7_best_L22 x1) (y := y22) (P := fun v22 => ∀ (H : Heap) (locs : List Loc) (ls : Array Slot), va_P G.1 vwCl (wM G v22.2) H → va_D A (wM G v22.2) → va_S A s.heap H locs → lv_has ls 5 [(0, .ref (aD G 43)), (1, .int x1), (2, .int v22.1)] → W p l e rmX7_best s m args below meth c H locs 0 0 Q (F0 m 22 ls [])) ?_ _ _ hL H locs ls hP hD hS hl
    clear hP hD hS hl hE hL
    intro v22 t22 hE hN22 hY22
    intro H locs ls hP hD hS hl
    unfold f_X7_best_L22 at hE
    refine lv_iload_n hx hb dX7_best_22 rfl (lv_at hl 2 rfl) ?_
    refine lv_iconst (v := (5 : Int32)) hx hb dX7_best_23 (by decide) ?_
    refine lv_icmp_ge (tgt := 92) hx hb dX7_best_24 (by decide) (fun c_ => ?_) (fun c_ => ?_)
    · have hE := ip c_ hE
      have e9 := hY22 _ (Option.some.inj hE).symm
      have hE := hE22
      rw [← e9] at hE
      exact J_92 v22.2 _ _ _ hP hD hS (lv_sub hl [0, 1] rfl) hE
    · have hE := im c_ hE
      refine lv_aload_n hx hb dX7_best_27 rfl (lv_at hl 0 rfl) ?_
      refine lv_iload_n hx hb dX7_best_28 rfl (lv_at hl 2 rfl) ?_
      refine lv_bipush (v := (40 : Int32)) hx hb dX7_best_29 (by decide) ?_
      obtain ⟨r3, hC, hE⟩ := bnd_some hE
      refine ci (va_runV (As := [.int v22.1, .int (40 : Int32)]) (rest := []) ⟨hx, hb, hml, hown, hts⟩ (c_X7_stepsBy l G v22.1 (40 : Int32) v22.2 r3 hC _) (cwV 2 hts gX7_best_X7_stepsBy rfl rfl rfl (by decide +kernel) ⟨Nat.le_of_ble_eq_true rfl, Nat.le_of_ble_eq_true rfl⟩) (preV hK hP hD hS hA hX (va_recv hK hP (ci := 7) (q0 := 13) rfl rfl)) rfl rfl hl.1 rfl (lv_room (Nat.le_of_ble_eq_true rfl)) dX7_best_31 ⟨Nat.le_of_ble_eq_true rfl, Nat.le_of_ble_eq_true rfl⟩) hD hS hA (fun H locs hP hD hS => ?_)
      refine lv_pop hx hb dX7_best_34 rfl ?_
      refine lv_aload_n hx hb dX7_best_35 rfl (lv_at hl 0 rfl) ?_
      obtain ⟨r4, hC, hE⟩ := bnd_some hE
      refine ci (va_runV (As := []) (rest := []) ⟨hx, hb, hml, hown, hts⟩ (c_X7_loses l G r3.2 r4 hC _) (cwV 0 hts gX7_best_X7_loses rfl rfl rfl (by decide +kernel) ⟨Nat.le_of_ble_eq_true rfl, Nat.le_of_ble_eq_true rfl⟩) (preV hK hP hD hS hA hX (va_recv hK hP (ci := 7) (q0 := 13) rfl rfl)) rfl rfl hl.1 rfl (lv_room (Nat.le_of_ble_eq_true rfl)) dX7_best_36 ⟨Nat.le_of_ble_eq_true rfl, Nat.le_of_ble_eq_true rfl⟩) hD hS hA (fun H locs hP hD hS => ?_)
      refine lv_pop hx hb dX7_best_39 rfl ?_
      refine lv_aload_n hx hb dX7_best_40 rfl (lv_at hl 0 rfl) ?_
      obtain ⟨r5, hC, hE⟩ := bnd_some hE
      refine cv (va_runV (As := []) (rest := []) ⟨hx, hb, hml, hown, hts⟩ (c_X7_laysSums l G r4.2 r5 hC _) (cwV 0 hts gX7_best_X7_laysSums rfl rfl rfl (by decide +kernel) ⟨Nat.le_of_ble_eq_true rfl, Nat.le_of_ble_eq_true rfl⟩) (preV hK hP hD hS hA hX (va_recv hK hP (ci := 7) (q0 := 13) rfl rfl)) rfl rfl hl.1 rfl (lv_room (Nat.le_of_ble_eq_true rfl)) dX7_best_41 ⟨Nat.le_of_ble_eq_true rfl, Nat.le_of_ble_eq_true rfl⟩) hD hS hA (fun H locs hP hD hS => ?_)
      refine lv_aload_n hx hb dX7_best_44 rfl (lv_at hl 0 rfl) ?_
      refine va_get (ci := 7) (v := .ref (aD G 42)) (C := RX7) (T := TX7) (N := 17) hx hb hts (fun _ h => List.mem_cons_of_mem _ (List.mem_append_right _ h)) hown hK hP 13 rfl rfl 16 (by decide) (hts (.fieldLink RX7 46 "FillCellsModel" "results" "[I") (List.mem_of_getElem? (i := 1) rfl)) (fun _ h9 => h9) rfl dX7_best_45 ?_
      refine lv_iconst (v := (3 : Int32)) hx hb dX7_best_48 (by decide) ?_
      refine lv_iload_n hx hb dX7_best_49 rfl (lv_at hl 2 rfl) ?_
      refine lv_imul hx hb dX7_best_50 ?_
      refine lv_iload_n hx hb dX7_best_51 rfl (lv_at hl 2 rfl) ?_
      obtain ⟨h_i, hE⟩ := gd_some hE
      refine stM hx hb hK hP hD hS 12 (by decide) h_i dX7_best_52 (fun H locs hP hD hS => ?_)
      refine lv_aload_n hx hb dX7_best_53 rfl (lv_at hl 0 rfl) ?_
      refine va_get (ci := 7) (v := .ref (aD G 42)) (C := RX7) (T := TX7) (N := 17) hx hb hts (fun _ h => List.mem_cons_of_mem _ (List.mem_append_right _ h)) hown hK hP 13 rfl rfl 16 (by decide) (hts (.fieldLink RX7 46 "FillCellsModel" "results" "[I") (List.mem_of_getElem? (i := 1) rfl)) (fun _ h9 => h9) rfl dX7_best_54 ?_
      refine lv_iconst (v := (3 : Int32)) hx hb dX7_best_57 (by decide) ?_
      refine lv_iload_n hx hb dX7_best_58 rfl (lv_at hl 2 rfl) ?_
      refine lv_imul hx hb dX7_best_59 ?_
      refine lv_iconst (v := (1 : Int32)) hx hb dX7_best_60 (by decide) ?_
      refine lv_iadd hx hb dX7_best_61 ?_
      refine lv_aload_n hx hb dX7_best_62 rfl (lv_at hl 0 rfl) ?_
      refine lv_iconst (v := (1 : Int32)) hx hb dX7_best_63 (by decide) ?_
      obtain ⟨r6, hC, hE⟩ := bnd_some hE
      refine ci (va_runV (As := [.int (1 : Int32)]) (rest := [.int (((3 : Int32) * v22.1) + (1 : Int32)), .ref (aD G 42)]) ⟨hx, hb, hml, hown, hts⟩ (c_X7_windowsNow l G (1 : Int32) (sA r5 12 ((3 : Int32) * v22.1) v22.1) r6 hC _) (cwV 1 hts gX7_best_X7_windowsNow rfl rfl rfl (by decide +kernel) ⟨Nat.le_of_ble_eq_true rfl, Nat.le_of_ble_eq_true rfl⟩) (preV hK hP hD hS hA hX (va_recv hK hP (ci := 7) (q0 := 13) rfl rfl)) rfl rfl hl.1 rfl (lv_room (Nat.le_of_ble_eq_true rfl)) dX7_best_64 ⟨Nat.le_of_ble_eq_true rfl, Nat.le_of_ble_eq_true rfl⟩) hD hS hA (fun H locs hP hD hS => ?_)
      obtain ⟨h_i, hE⟩ := gd_some hE
      refine stM hx hb hK hP hD hS 12 (by decide) h_i dX7_best_67 (fun H locs hP hD hS => ?_)
      refine lv_aload_n hx hb dX7_best_68 rfl (lv_at hl 0 rfl) ?_
      refine va_get (ci := 7) (v := .ref (aD G 42)) (C := RX7) (T := TX7) (N := 17) hx hb hts (fun _ h => List.mem_cons_of_mem _ (List.mem_append_right _ h)) hown hK hP 13 rfl rfl 16 (by decide) (hts (.fieldLink RX7 46 "FillCellsModel" "results" "[I") (List.mem_of_getElem? (i := 1) rfl)) (fun _ h9 => h9) rfl dX7_best_69 ?_
      refine lv_iconst (v := (3 : Int32)) hx hb dX7_best_72 (by decide) ?_
      refine lv_iload_n hx hb dX7_best_73 rfl (lv_at hl 2 rfl) ?_
      refine lv_imul hx hb dX7_best_74 ?_
      refine lv_iconst (v := (2 : Int32)) hx hb dX7_best_75 (by decide) ?_
      refine lv_iadd hx hb dX7_best_76 ?_
      refine lv_aload_n hx hb dX7_best_77 rfl (lv_at hl 0 rfl) ?_
      obtain ⟨r7, hC, hE⟩ := bnd_some hE
      refine ci (va_runV (As := []) (rest := [.int (((3 : Int32) * v22.1) + (2 : Int32)), .ref (aD G 42)]) ⟨hx, hb, hml, hown, hts⟩ (c_X7_fillOf l G (sA (sA r5 12 ((3 : Int32) * v22.1) v22.1) 12 (((3 : Int32) * v22.1) + (1 : Int32)) r6) r7 hC _) (cwV 0 hts gX7_best_X7_fillOf rfl rfl rfl (by decide +kernel) ⟨Nat.le_of_ble_eq_true rfl, Nat.le_of_ble_eq_true rfl⟩) (preV hK hP hD hS hA hX (va_recv hK hP (ci := 7) (q0 := 13) rfl rfl)) rfl rfl hl.1 rfl (lv_room (Nat.le_of_ble_eq_true rfl)) dX7_best_78 ⟨Nat.le_of_ble_eq_true rfl, Nat.le_of_ble_eq_true rfl⟩) hD hS hA (fun H locs hP hD hS => ?_)
      obtain ⟨h_i, hE⟩ := gd_some hE
      refine stM hx hb hK hP hD hS 12 (by decide) h_i dX7_best_81 (fun H locs hP hD hS => ?_)
      refine lv_aload_n hx hb dX7_best_82 rfl (lv_at hl 0 rfl) ?_
      obtain ⟨r8, hC, hE⟩ := bnd_some hE
      refine cv (va_runV (As := []) (rest := []) ⟨hx, hb, hml, hown, hts⟩ (c_X7_back l G (sA (sA (sA r5 12 ((3 : Int32) * v22.1) v22.1) 12 (((3 : Int32) * v22.1) + (1 : Int32)) r6) 12 (((3 : Int32) * v22.1) + (2 : Int32)) r7) r8 hC _) (cwV 0 hts gX7_best_X7_back rfl rfl rfl (by decide +kernel) ⟨Nat.le_of_ble_eq_true rfl, Nat.le_of_ble_eq_true rfl⟩) (preV hK hP hD hS hA hX (va_recv hK hP (ci := 7) (q0 := 13) rfl rfl)) rfl rfl hl.1 rfl (lv_room (Nat.le_of_ble_eq_true rfl)) dX7_best_83 ⟨Nat.le_of_ble_eq_true rfl, Nat.le_of_ble_eq_true rfl⟩) hD hS hA (fun H locs hP hD hS => ?_)
      refine lv_iinc (v := (v22.1 + (1 : Int32))) (lv' := [(2, .int (v22.1 + (1 : Int32))), (0, .ref (aD G 43)), (1, .int x1)]) hx hb dX7_best_86 hl (k := 2) rfl rfl (by decide) rfl (fun ls hl => ?_)
      refine lv_goto (tgt := 22) hx hb dX7_best_89 (by decide) ?_
      exact hN22 _ (Option.some.inj hE).symm _ _ _ hP hD hS (lv_sub hl [1, 2, 0] rfl)
  refine lv_iload_n hx hb dX7_best_0 rfl (lv_at hl 1 rfl) ?_
  refine lv_iconst (v := (0 : Int32)) hx hb dX7_best_1 (by decide) ?_
  refine lv_iconst (v := (2 : Int32)) hx hb dX7_best_2 (by decide) ?_
  obtain ⟨r1, hC, hE⟩ := bnd_some hE
  refine ci (va_runS (As := [.int x1, .int (0 : Int32), .int (2 : Int32)]) (rest := []) ⟨hx, hb, hml, hown, hts⟩ (c_X7_in l G x1 (0 : Int32) (2 : Int32) σ r1 hC _) (va_cwS 3 hts gX7_best_X7_in rfl rfl rfl (by decide +kernel) ⟨Nat.le_of_ble_eq_true rfl, Nat.le_of_ble_eq_true rfl⟩) (preS hK hP hD hS hA hX) rfl rfl hl.1 rfl (lv_room (Nat.le_of_ble_eq_true rfl)) dX7_best_3 ⟨Nat.le_of_ble_eq_true rfl, Nat.le_of_ble_eq_true rfl⟩) hD hS hA (fun H locs hP hD hS => ?_)
  refine lv_if_ne (tgt := 16) hx hb dX7_best_6 (by decide) (fun c_ => ?_) (fun c_ => ?_)
  · have hE := im c_ hE
    refine lv_aload_n hx hb dX7_best_16 rfl (lv_at hl 0 rfl) ?_
    obtain ⟨r2, hC, hE⟩ := bnd_some hE
    refine cv (va_runV (As := []) (rest := []) ⟨hx, hb, hml, hown, hts⟩ (c_X7_aside l G σ r2 hC _) (cwV 0 hts gX7_best_X7_aside rfl rfl rfl (by decide +kernel) ⟨Nat.le_of_ble_eq_true rfl, Nat.le_of_ble_eq_true rfl⟩) (preV hK hP hD hS hA hX (va_recv hK hP (ci := 7) (q0 := 13) rfl rfl)) rfl rfl hl.1 rfl (lv_room (Nat.le_of_ble_eq_true rfl)) dX7_best_17 ⟨Nat.le_of_ble_eq_true rfl, Nat.le_of_ble_eq_true rfl⟩) hD hS hA (fun H locs hP hD hS => ?_)
    refine lv_iconst (v := (0 : Int32)) hx hb dX7_best_20 (by decide) ?_
    refine lv_istore_n (lv' := [(2, .int (0 : Int32)), (0, .ref (aD G 43)), (1, .int x1)]) hx hb dX7_best_21 rfl hl (by decide) rfl (fun ls hl => ?_)
    exact J_22 (0 : Int32) r2 _ _ _ hP hD hS (lv_sub hl [1, 2, 0] rfl) hE
  · have hE := ip c_ hE
    refine lv_aload_n hx hb dX7_best_9 rfl (lv_at hl 0 rfl) ?_
    refine lv_bipush (v := (-2 : Int32)) hx hb dX7_best_10 (by decide) ?_
    obtain ⟨r9, hC, hE⟩ := bnd_some hE
    refine ci (va_runV (As := [.int (-2 : Int32)]) (rest := []) ⟨hx, hb, hml, hown, hts⟩ (c_X7_refuses l G (-2 : Int32) σ r9 hC _) (cwV 1 hts gX7_best_X7_refuses rfl rfl rfl (by decide +kernel) ⟨Nat.le_of_ble_eq_true rfl, Nat.le_of_ble_eq_true rfl⟩) (preV hK hP hD hS hA hX (va_recv hK hP (ci := 7) (q0 := 13) rfl rfl)) rfl rfl hl.1 rfl (lv_room (Nat.le_of_ble_eq_true rfl)) dX7_best_12 ⟨Nat.le_of_ble_eq_true rfl, Nat.le_of_ble_eq_true rfl⟩) hD hS hA (fun H locs hP hD hS => ?_)
    rw [← hQ, ← Option.some.inj hE]
    exact ri hx hb hr hlocks hK hP hD hS dX7_best_15
abbrev rmX7_row : Room := { frames := 1, cells := 0, slots := 0, locals := 22 }
def f_X7_row_J20 (σ : St) : Option (Int32 × St) := bnd (f_X7_refuses (-2 : Int32) σ) (fun r2 => some (r2.1, r2.2))
def f_X7_row_J241 (x1 : Int32) (x2 : Int32) (x3 : Int32) (x4 : Int32) (x5 : Int32) (σ : St) : Option ((((Int32 × St) ⊕ (Int32 × St))) ⊕ (Int32 × Int32 × St)) := if x5 ≤ 0 then (some (.inr (x3, (x4 + (1 : Int32)), σ))) else (some (.inl (.inl ((-1 : Int32), σ))))
def f_X7_row_J209 (x1 : Int32) (x2 : Int32) (x3 : Int32) (x4 : Int32) (x5 : Int32) (x6 : Int32) (t0 : Int32) (σ : St) : Option (((Int32 × Int32 × St)) ⊕ (Int32 × Int32 × Int32 × St)) := gd x6 15 (gd x6 15 (some (.inr ((x3 + t0), (x5 - t0), (x6 + (-1 : Int32)), (sA σ 12 x6 ((rd σ 12 x6) + t0))))))
def f_X7_row_J193 (x1 : Int32) (x2 : Int32) (x3 : Int32) (x4 : Int32) (x5 : Int32) (x6 : Int32) (t0 : Int32) (σ : St) : Option (((Int32 × Int32 × St)) ⊕ (Int32 × Int32 × Int32 × St)) := if x5 ≤ t0 then (f_X7_row_J209 x1 x2 x3 x4 x5 x6 x5 σ) else (f_X7_row_J209 x1 x2 x3 x4 x5 x6 t0 σ)
def f_X7_row_L135 (x1 : Int32) (x2 : Int32) (x4 : Int32) (v135 : Int32 × Int32 × Int32 × St) : Option (((Int32 × Int32 × St)) ⊕ (Int32 × Int32 × Int32 × St)) := if v135.2.2.1 < x4 then (some (.inl (v135.1, v135.2.1, v135.2.2.2))) else (if v135.2.1 ≤ 0 then (some (.inl (v135.1, v135.2.1, v135.2.2.2))) else (gd (((80 : Int32) + ((10 : Int32) * x1)) + v135.2.2.1) 400 (if (rd v135.2.2.2 0 (((80 : Int32) + ((10 : Int32) * x1)) + v135.2.2.1)) = (1 : Int32) then (f_X7_row_J193 x1 x2 v135.1 x4 v135.2.1 v135.2.2.1 (0 : Int32) v135.2.2.2) else (gd (((10 : Int32) * x1) + v135.2.2.1) 400 (gd v135.2.2.1 15 (f_X7_row_J193 x1 x2 v135.1 x4 v135.2.1 v135.2.2.1 (((9 : Int32) - (rd v135.2.2.2 0 (((10 : Int32) * x1) + v135.2.2.1))) - (rd v135.2.2.2 12 v135.2.2.1)) v135.2.2.2))))))
def f_X7_row_J135 (x1 : Int32) (x2 : Int32) (x3 : Int32) (x4 : Int32) (x5 : Int32) (x6 : Int32) (σ : St) : Option ((((Int32 × St) ⊕ (Int32 × St))) ⊕ (Int32 × Int32 × St)) := bnd (loopN (f_X7_row_L135 x1 x2 x4) 4096 (x3, x5, x6, σ)) (fun y135 => f_X7_row_J241 x1 x2 y135.1 x4 y135.2.1 y135.2.2)
def f_X7_row_J122 (x1 : Int32) (x2 : Int32) (x3 : Int32) (x4 : Int32) (x5 : Int32) (σ : St) : Option ((((Int32 × St) ⊕ (Int32 × St))) ⊕ (Int32 × Int32 × St)) := gd (1 : Int32) 8 (f_X7_row_J135 x1 x2 x3 x4 x5 ((x4 + (rd σ 3 (1 : Int32))) - (1 : Int32)) σ)
def f_X7_row_L77 (x1 : Int32) (x2 : Int32) (x3 : Int32) (x4 : Int32) (σ : St) (v77 : Int32 × Int32) : Option (((Int32)) ⊕ (Int32 × Int32)) := gd (1 : Int32) 8 (if (x4 + (rd σ 3 (1 : Int32))) ≤ v77.2 then (some (.inl (v77.1))) else (gd (((10 : Int32) * x1) + v77.2) 400 (gd v77.2 15 (some (.inr ((v77.1 - ((rd σ 0 (((10 : Int32) * x1) + v77.2)) + (rd σ 12 v77.2))), (v77.2 + (1 : Int32))))))))
def f_X7_row_J77 (x1 : Int32) (x2 : Int32) (x3 : Int32) (x4 : Int32) (x5 : Int32) (x6 : Int32) (σ : St) : Option ((((Int32 × St) ⊕ (Int32 × St))) ⊕ (Int32 × Int32 × St)) := bnd (loopN (f_X7_row_L77 x1 x2 x3 x4 σ) 4096 (x5, x6)) (fun y77 => f_X7_row_J122 x1 x2 x3 x4 y77 σ)
def f_X7_row_L56 (x1 : Int32) (x2 : Int32) (v56 : Int32 × Int32 × St) : Option ((((Int32 × St) ⊕ (Int32 × St))) ⊕ (Int32 × Int32 × St)) := gd (1 : Int32) 8 (if (10 : Int32) < (v56.2.1 + (rd v56.2.2 3 (1 : Int32))) then (some (.inl (.inr (v56.1, v56.2.2)))) else (f_X7_row_J77 x1 x2 v56.1 v56.2.1 x2 v56.2.1 v56.2.2))
def f_X7_row_J56 (x1 : Int32) (x2 : Int32) (x3 : Int32) (x4 : Int32) (σ : St) : Option (Int32 × St) := bnd (loopN (f_X7_row_L56 x1 x2) 4096 (x3, x4, σ)) (fun y56 => ear (fun q => q) y56 (fun y56 => some (y56.1, y56.2)))
def f_X7_row_J53 (x1 : Int32) (x2 : Int32) (x3 : Int32) (σ : St) : Option (Int32 × St) := f_X7_row_J56 x1 x2 x3 (0 : Int32) σ
def f_X7_row_L32 (x1 : Int32) (x2 : Int32) (x3 : Int32) (v32 : Int32 × St) : Option (((St)) ⊕ (Int32 × St)) := if (10 : Int32) ≤ v32.1 then (some (.inl (v32.2))) else (gd v32.1 15 (some (.inr ((v32.1 + (1 : Int32)), (sA v32.2 12 v32.1 (0 : Int32))))))
def f_X7_row_J32 (x1 : Int32) (x2 : Int32) (x3 : Int32) (x4 : Int32) (σ : St) : Option (Int32 × St) := bnd (loopN (f_X7_row_L32 x1 x2 x3) 4096 (x4, σ)) (fun y32 => f_X7_row_J53 x1 x2 x3 y32)
def f_X7_row (x1 x2 : Int32) (σ : St) : Option (Int32 × St) := bnd (f_X7_in x1 (0 : Int32) (7 : Int32)) (fun r1 => if r1 = 0 then (f_X7_row_J20 σ) else (bnd (f_X7_in x2 (0 : Int32) (90 : Int32)) (fun r3 => if r3 = 0 then (f_X7_row_J20 σ) else (f_X7_row_J32 x1 x2 (0 : Int32) (0 : Int32) σ))))
set_option maxHeartbeats 4000000 in
set_option maxRecDepth 100000 in
theorem c_X7_row (l : Launch) (G : EV)  (x1 x2 : Int32) (σ : St) (r : (Int32 × St)) (hE : f_X7_row x1 x2 σ = some r) : MetI l G yX7_row wsX7_row rmX7_row [.ref (aD G 43), .int x1, .int x2] (wM G σ) r.1 (wM G r.2) := by
  refine Met.of0 (Qf := PI G r.1 (wM G r.2)) (cc := cX7_row) (maxL := 9) (ret := (some .int)) (by decide) rfl (Nat.le_of_ble_eq_true rfl) ?_
  intro p e s m below meth c args A hx hb hr hts hown hlocks hml hin0 hA hS hP hK hD hX ls hl
  have hl : lv_has ls 9 [(0, .ref (aD G 43)), (1, .int x1), (2, .int x2)] := hl
  generalize hQ : MQ below (PI G r.1 (wM G r.2) A) args s 0 0 A = Q
  unfold f_X7_row at hE
  have J_20 : ∀ (σ : St) (H : Heap) (locs : List Loc) (ls : Array Slot), va_P G.1 vwCl (wM G σ) H → va_D A (wM G σ) → va_S A s.heap H locs → lv_has ls 9 [(0, .ref (aD G 43))] → f_X7_row_J20 σ = some r → W p l e rmX7_row s m args below meth c H locs 0 0 Q (F0 m 20 ls []) := by
    intro σ H locs ls hP hD hS hl hE
    unfold f_X7_row_J20 at hE
    refine lv_aload_n hx hb dX7_row_20 rfl (lv_at hl 0 rfl) ?_
    refine lv_bipush (v := (-2 : Int32)) hx hb dX7_row_21 (by decide) ?_
    obtain ⟨r2, hC, hE⟩ := bnd_some hE
    refine ci (va_runV (As := [.int (-2 : Int32)]) (rest := []) ⟨hx, hb, hml, hown, hts⟩ (c_X7_refuses l G (-2 : Int32) σ r2 hC _) (cwV 1 hts gX7_row_X7_refuses rfl rfl rfl (by decide +kernel) ⟨Nat.le_of_ble_eq_true rfl, Nat.le_of_ble_eq_true rfl⟩) (preV hK hP hD hS hA hX (va_recv hK hP (ci := 7) (q0 := 13) rfl rfl)) rfl rfl hl.1 rfl (lv_room (Nat.le_of_ble_eq_true rfl)) dX7_row_23 ⟨Nat.le_of_ble_eq_true rfl, Nat.le_of_ble_eq_true rfl⟩) hD hS hA (fun H locs hP hD hS => ?_)
    rw [← hQ, ← Option.some.inj hE]
    exact ri hx hb hr hlocks hK hP hD hS dX7_row_26
  have J_56 : ∀ (x3 : Int32) (x4 : Int32) (σ : St) (H : Heap) (locs : List Loc) (ls : Array Slot), va_P G.1 vwCl (wM G σ) H → va_D A (wM G σ) → va_S A s.heap H locs → lv_has ls 9 [(0, .ref (aD G 43)), (1, .int x1), (2, .int x2), (3, .int x3), (4, .int x4)] → f_X7_row_J56 x1 x2 x3 x4 σ = some r → W p l e rmX7_row s m args below meth c H locs 0 0 Q (F0 m 56 ls []) := by
    intro x3 x4 σ H locs ls hP hD hS hl hE
    unfold f_X7_row_J56 at hE
    obtain ⟨y56, hL, hE56⟩ := bnd_some hE
    refine loop_W (body := f_X7_row_L56 x1 x2) (y := y56) (P := fun v56 => ∀ (H : Heap) (locs : List Loc) (ls : Array Slot), va_P G.1 vwCl (wM G v56.2.2) H → va_D A (wM G v56.2.2) → va_S A s.heap H locs → lv_has ls 9 [(0, .ref (aD G 43)), (1, .int x1), (2, .int x2), (3, .int v56.1), (4, .int v56.2.1)] → W p l e rmX7_row s m args below meth c H locs 0 0 Q (F0 m 56 ls [])) ?_ _ _ hL H locs ls hP hD hS hl
    clear hP hD hS hl hE hL
    intro v56 t56 hE hN56 hY56
    intro H locs ls hP hD hS hl
    unfold f_X7_row_L56 at hE
    have J_241 : ∀ (x3 : Int32) (x4 : Int32) (x5 : Int32) (σ : St) (H : Heap) (locs : List Loc) (ls : Array Slot), va_P G.1 vwCl (wM G σ) H → va_D A (wM G σ) → va_S A s.heap H locs → lv_has ls 9 [(0, .ref (aD G 43)), (1, .int x1), (2, .int x2), (3, .int x3), (4, .int x4), (5, .int x5)] → f_X7_row_J241 x1 x2 x3 x4 x5 σ = some t56 → W p l e rmX7_row s m args below meth c H locs 0 0 Q (F0 m 241 ls []) := by
      intro x3 x4 x5 σ H locs ls hP hD hS hl hE
      unfold f_X7_row_J241 at hE
      refine lv_iload hx hb dX7_row_241 (lv_at hl 5 rfl) ?_
      refine lv_if_le (tgt := 248) hx hb dX7_row_243 (by decide) (fun c_ => ?_) (fun c_ => ?_)
      · have hE := ip c_ hE
        refine lv_iinc (v := (x4 + (1 : Int32))) (lv' := [(4, .int (x4 + (1 : Int32))), (0, .ref (aD G 43)), (1, .int x1), (2, .int x2), (3, .int x3), (5, .int x5)]) hx hb dX7_row_248 hl (k := 4) rfl rfl (by decide) rfl (fun ls hl => ?_)
        refine lv_goto (tgt := 56) hx hb dX7_row_251 (by decide) ?_
        exact hN56 _ (Option.some.inj hE).symm _ _ _ hP hD hS (lv_sub hl [1, 2, 3, 4, 0] rfl)
      · have hE := im c_ hE
        refine lv_iconst (v := (-1 : Int32)) hx hb dX7_row_246 (by decide) ?_
        have hE := ear_l _ (hY56 _ (Option.some.inj hE).symm) hE56
        rw [← hQ, ← Option.some.inj hE]
        exact ri hx hb hr hlocks hK hP hD hS dX7_row_247
    have J_135 : ∀ (x3 : Int32) (x4 : Int32) (x5 : Int32) (x6 : Int32) (σ : St) (H : Heap) (locs : List Loc) (ls : Array Slot), va_P G.1 vwCl (wM G σ) H → va_D A (wM G σ) → va_S A s.heap H locs → lv_has ls 9 [(0, .ref (aD G 43)), (1, .int x1), (2, .int x2), (3, .int x3), (4, .int x4), (5, .int x5), (6, .int x6)] → f_X7_row_J135 x1 x2 x3 x4 x5 x6 σ = some t56 → W p l e rmX7_row s m args below meth c H locs 0 0 Q (F0 m 135 ls []) := by
      intro x3 x4 x5 x6 σ H locs ls hP hD hS hl hE
      unfold f_X7_row_J135 at hE
      obtain ⟨y135, hL, hE135⟩ := bnd_some hE
      refine loop_W (body := f_X7_row_L135 x1 x2 x4) (y := y135) (P := fun v135 => ∀ (H : Heap) (locs : List Loc) (ls : Array Slot), va_P G.1 vwCl (wM G v135.2.2.2) H → va_D A (wM G v135.2.2.2) → va_S A s.heap H locs → lv_has ls 9 [(0, .ref (aD G 43)), (1, .int x1), (2, .int x2), (3, .int v135.1), (4, .int x4), (5, .int v135.2.1), (6, .int v135.2.2.1)] → W p l e rmX7_row s m args below meth c H locs 0 0 Q (F0 m 135 ls [])) ?_ _ _ hL H locs ls hP hD hS hl
      clear hP hD hS hl hE hL
      intro v135 t135 hE hN135 hY135
      intro H locs ls hP hD hS hl
      unfold f_X7_row_L135 at hE
      have J_209 : ∀ (x3 : Int32) (x5 : Int32) (x6 : Int32) (t0 : Int32) (σ : St) (H : Heap) (locs : List Loc) (ls : Array Slot), va_P G.1 vwCl (wM G σ) H → va_D A (wM G σ) → va_S A s.heap H locs → lv_has ls 9 [(0, .ref (aD G 43)), (1, .int x1), (2, .int x2), (3, .int x3), (4, .int x4), (5, .int x5), (6, .int x6)] → f_X7_row_J209 x1 x2 x3 x4 x5 x6 t0 σ = some t135 → W p l e rmX7_row s m args below meth c H locs 0 0 Q (F0 m 209 ls [.int t0]) := by
        intro x3 x5 x6 t0 σ H locs ls hP hD hS hl hE
        unfold f_X7_row_J209 at hE
        refine lv_istore (lv' := [(8, .int t0), (0, .ref (aD G 43)), (1, .int x1), (2, .int x2), (3, .int x3), (4, .int x4), (5, .int x5), (6, .int x6)]) hx hb dX7_row_209 hl (by decide) rfl (fun ls hl => ?_)
        refine lv_aload_n hx hb dX7_row_211 rfl (lv_at hl 1 rfl) ?_
        refine va_get (ci := 7) (v := .ref (aD G 42)) (C := RX7) (T := TX7) (N := 17) hx hb hts (fun _ h => List.mem_cons_of_mem _ (List.mem_append_right _ h)) hown hK hP 13 rfl rfl 16 (by decide) (hts (.fieldLink RX7 46 "FillCellsModel" "results" "[I") (List.mem_of_getElem? (i := 1) rfl)) (fun _ h9 => h9) rfl dX7_row_212 ?_
        refine lv_iload hx hb dX7_row_215 (lv_at hl 7 rfl) ?_
        refine lv_dup2_11 hx hb dX7_row_217 rfl rfl ?_
        obtain ⟨h_i, hE⟩ := gd_some hE
        refine ldM hx hb hK hP 12 (by decide) h_i dX7_row_218 ?_
        refine lv_iload hx hb dX7_row_219 (lv_at hl 0 rfl) ?_
        refine lv_iadd hx hb dX7_row_221 ?_
        obtain ⟨h_i, hE⟩ := gd_some hE
        refine stM hx hb hK hP hD hS 12 (by decide) h_i dX7_row_222 (fun H locs hP hD hS => ?_)
        refine lv_iload hx hb dX7_row_223 (lv_at hl 6 rfl) ?_
        refine lv_iload hx hb dX7_row_225 (lv_at hl 0 rfl) ?_
        refine lv_isub hx hb dX7_row_227 ?_
        refine lv_istore (lv' := [(5, .int (x5 - t0)), (8, .int t0), (0, .ref (aD G 43)), (1, .int x1), (2, .int x2), (3, .int x3), (4, .int x4), (6, .int x6)]) hx hb dX7_row_228 hl (by decide) rfl (fun ls hl => ?_)
        refine lv_iload_n hx hb dX7_row_230 rfl (lv_at hl 5 rfl) ?_
        refine lv_iload hx hb dX7_row_231 (lv_at hl 1 rfl) ?_
        refine lv_iadd hx hb dX7_row_233 ?_
        refine lv_istore_n (lv' := [(3, .int (x3 + t0)), (5, .int (x5 - t0)), (8, .int t0), (0, .ref (aD G 43)), (1, .int x1), (2, .int x2), (4, .int x4), (6, .int x6)]) hx hb dX7_row_234 rfl hl (by decide) rfl (fun ls hl => ?_)
        refine lv_iinc (v := (x6 + (-1 : Int32))) (lv' := [(6, .int (x6 + (-1 : Int32))), (3, .int (x3 + t0)), (5, .int (x5 - t0)), (8, .int t0), (0, .ref (aD G 43)), (1, .int x1), (2, .int x2), (4, .int x4)]) hx hb dX7_row_235 hl (k := 7) rfl rfl (by decide) rfl (fun ls hl => ?_)
        refine lv_goto (tgt := 135) hx hb dX7_row_238 (by decide) ?_
        exact hN135 _ (Option.some.inj hE).symm _ _ _ hP hD hS (lv_sub hl [4, 5, 6, 1, 7, 2, 0] rfl)
      have J_193 : ∀ (x3 : Int32) (x5 : Int32) (x6 : Int32) (t0 : Int32) (σ : St) (H : Heap) (locs : List Loc) (ls : Array Slot), va_P G.1 vwCl (wM G σ) H → va_D A (wM G σ) → va_S A s.heap H locs → lv_has ls 9 [(0, .ref (aD G 43)), (1, .int x1), (2, .int x2), (3, .int x3), (4, .int x4), (5, .int x5), (6, .int x6)] → f_X7_row_J193 x1 x2 x3 x4 x5 x6 t0 σ = some t135 → W p l e rmX7_row s m args below meth c H locs 0 0 Q (F0 m 193 ls [.int t0]) := by
        intro x3 x5 x6 t0 σ H locs ls hP hD hS hl hE
        unfold f_X7_row_J193 at hE
        refine lv_istore (lv' := [(7, .int t0), (0, .ref (aD G 43)), (1, .int x1), (2, .int x2), (3, .int x3), (4, .int x4), (5, .int x5), (6, .int x6)]) hx hb dX7_row_193 hl (by decide) rfl (fun ls hl => ?_)
        refine lv_iload hx hb dX7_row_195 (lv_at hl 0 rfl) ?_
        refine lv_iload hx hb dX7_row_197 (lv_at hl 6 rfl) ?_
        refine lv_icmp_ge (tgt := 207) hx hb dX7_row_199 (by decide) (fun c_ => ?_) (fun c_ => ?_)
        · have hE := ip c_ hE
          refine lv_iload hx hb dX7_row_207 (lv_at hl 6 rfl) ?_
          exact J_209 x3 x5 x6 x5 σ _ _ _ hP hD hS (lv_sub hl [1, 2, 3, 4, 5, 6, 7] rfl) hE
        · have hE := im c_ hE
          refine lv_iload hx hb dX7_row_202 (lv_at hl 0 rfl) ?_
          refine lv_goto (tgt := 209) hx hb dX7_row_204 (by decide) ?_
          exact J_209 x3 x5 x6 t0 σ _ _ _ hP hD hS (lv_sub hl [1, 2, 3, 4, 5, 6, 7] rfl) hE
      refine lv_iload hx hb dX7_row_135 (lv_at hl 6 rfl) ?_
      refine lv_iload hx hb dX7_row_137 (lv_at hl 4 rfl) ?_
      refine lv_icmp_lt (tgt := 241) hx hb dX7_row_139 (by decide) (fun c_ => ?_) (fun c_ => ?_)
      · have hE := ip c_ hE
        have e9 := hY135 _ (Option.some.inj hE).symm
        have hE := hE135
        rw [← e9] at hE
        exact J_241 v135.1 x4 v135.2.1 v135.2.2.2 _ _ _ hP hD hS (lv_sub hl [0, 1, 2, 3, 4, 5] rfl) hE
      · have hE := im c_ hE
        refine lv_iload hx hb dX7_row_142 (lv_at hl 5 rfl) ?_
        refine lv_if_le (tgt := 241) hx hb dX7_row_144 (by decide) (fun c_ => ?_) (fun c_ => ?_)
        · have hE := ip c_ hE
          have e9 := hY135 _ (Option.some.inj hE).symm
          have hE := hE135
          rw [← e9] at hE
          exact J_241 v135.1 x4 v135.2.1 v135.2.2.2 _ _ _ hP hD hS (lv_sub hl [0, 1, 2, 3, 4, 5] rfl) hE
        · have hE := im c_ hE
          refine lv_aload_n hx hb dX7_row_147 rfl (lv_at hl 0 rfl) ?_
          refine va_get (ci := 7) (v := .ref (aD G 30)) (C := RX7) (T := TX7) (N := 17) hx hb hts (fun _ h => List.mem_cons_of_mem _ (List.mem_append_right _ h)) hown hK hP 13 rfl rfl 0 (by decide) (hts (.fieldLink RX7 7 "FillCellsModel" "s" "[I") (List.mem_of_getElem? (i := 3) rfl)) (fun _ h9 => h9) rfl dX7_row_148 ?_
          refine lv_bipush (v := (80 : Int32)) hx hb dX7_row_151 (by decide) ?_
          refine lv_bipush (v := (10 : Int32)) hx hb dX7_row_153 (by decide) ?_
          refine lv_iload_n hx hb dX7_row_155 rfl (lv_at hl 1 rfl) ?_
          refine lv_imul hx hb dX7_row_156 ?_
          refine lv_iadd hx hb dX7_row_157 ?_
          refine lv_iload hx hb dX7_row_158 (lv_at hl 6 rfl) ?_
          refine lv_iadd hx hb dX7_row_160 ?_
          obtain ⟨h_i, hE⟩ := gd_some hE
          refine ldM hx hb hK hP 0 (by decide) h_i dX7_row_161 ?_
          refine lv_iconst (v := (1 : Int32)) hx hb dX7_row_162 (by decide) ?_
          refine lv_icmp_ne (tgt := 170) hx hb dX7_row_163 (by decide) (fun c_ => ?_) (fun c_ => ?_)
          · have hE := im c_ hE
            refine lv_bipush (v := (9 : Int32)) hx hb dX7_row_170 (by decide) ?_
            refine lv_aload_n hx hb dX7_row_172 rfl (lv_at hl 0 rfl) ?_
            refine va_get (ci := 7) (v := .ref (aD G 30)) (C := RX7) (T := TX7) (N := 17) hx hb hts (fun _ h => List.mem_cons_of_mem _ (List.mem_append_right _ h)) hown hK hP 13 rfl rfl 0 (by decide) (hts (.fieldLink RX7 7 "FillCellsModel" "s" "[I") (List.mem_of_getElem? (i := 3) rfl)) (fun _ h9 => h9) rfl dX7_row_173 ?_
            refine lv_bipush (v := (10 : Int32)) hx hb dX7_row_176 (by decide) ?_
            refine lv_iload_n hx hb dX7_row_178 rfl (lv_at hl 1 rfl) ?_
            refine lv_imul hx hb dX7_row_179 ?_
            refine lv_iload hx hb dX7_row_180 (lv_at hl 6 rfl) ?_
            refine lv_iadd hx hb dX7_row_182 ?_
            obtain ⟨h_i, hE⟩ := gd_some hE
            refine ldM hx hb hK hP 0 (by decide) h_i dX7_row_183 ?_
            refine lv_isub hx hb dX7_row_184 ?_
            refine lv_aload_n hx hb dX7_row_185 rfl (lv_at hl 0 rfl) ?_
            refine va_get (ci := 7) (v := .ref (aD G 42)) (C := RX7) (T := TX7) (N := 17) hx hb hts (fun _ h => List.mem_cons_of_mem _ (List.mem_append_right _ h)) hown hK hP 13 rfl rfl 16 (by decide) (hts (.fieldLink RX7 46 "FillCellsModel" "results" "[I") (List.mem_of_getElem? (i := 1) rfl)) (fun _ h9 => h9) rfl dX7_row_186 ?_
            refine lv_iload hx hb dX7_row_189 (lv_at hl 6 rfl) ?_
            obtain ⟨h_i, hE⟩ := gd_some hE
            refine ldM hx hb hK hP 12 (by decide) h_i dX7_row_191 ?_
            refine lv_isub hx hb dX7_row_192 ?_
            exact J_193 v135.1 v135.2.1 v135.2.2.1 (((9 : Int32) - (rd v135.2.2.2 0 (((10 : Int32) * x1) + v135.2.2.1))) - (rd v135.2.2.2 12 v135.2.2.1)) v135.2.2.2 _ _ _ hP hD hS (lv_sub hl [0, 1, 2, 3, 4, 5, 6] rfl) hE
          · have hE := ip c_ hE
            refine lv_iconst (v := (0 : Int32)) hx hb dX7_row_166 (by decide) ?_
            refine lv_goto (tgt := 193) hx hb dX7_row_167 (by decide) ?_
            exact J_193 v135.1 v135.2.1 v135.2.2.1 (0 : Int32) v135.2.2.2 _ _ _ hP hD hS (lv_sub hl [0, 1, 2, 3, 4, 5, 6] rfl) hE
    have J_122 : ∀ (x3 : Int32) (x4 : Int32) (x5 : Int32) (σ : St) (H : Heap) (locs : List Loc) (ls : Array Slot), va_P G.1 vwCl (wM G σ) H → va_D A (wM G σ) → va_S A s.heap H locs → lv_has ls 9 [(0, .ref (aD G 43)), (1, .int x1), (2, .int x2), (3, .int x3), (4, .int x4), (5, .int x5)] → f_X7_row_J122 x1 x2 x3 x4 x5 σ = some t56 → W p l e rmX7_row s m args below meth c H locs 0 0 Q (F0 m 122 ls []) := by
      intro x3 x4 x5 σ H locs ls hP hD hS hl hE
      unfold f_X7_row_J122 at hE
      refine lv_iload hx hb dX7_row_122 (lv_at hl 4 rfl) ?_
      refine lv_aload_n hx hb dX7_row_124 rfl (lv_at hl 0 rfl) ?_
      refine va_get (ci := 7) (v := .ref (aD G 33)) (C := RX7) (T := TX7) (N := 17) hx hb hts (fun _ h => List.mem_cons_of_mem _ (List.mem_append_right _ h)) hown hK hP 13 rfl rfl 4 (by decide) (hts (.fieldLink RX7 19 "FillCellsModel" "rules" "[I") (List.mem_of_getElem? (i := 2) rfl)) (fun _ h9 => h9) rfl dX7_row_125 ?_
      refine lv_iconst (v := (1 : Int32)) hx hb dX7_row_128 (by decide) ?_
      obtain ⟨h_i, hE⟩ := gd_some hE
      refine ldM hx hb hK hP 3 (by decide) h_i dX7_row_129 ?_
      refine lv_iadd hx hb dX7_row_130 ?_
      refine lv_iconst (v := (1 : Int32)) hx hb dX7_row_131 (by decide) ?_
      refine lv_isub hx hb dX7_row_132 ?_
      refine lv_istore (lv' := [(6, .int ((x4 + (rd σ 3 (1 : Int32))) - (1 : Int32))), (0, .ref (aD G 43)), (1, .int x1), (2, .int x2), (3, .int x3), (4, .int x4), (5, .int x5)]) hx hb dX7_row_133 hl (by decide) rfl (fun ls hl => ?_)
      exact J_135 x3 x4 x5 ((x4 + (rd σ 3 (1 : Int32))) - (1 : Int32)) σ _ _ _ hP hD hS (lv_sub hl [1, 2, 3, 4, 5, 6, 0] rfl) hE
    have J_77 : ∀ (x3 : Int32) (x4 : Int32) (x5 : Int32) (x6 : Int32) (σ : St) (H : Heap) (locs : List Loc) (ls : Array Slot), va_P G.1 vwCl (wM G σ) H → va_D A (wM G σ) → va_S A s.heap H locs → lv_has ls 9 [(0, .ref (aD G 43)), (1, .int x1), (2, .int x2), (3, .int x3), (4, .int x4), (5, .int x5), (6, .int x6)] → f_X7_row_J77 x1 x2 x3 x4 x5 x6 σ = some t56 → W p l e rmX7_row s m args below meth c H locs 0 0 Q (F0 m 77 ls []) := by
      intro x3 x4 x5 x6 σ H locs ls hP hD hS hl hE
      unfold f_X7_row_J77 at hE
      obtain ⟨y77, hL, hE77⟩ := bnd_some hE
      refine loop_W (body := f_X7_row_L77 x1 x2 x3 x4 σ) (y := y77) (P := fun v77 => ∀ (H : Heap) (locs : List Loc) (ls : Array Slot), va_P G.1 vwCl (wM G σ) H → va_D A (wM G σ) → va_S A s.heap H locs → lv_has ls 9 [(0, .ref (aD G 43)), (1, .int x1), (2, .int x2), (3, .int x3), (4, .int x4), (5, .int v77.1), (6, .int v77.2)] → W p l e rmX7_row s m args below meth c H locs 0 0 Q (F0 m 77 ls [])) ?_ _ _ hL H locs ls hP hD hS hl
      clear hP hD hS hl hE hL
      intro v77 t77 hE hN77 hY77
      intro H locs ls hP hD hS hl
      unfold f_X7_row_L77 at hE
      refine lv_iload hx hb dX7_row_77 (lv_at hl 6 rfl) ?_
      refine lv_iload hx hb dX7_row_79 (lv_at hl 4 rfl) ?_
      refine lv_aload_n hx hb dX7_row_81 rfl (lv_at hl 0 rfl) ?_
      refine va_get (ci := 7) (v := .ref (aD G 33)) (C := RX7) (T := TX7) (N := 17) hx hb hts (fun _ h => List.mem_cons_of_mem _ (List.mem_append_right _ h)) hown hK hP 13 rfl rfl 4 (by decide) (hts (.fieldLink RX7 19 "FillCellsModel" "rules" "[I") (List.mem_of_getElem? (i := 2) rfl)) (fun _ h9 => h9) rfl dX7_row_82 ?_
      refine lv_iconst (v := (1 : Int32)) hx hb dX7_row_85 (by decide) ?_
      obtain ⟨h_i, hE⟩ := gd_some hE
      refine ldM hx hb hK hP 3 (by decide) h_i dX7_row_86 ?_
      refine lv_iadd hx hb dX7_row_87 ?_
      refine lv_icmp_ge (tgt := 122) hx hb dX7_row_88 (by decide) (fun c_ => ?_) (fun c_ => ?_)
      · have hE := ip c_ hE
        have e9 := hY77 _ (Option.some.inj hE).symm
        have hE := hE77
        rw [← e9] at hE
        exact J_122 x3 x4 v77.1 σ _ _ _ hP hD hS (lv_sub hl [0, 1, 2, 3, 4, 5] rfl) hE
      · have hE := im c_ hE
        refine lv_iload hx hb dX7_row_91 (lv_at hl 5 rfl) ?_
        refine lv_aload_n hx hb dX7_row_93 rfl (lv_at hl 0 rfl) ?_
        refine va_get (ci := 7) (v := .ref (aD G 30)) (C := RX7) (T := TX7) (N := 17) hx hb hts (fun _ h => List.mem_cons_of_mem _ (List.mem_append_right _ h)) hown hK hP 13 rfl rfl 0 (by decide) (hts (.fieldLink RX7 7 "FillCellsModel" "s" "[I") (List.mem_of_getElem? (i := 3) rfl)) (fun _ h9 => h9) rfl dX7_row_94 ?_
        refine lv_bipush (v := (10 : Int32)) hx hb dX7_row_97 (by decide) ?_
        refine lv_iload_n hx hb dX7_row_99 rfl (lv_at hl 1 rfl) ?_
        refine lv_imul hx hb dX7_row_100 ?_
        refine lv_iload hx hb dX7_row_101 (lv_at hl 6 rfl) ?_
        refine lv_iadd hx hb dX7_row_103 ?_
        obtain ⟨h_i, hE⟩ := gd_some hE
        refine ldM hx hb hK hP 0 (by decide) h_i dX7_row_104 ?_
        refine lv_aload_n hx hb dX7_row_105 rfl (lv_at hl 0 rfl) ?_
        refine va_get (ci := 7) (v := .ref (aD G 42)) (C := RX7) (T := TX7) (N := 17) hx hb hts (fun _ h => List.mem_cons_of_mem _ (List.mem_append_right _ h)) hown hK hP 13 rfl rfl 16 (by decide) (hts (.fieldLink RX7 46 "FillCellsModel" "results" "[I") (List.mem_of_getElem? (i := 1) rfl)) (fun _ h9 => h9) rfl dX7_row_106 ?_
        refine lv_iload hx hb dX7_row_109 (lv_at hl 6 rfl) ?_
        obtain ⟨h_i, hE⟩ := gd_some hE
        refine ldM hx hb hK hP 12 (by decide) h_i dX7_row_111 ?_
        refine lv_iadd hx hb dX7_row_112 ?_
        refine lv_isub hx hb dX7_row_113 ?_
        refine lv_istore (lv' := [(5, .int (v77.1 - ((rd σ 0 (((10 : Int32) * x1) + v77.2)) + (rd σ 12 v77.2)))), (0, .ref (aD G 43)), (1, .int x1), (2, .int x2), (3, .int x3), (4, .int x4), (6, .int v77.2)]) hx hb dX7_row_114 hl (by decide) rfl (fun ls hl => ?_)
        refine lv_iinc (v := (v77.2 + (1 : Int32))) (lv' := [(6, .int (v77.2 + (1 : Int32))), (5, .int (v77.1 - ((rd σ 0 (((10 : Int32) * x1) + v77.2)) + (rd σ 12 v77.2)))), (0, .ref (aD G 43)), (1, .int x1), (2, .int x2), (3, .int x3), (4, .int x4)]) hx hb dX7_row_116 hl (k := 6) rfl rfl (by decide) rfl (fun ls hl => ?_)
        refine lv_goto (tgt := 77) hx hb dX7_row_119 (by decide) ?_
        exact hN77 _ (Option.some.inj hE).symm _ _ _ hP hD hS (lv_sub hl [2, 3, 4, 5, 6, 1, 0] rfl)
    refine lv_iload hx hb dX7_row_56 (lv_at hl 4 rfl) ?_
    refine lv_aload_n hx hb dX7_row_58 rfl (lv_at hl 0 rfl) ?_
    refine va_get (ci := 7) (v := .ref (aD G 33)) (C := RX7) (T := TX7) (N := 17) hx hb hts (fun _ h => List.mem_cons_of_mem _ (List.mem_append_right _ h)) hown hK hP 13 rfl rfl 4 (by decide) (hts (.fieldLink RX7 19 "FillCellsModel" "rules" "[I") (List.mem_of_getElem? (i := 2) rfl)) (fun _ h9 => h9) rfl dX7_row_59 ?_
    refine lv_iconst (v := (1 : Int32)) hx hb dX7_row_62 (by decide) ?_
    obtain ⟨h_i, hE⟩ := gd_some hE
    refine ldM hx hb hK hP 3 (by decide) h_i dX7_row_63 ?_
    refine lv_iadd hx hb dX7_row_64 ?_
    refine lv_bipush (v := (10 : Int32)) hx hb dX7_row_65 (by decide) ?_
    refine lv_icmp_gt (tgt := 254) hx hb dX7_row_67 (by decide) (fun c_ => ?_) (fun c_ => ?_)
    · have hE := ip c_ hE
      have e9 := hY56 _ (Option.some.inj hE).symm
      have hE := ear_r _ e9 hE56
      refine lv_iload_n hx hb dX7_row_254 rfl (lv_at hl 3 rfl) ?_
      rw [← hQ, ← Option.some.inj hE]
      exact ri hx hb hr hlocks hK hP hD hS dX7_row_255
    · have hE := im c_ hE
      refine lv_iload_n hx hb dX7_row_70 rfl (lv_at hl 2 rfl) ?_
      refine lv_istore (lv' := [(5, .int x2), (0, .ref (aD G 43)), (1, .int x1), (2, .int x2), (3, .int v56.1), (4, .int v56.2.1)]) hx hb dX7_row_71 hl (by decide) rfl (fun ls hl => ?_)
      refine lv_iload hx hb dX7_row_73 (lv_at hl 5 rfl) ?_
      refine lv_istore (lv' := [(6, .int v56.2.1), (5, .int x2), (0, .ref (aD G 43)), (1, .int x1), (2, .int x2), (3, .int v56.1), (4, .int v56.2.1)]) hx hb dX7_row_75 hl (by decide) rfl (fun ls hl => ?_)
      exact J_77 v56.1 v56.2.1 x2 v56.2.1 v56.2.2 _ _ _ hP hD hS (lv_sub hl [2, 3, 4, 5, 6, 1, 0] rfl) hE
  have J_53 : ∀ (x3 : Int32) (σ : St) (H : Heap) (locs : List Loc) (ls : Array Slot), va_P G.1 vwCl (wM G σ) H → va_D A (wM G σ) → va_S A s.heap H locs → lv_has ls 9 [(0, .ref (aD G 43)), (1, .int x1), (2, .int x2), (3, .int x3)] → f_X7_row_J53 x1 x2 x3 σ = some r → W p l e rmX7_row s m args below meth c H locs 0 0 Q (F0 m 53 ls []) := by
    intro x3 σ H locs ls hP hD hS hl hE
    unfold f_X7_row_J53 at hE
    refine lv_iconst (v := (0 : Int32)) hx hb dX7_row_53 (by decide) ?_
    refine lv_istore (lv' := [(4, .int (0 : Int32)), (0, .ref (aD G 43)), (1, .int x1), (2, .int x2), (3, .int x3)]) hx hb dX7_row_54 hl (by decide) rfl (fun ls hl => ?_)
    exact J_56 x3 (0 : Int32) σ _ _ _ hP hD hS (lv_sub hl [1, 2, 3, 4, 0] rfl) hE
  have J_32 : ∀ (x3 : Int32) (x4 : Int32) (σ : St) (H : Heap) (locs : List Loc) (ls : Array Slot), va_P G.1 vwCl (wM G σ) H → va_D A (wM G σ) → va_S A s.heap H locs → lv_has ls 9 [(0, .ref (aD G 43)), (1, .int x1), (2, .int x2), (3, .int x3), (4, .int x4)] → f_X7_row_J32 x1 x2 x3 x4 σ = some r → W p l e rmX7_row s m args below meth c H locs 0 0 Q (F0 m 32 ls []) := by
    intro x3 x4 σ H locs ls hP hD hS hl hE
    unfold f_X7_row_J32 at hE
    obtain ⟨y32, hL, hE32⟩ := bnd_some hE
    refine loop_W (body := f_X7_row_L32 x1 x2 x3) (y := y32) (P := fun v32 => ∀ (H : Heap) (locs : List Loc) (ls : Array Slot), va_P G.1 vwCl (wM G v32.2) H → va_D A (wM G v32.2) → va_S A s.heap H locs → lv_has ls 9 [(0, .ref (aD G 43)), (1, .int x1), (2, .int x2), (3, .int x3), (4, .int v32.1)] → W p l e rmX7_row s m args below meth c H locs 0 0 Q (F0 m 32 ls [])) ?_ _ _ hL H locs ls hP hD hS hl
    clear hP hD hS hl hE hL
    intro v32 t32 hE hN32 hY32
    intro H locs ls hP hD hS hl
    unfold f_X7_row_L32 at hE
    refine lv_iload hx hb dX7_row_32 (lv_at hl 4 rfl) ?_
    refine lv_bipush (v := (10 : Int32)) hx hb dX7_row_34 (by decide) ?_
    refine lv_icmp_ge (tgt := 53) hx hb dX7_row_36 (by decide) (fun c_ => ?_) (fun c_ => ?_)
    · have hE := ip c_ hE
      have e9 := hY32 _ (Option.some.inj hE).symm
      have hE := hE32
      rw [← e9] at hE
      exact J_53 x3 v32.2 _ _ _ hP hD hS (lv_sub hl [0, 1, 2, 3] rfl) hE
    · have hE := im c_ hE
      refine lv_aload_n hx hb dX7_row_39 rfl (lv_at hl 0 rfl) ?_
      refine va_get (ci := 7) (v := .ref (aD G 42)) (C := RX7) (T := TX7) (N := 17) hx hb hts (fun _ h => List.mem_cons_of_mem _ (List.mem_append_right _ h)) hown hK hP 13 rfl rfl 16 (by decide) (hts (.fieldLink RX7 46 "FillCellsModel" "results" "[I") (List.mem_of_getElem? (i := 1) rfl)) (fun _ h9 => h9) rfl dX7_row_40 ?_
      refine lv_iload hx hb dX7_row_43 (lv_at hl 4 rfl) ?_
      refine lv_iconst (v := (0 : Int32)) hx hb dX7_row_45 (by decide) ?_
      obtain ⟨h_i, hE⟩ := gd_some hE
      refine stM hx hb hK hP hD hS 12 (by decide) h_i dX7_row_46 (fun H locs hP hD hS => ?_)
      refine lv_iinc (v := (v32.1 + (1 : Int32))) (lv' := [(4, .int (v32.1 + (1 : Int32))), (0, .ref (aD G 43)), (1, .int x1), (2, .int x2), (3, .int x3)]) hx hb dX7_row_47 hl (k := 4) rfl rfl (by decide) rfl (fun ls hl => ?_)
      refine lv_goto (tgt := 32) hx hb dX7_row_50 (by decide) ?_
      exact hN32 _ (Option.some.inj hE).symm _ _ _ hP hD hS (lv_sub hl [1, 2, 3, 4, 0] rfl)
  refine lv_iload_n hx hb dX7_row_0 rfl (lv_at hl 1 rfl) ?_
  refine lv_iconst (v := (0 : Int32)) hx hb dX7_row_1 (by decide) ?_
  refine lv_bipush (v := (7 : Int32)) hx hb dX7_row_2 (by decide) ?_
  obtain ⟨r1, hC, hE⟩ := bnd_some hE
  refine ci (va_runS (As := [.int x1, .int (0 : Int32), .int (7 : Int32)]) (rest := []) ⟨hx, hb, hml, hown, hts⟩ (c_X7_in l G x1 (0 : Int32) (7 : Int32) σ r1 hC _) (va_cwS 3 hts gX7_row_X7_in rfl rfl rfl (by decide +kernel) ⟨Nat.le_of_ble_eq_true rfl, Nat.le_of_ble_eq_true rfl⟩) (preS hK hP hD hS hA hX) rfl rfl hl.1 rfl (lv_room (Nat.le_of_ble_eq_true rfl)) dX7_row_4 ⟨Nat.le_of_ble_eq_true rfl, Nat.le_of_ble_eq_true rfl⟩) hD hS hA (fun H locs hP hD hS => ?_)
  refine lv_if_eq (tgt := 20) hx hb dX7_row_7 (by decide) (fun c_ => ?_) (fun c_ => ?_)
  · have hE := ip c_ hE
    exact J_20 σ _ _ _ hP hD hS (lv_sub hl [0] rfl) hE
  · have hE := im c_ hE
    refine lv_iload_n hx hb dX7_row_10 rfl (lv_at hl 2 rfl) ?_
    refine lv_iconst (v := (0 : Int32)) hx hb dX7_row_11 (by decide) ?_
    refine lv_bipush (v := (90 : Int32)) hx hb dX7_row_12 (by decide) ?_
    obtain ⟨r3, hC, hE⟩ := bnd_some hE
    refine ci (va_runS (As := [.int x2, .int (0 : Int32), .int (90 : Int32)]) (rest := []) ⟨hx, hb, hml, hown, hts⟩ (c_X7_in l G x2 (0 : Int32) (90 : Int32) σ r3 hC _) (va_cwS 3 hts gX7_row_X7_in rfl rfl rfl (by decide +kernel) ⟨Nat.le_of_ble_eq_true rfl, Nat.le_of_ble_eq_true rfl⟩) (preS hK hP hD hS hA hX) rfl rfl hl.1 rfl (lv_room (Nat.le_of_ble_eq_true rfl)) dX7_row_14 ⟨Nat.le_of_ble_eq_true rfl, Nat.le_of_ble_eq_true rfl⟩) hD hS hA (fun H locs hP hD hS => ?_)
    refine lv_if_ne (tgt := 27) hx hb dX7_row_17 (by decide) (fun c_ => ?_) (fun c_ => ?_)
    · have hE := im c_ hE
      refine lv_iconst (v := (0 : Int32)) hx hb dX7_row_27 (by decide) ?_
      refine lv_istore_n (lv' := [(3, .int (0 : Int32)), (0, .ref (aD G 43)), (1, .int x1), (2, .int x2)]) hx hb dX7_row_28 rfl hl (by decide) rfl (fun ls hl => ?_)
      refine lv_iconst (v := (0 : Int32)) hx hb dX7_row_29 (by decide) ?_
      refine lv_istore (lv' := [(4, .int (0 : Int32)), (3, .int (0 : Int32)), (0, .ref (aD G 43)), (1, .int x1), (2, .int x2)]) hx hb dX7_row_30 hl (by decide) rfl (fun ls hl => ?_)
      exact J_32 (0 : Int32) (0 : Int32) σ _ _ _ hP hD hS (lv_sub hl [2, 3, 4, 1, 0] rfl) hE
    · have hE := ip c_ hE
      exact J_20 σ _ _ _ hP hD hS (lv_sub hl [0] rfl) hE
abbrev rmX7_undo : Room := { frames := 1, cells := 0, slots := 0, locals := 21 }
def f_X7_undo_J60 (σ : St) : Option (Int32 × St) := some ((gI σ 0), σ)
def f_X7_undo_L26  (v26 : Int32 × St) : Option (((St)) ⊕ (Int32 × St)) := if (400 : Int32) ≤ v26.1 then (some (.inl (v26.2))) else (gd (((400 : Int32) * (gI v26.2 0)) + v26.1) 3200 (gd v26.1 400 (some (.inr ((v26.1 + (1 : Int32)), (sA v26.2 0 v26.1 (rd v26.2 1 (((400 : Int32) * (gI v26.2 0)) + v26.1))))))))
def f_X7_undo_J26 (x1 : Int32) (σ : St) : Option (Int32 × St) := bnd (loopN (f_X7_undo_L26 ) 4096 (x1, σ)) (fun y26 => f_X7_undo_J60 y26)
def f_X7_undo (σ : St) : Option (Int32 × St) := if (gI σ 0) = 0 then (bnd (f_X7_refuses (-3 : Int32) σ) (fun r1 => some (r1.1, r1.2))) else (f_X7_undo_J26 (0 : Int32) (sI σ 0 ((gI σ 0) - (1 : Int32))))
set_option maxHeartbeats 4000000 in
set_option maxRecDepth 100000 in
theorem c_X7_undo (l : Launch) (G : EV)   (σ : St) (r : (Int32 × St)) (hE : f_X7_undo σ = some r) : MetI l G yX7_undo wsX7_undo rmX7_undo [.ref (aD G 43)] (wM G σ) r.1 (wM G r.2) := by
  refine Met.of0 (Qf := PI G r.1 (wM G r.2)) (cc := cX7_undo) (maxL := 2) (ret := (some .int)) (by decide) rfl (Nat.le_of_ble_eq_true rfl) ?_
  intro p e s m below meth c args A hx hb hr hts hown hlocks hml hin0 hA hS hP hK hD hX ls hl
  have hl : lv_has ls 2 [(0, .ref (aD G 43))] := hl
  generalize hQ : MQ below (PI G r.1 (wM G r.2) A) args s 0 0 A = Q
  unfold f_X7_undo at hE
  have J_60 : ∀ (σ : St) (H : Heap) (locs : List Loc) (ls : Array Slot), va_P G.1 vwCl (wM G σ) H → va_D A (wM G σ) → va_S A s.heap H locs → lv_has ls 2 [(0, .ref (aD G 43))] → f_X7_undo_J60 σ = some r → W p l e rmX7_undo s m args below meth c H locs 0 0 Q (F0 m 60 ls []) := by
    intro σ H locs ls hP hD hS hl hE
    unfold f_X7_undo_J60 at hE
    refine lv_aload_n hx hb dX7_undo_60 rfl (lv_at hl 0 rfl) ?_
    refine va_get (ci := 7) (v := .int (gI σ 0)) (C := RX7) (T := TX7) (N := 17) hx hb hts (fun _ h => List.mem_cons_of_mem _ (List.mem_append_right _ h)) hown hK hP 13 rfl rfl 2 (by decide) (hts (.fieldLink RX7 53 "FillCellsModel" "known" "I") (List.mem_of_getElem? (i := 1) rfl)) (fun _ h9 => h9) rfl dX7_undo_61 ?_
    rw [← hQ, ← Option.some.inj hE]
    exact ri hx hb hr hlocks hK hP hD hS dX7_undo_64
  have J_26 : ∀ (x1 : Int32) (σ : St) (H : Heap) (locs : List Loc) (ls : Array Slot), va_P G.1 vwCl (wM G σ) H → va_D A (wM G σ) → va_S A s.heap H locs → lv_has ls 2 [(0, .ref (aD G 43)), (1, .int x1)] → f_X7_undo_J26 x1 σ = some r → W p l e rmX7_undo s m args below meth c H locs 0 0 Q (F0 m 26 ls []) := by
    intro x1 σ H locs ls hP hD hS hl hE
    unfold f_X7_undo_J26 at hE
    obtain ⟨y26, hL, hE26⟩ := bnd_some hE
    refine loop_W (body := f_X7_undo_L26 ) (y := y26) (P := fun v26 => ∀ (H : Heap) (locs : List Loc) (ls : Array Slot), va_P G.1 vwCl (wM G v26.2) H → va_D A (wM G v26.2) → va_S A s.heap H locs → lv_has ls 2 [(0, .ref (aD G 43)), (1, .int v26.1)] → W p l e rmX7_undo s m args below meth c H locs 0 0 Q (F0 m 26 ls [])) ?_ _ _ hL H locs ls hP hD hS hl
    clear hP hD hS hl hE hL
    intro v26 t26 hE hN26 hY26
    intro H locs ls hP hD hS hl
    unfold f_X7_undo_L26 at hE
    refine lv_iload_n hx hb dX7_undo_26 rfl (lv_at hl 1 rfl) ?_
    refine lv_sipush (v := (400 : Int32)) hx hb dX7_undo_27 (by decide) ?_
    refine lv_icmp_ge (tgt := 60) hx hb dX7_undo_30 (by decide) (fun c_ => ?_) (fun c_ => ?_)
    · have hE := ip c_ hE
      have e9 := hY26 _ (Option.some.inj hE).symm
      have hE := hE26
      rw [← e9] at hE
      exact J_60 v26.2 _ _ _ hP hD hS (lv_sub hl [0] rfl) hE
    · have hE := im c_ hE
      refine lv_aload_n hx hb dX7_undo_33 rfl (lv_at hl 0 rfl) ?_
      refine va_get (ci := 7) (v := .ref (aD G 30)) (C := RX7) (T := TX7) (N := 17) hx hb hts (fun _ h => List.mem_cons_of_mem _ (List.mem_append_right _ h)) hown hK hP 13 rfl rfl 0 (by decide) (hts (.fieldLink RX7 7 "FillCellsModel" "s" "[I") (List.mem_of_getElem? (i := 2) rfl)) (fun _ h9 => h9) rfl dX7_undo_34 ?_
      refine lv_iload_n hx hb dX7_undo_37 rfl (lv_at hl 1 rfl) ?_
      refine lv_aload_n hx hb dX7_undo_38 rfl (lv_at hl 0 rfl) ?_
      refine va_get (ci := 7) (v := .ref (aD G 31)) (C := RX7) (T := TX7) (N := 17) hx hb hts (fun _ h => List.mem_cons_of_mem _ (List.mem_append_right _ h)) hown hK hP 13 rfl rfl 1 (by decide) (hts (.fieldLink RX7 13 "FillCellsModel" "past" "[I") (List.mem_of_getElem? (i := 3) rfl)) (fun _ h9 => h9) rfl dX7_undo_39 ?_
      refine lv_sipush (v := (400 : Int32)) hx hb dX7_undo_42 (by decide) ?_
      refine lv_aload_n hx hb dX7_undo_45 rfl (lv_at hl 0 rfl) ?_
      refine va_get (ci := 7) (v := .int (gI v26.2 0)) (C := RX7) (T := TX7) (N := 17) hx hb hts (fun _ h => List.mem_cons_of_mem _ (List.mem_append_right _ h)) hown hK hP 13 rfl rfl 2 (by decide) (hts (.fieldLink RX7 53 "FillCellsModel" "known" "I") (List.mem_of_getElem? (i := 1) rfl)) (fun _ h9 => h9) rfl dX7_undo_46 ?_
      refine lv_imul hx hb dX7_undo_49 ?_
      refine lv_iload_n hx hb dX7_undo_50 rfl (lv_at hl 1 rfl) ?_
      refine lv_iadd hx hb dX7_undo_51 ?_
      obtain ⟨h_i, hE⟩ := gd_some hE
      refine ldM hx hb hK hP 1 (by decide) h_i dX7_undo_52 ?_
      obtain ⟨h_i, hE⟩ := gd_some hE
      refine stM hx hb hK hP hD hS 0 (by decide) h_i dX7_undo_53 (fun H locs hP hD hS => ?_)
      refine lv_iinc (v := (v26.1 + (1 : Int32))) (lv' := [(1, .int (v26.1 + (1 : Int32))), (0, .ref (aD G 43))]) hx hb dX7_undo_54 hl (k := 1) rfl rfl (by decide) rfl (fun ls hl => ?_)
      refine lv_goto (tgt := 26) hx hb dX7_undo_57 (by decide) ?_
      exact hN26 _ (Option.some.inj hE).symm _ _ _ hP hD hS (lv_sub hl [1, 0] rfl)
  refine lv_aload_n hx hb dX7_undo_0 rfl (lv_at hl 0 rfl) ?_
  refine va_get (ci := 7) (v := .int (gI σ 0)) (C := RX7) (T := TX7) (N := 17) hx hb hts (fun _ h => List.mem_cons_of_mem _ (List.mem_append_right _ h)) hown hK hP 13 rfl rfl 2 (by decide) (hts (.fieldLink RX7 53 "FillCellsModel" "known" "I") (List.mem_of_getElem? (i := 1) rfl)) (fun _ h9 => h9) rfl dX7_undo_1 ?_
  refine lv_if_ne (tgt := 14) hx hb dX7_undo_4 (by decide) (fun c_ => ?_) (fun c_ => ?_)
  · have hE := im c_ hE
    refine lv_aload_n hx hb dX7_undo_14 rfl (lv_at hl 0 rfl) ?_
    refine lv_dup hx hb dX7_undo_15 rfl ?_
    refine va_get (ci := 7) (v := .int (gI σ 0)) (C := RX7) (T := TX7) (N := 17) hx hb hts (fun _ h => List.mem_cons_of_mem _ (List.mem_append_right _ h)) hown hK hP 13 rfl rfl 2 (by decide) (hts (.fieldLink RX7 53 "FillCellsModel" "known" "I") (List.mem_of_getElem? (i := 1) rfl)) (fun _ h9 => h9) rfl dX7_undo_16 ?_
    refine lv_iconst (v := (1 : Int32)) hx hb dX7_undo_19 (by decide) ?_
    refine lv_isub hx hb dX7_undo_20 ?_
    refine va_put (ci := 7) (v := .int ((gI σ 0) - (1 : Int32))) (ty := .int) (C := RX7) (T := TX7) (N := 17) hx hb hts (fun _ h => List.mem_cons_of_mem _ (List.mem_append_right _ h)) tyX7 tyX7_ok nmX7 hown hK hP hD hS 13 rfl rfl 2 (by decide) (hts (.fieldLink RX7 53 "FillCellsModel" "known" "I") (List.mem_of_getElem? (i := 1) rfl)) (fun _ h9 => h9) rfl (by decide +kernel) rfl rfl (Nat.le_of_ble_eq_true rfl) dX7_undo_21 (fun H locs hP hD hS => ?_)
    have hP : va_P G.1 vwCl (wM G (sI σ 0 ((gI σ 0) - (1 : Int32)))) H := hP
    have hD : va_D A (wM G (sI σ 0 ((gI σ 0) - (1 : Int32)))) := hD
    refine lv_iconst (v := (0 : Int32)) hx hb dX7_undo_24 (by decide) ?_
    refine lv_istore_n (lv' := [(1, .int (0 : Int32)), (0, .ref (aD G 43))]) hx hb dX7_undo_25 rfl hl (by decide) rfl (fun ls hl => ?_)
    exact J_26 (0 : Int32) (sI σ 0 ((gI σ 0) - (1 : Int32))) _ _ _ hP hD hS (lv_sub hl [1, 0] rfl) hE
  · have hE := ip c_ hE
    refine lv_aload_n hx hb dX7_undo_7 rfl (lv_at hl 0 rfl) ?_
    refine lv_bipush (v := (-3 : Int32)) hx hb dX7_undo_8 (by decide) ?_
    obtain ⟨r1, hC, hE⟩ := bnd_some hE
    refine ci (va_runV (As := [.int (-3 : Int32)]) (rest := []) ⟨hx, hb, hml, hown, hts⟩ (c_X7_refuses l G (-3 : Int32) σ r1 hC _) (cwV 1 hts gX7_undo_X7_refuses rfl rfl rfl (by decide +kernel) ⟨Nat.le_of_ble_eq_true rfl, Nat.le_of_ble_eq_true rfl⟩) (preV hK hP hD hS hA hX (va_recv hK hP (ci := 7) (q0 := 13) rfl rfl)) rfl rfl hl.1 rfl (lv_room (Nat.le_of_ble_eq_true rfl)) dX7_undo_10 ⟨Nat.le_of_ble_eq_true rfl, Nat.le_of_ble_eq_true rfl⟩) hD hS hA (fun H locs hP hD hS => ?_)
    rw [← hQ, ← Option.some.inj hE]
    exact ri hx hb hr hlocks hK hP hD hS dX7_undo_13
abbrev rmX7_type : Room := { frames := 1, cells := 0, slots := 0, locals := 22 }

def f_X7_type (x1 : Int32) (σ : St) : Option (Int32 × St) := bnd (f_X7_in x1 (0 : Int32) (127 : Int32)) (fun r1 => if r1 = 0 then (bnd (f_X7_refuses (-2 : Int32) σ) (fun r3 => some (r3.1, r3.2))) else (if (gI σ 1) = (120 : Int32) then (bnd (f_X7_refuses (-4 : Int32) σ) (fun r2 => some (r2.1, r2.2))) else (gd (gI σ 1) 120 (some ((gI (sI (sA σ 5 (gI σ 1) x1) 1 ((gI (sA σ 5 (gI σ 1) x1) 1) + (1 : Int32))) 1), (sI (sA σ 5 (gI σ 1) x1) 1 ((gI (sA σ 5 (gI σ 1) x1) 1) + (1 : Int32))))))))
set_option maxHeartbeats 4000000 in
set_option maxRecDepth 100000 in
theorem c_X7_type (l : Launch) (G : EV)  (x1 : Int32) (σ : St) (r : (Int32 × St)) (hE : f_X7_type x1 σ = some r) : MetI l G yX7_type wsX7_type rmX7_type [.ref (aD G 43), .int x1] (wM G σ) r.1 (wM G r.2) := by
  refine Met.of0 (Qf := PI G r.1 (wM G r.2)) (cc := cX7_type) (maxL := 2) (ret := (some .int)) (by decide) rfl (Nat.le_of_ble_eq_true rfl) ?_
  intro p e s m below meth c args A hx hb hr hts hown hlocks hml hin0 hA hS hP hK hD hX ls hl
  have hl : lv_has ls 2 [(0, .ref (aD G 43)), (1, .int x1)] := hl
  generalize hQ : MQ below (PI G r.1 (wM G r.2) A) args s 0 0 A = Q
  unfold f_X7_type at hE
  refine lv_iload_n hx hb dX7_type_0 rfl (lv_at hl 1 rfl) ?_
  refine lv_iconst (v := (0 : Int32)) hx hb dX7_type_1 (by decide) ?_
  refine lv_bipush (v := (127 : Int32)) hx hb dX7_type_2 (by decide) ?_
  obtain ⟨r1, hC, hE⟩ := bnd_some hE
  refine ci (va_runS (As := [.int x1, .int (0 : Int32), .int (127 : Int32)]) (rest := []) ⟨hx, hb, hml, hown, hts⟩ (c_X7_in l G x1 (0 : Int32) (127 : Int32) σ r1 hC _) (va_cwS 3 hts gX7_type_X7_in rfl rfl rfl (by decide +kernel) ⟨Nat.le_of_ble_eq_true rfl, Nat.le_of_ble_eq_true rfl⟩) (preS hK hP hD hS hA hX) rfl rfl hl.1 rfl (lv_room (Nat.le_of_ble_eq_true rfl)) dX7_type_4 ⟨Nat.le_of_ble_eq_true rfl, Nat.le_of_ble_eq_true rfl⟩) hD hS hA (fun H locs hP hD hS => ?_)
  refine lv_if_ne (tgt := 17) hx hb dX7_type_7 (by decide) (fun c_ => ?_) (fun c_ => ?_)
  · have hE := im c_ hE
    refine lv_aload_n hx hb dX7_type_17 rfl (lv_at hl 0 rfl) ?_
    refine va_get (ci := 7) (v := .int (gI σ 1)) (C := RX7) (T := TX7) (N := 17) hx hb hts (fun _ h => List.mem_cons_of_mem _ (List.mem_append_right _ h)) hown hK hP 13 rfl rfl 7 (by decide) (hts (.fieldLink RX7 167 "FillCellsModel" "typed" "I") (List.mem_of_getElem? (i := 1) rfl)) (fun _ h9 => h9) rfl dX7_type_18 ?_
    refine lv_bipush (v := (120 : Int32)) hx hb dX7_type_21 (by decide) ?_
    refine lv_icmp_ne (tgt := 33) hx hb dX7_type_23 (by decide) (fun c_ => ?_) (fun c_ => ?_)
    · have hE := im c_ hE
      refine lv_aload_n hx hb dX7_type_33 rfl (lv_at hl 0 rfl) ?_
      refine va_get (ci := 7) (v := .ref (aD G 35)) (C := RX7) (T := TX7) (N := 17) hx hb hts (fun _ h => List.mem_cons_of_mem _ (List.mem_append_right _ h)) hown hK hP 13 rfl rfl 6 (by decide) (hts (.fieldLink RX7 25 "FillCellsModel" "text" "[I") (List.mem_of_getElem? (i := 2) rfl)) (fun _ h9 => h9) rfl dX7_type_34 ?_
      refine lv_aload_n hx hb dX7_type_37 rfl (lv_at hl 0 rfl) ?_
      refine va_get (ci := 7) (v := .int (gI σ 1)) (C := RX7) (T := TX7) (N := 17) hx hb hts (fun _ h => List.mem_cons_of_mem _ (List.mem_append_right _ h)) hown hK hP 13 rfl rfl 7 (by decide) (hts (.fieldLink RX7 167 "FillCellsModel" "typed" "I") (List.mem_of_getElem? (i := 1) rfl)) (fun _ h9 => h9) rfl dX7_type_38 ?_
      refine lv_iload_n hx hb dX7_type_41 rfl (lv_at hl 1 rfl) ?_
      obtain ⟨h_i, hE⟩ := gd_some hE
      refine stM hx hb hK hP hD hS 5 (by decide) h_i dX7_type_42 (fun H locs hP hD hS => ?_)
      refine lv_aload_n hx hb dX7_type_43 rfl (lv_at hl 0 rfl) ?_
      refine lv_dup hx hb dX7_type_44 rfl ?_
      refine va_get (ci := 7) (v := .int (gI (sA σ 5 (gI σ 1) x1) 1)) (C := RX7) (T := TX7) (N := 17) hx hb hts (fun _ h => List.mem_cons_of_mem _ (List.mem_append_right _ h)) hown hK hP 13 rfl rfl 7 (by decide) (hts (.fieldLink RX7 167 "FillCellsModel" "typed" "I") (List.mem_of_getElem? (i := 1) rfl)) (fun _ h9 => h9) rfl dX7_type_45 ?_
      refine lv_iconst (v := (1 : Int32)) hx hb dX7_type_48 (by decide) ?_
      refine lv_iadd hx hb dX7_type_49 ?_
      refine va_put (ci := 7) (v := .int ((gI (sA σ 5 (gI σ 1) x1) 1) + (1 : Int32))) (ty := .int) (C := RX7) (T := TX7) (N := 17) hx hb hts (fun _ h => List.mem_cons_of_mem _ (List.mem_append_right _ h)) tyX7 tyX7_ok nmX7 hown hK hP hD hS 13 rfl rfl 7 (by decide) (hts (.fieldLink RX7 167 "FillCellsModel" "typed" "I") (List.mem_of_getElem? (i := 1) rfl)) (fun _ h9 => h9) rfl (by decide +kernel) rfl rfl (Nat.le_of_ble_eq_true rfl) dX7_type_50 (fun H locs hP hD hS => ?_)
      have hP : va_P G.1 vwCl (wM G (sI (sA σ 5 (gI σ 1) x1) 1 ((gI (sA σ 5 (gI σ 1) x1) 1) + (1 : Int32)))) H := hP
      have hD : va_D A (wM G (sI (sA σ 5 (gI σ 1) x1) 1 ((gI (sA σ 5 (gI σ 1) x1) 1) + (1 : Int32)))) := hD
      refine lv_aload_n hx hb dX7_type_53 rfl (lv_at hl 0 rfl) ?_
      refine va_get (ci := 7) (v := .int (gI (sI (sA σ 5 (gI σ 1) x1) 1 ((gI (sA σ 5 (gI σ 1) x1) 1) + (1 : Int32))) 1)) (C := RX7) (T := TX7) (N := 17) hx hb hts (fun _ h => List.mem_cons_of_mem _ (List.mem_append_right _ h)) hown hK hP 13 rfl rfl 7 (by decide) (hts (.fieldLink RX7 167 "FillCellsModel" "typed" "I") (List.mem_of_getElem? (i := 1) rfl)) (fun _ h9 => h9) rfl dX7_type_54 ?_
      rw [← hQ, ← Option.some.inj hE]
      exact ri hx hb hr hlocks hK hP hD hS dX7_type_57
    · have hE := ip c_ hE
      refine lv_aload_n hx hb dX7_type_26 rfl (lv_at hl 0 rfl) ?_
      refine lv_bipush (v := (-4 : Int32)) hx hb dX7_type_27 (by decide) ?_
      obtain ⟨r2, hC, hE⟩ := bnd_some hE
      refine ci (va_runV (As := [.int (-4 : Int32)]) (rest := []) ⟨hx, hb, hml, hown, hts⟩ (c_X7_refuses l G (-4 : Int32) σ r2 hC _) (cwV 1 hts gX7_type_X7_refuses rfl rfl rfl (by decide +kernel) ⟨Nat.le_of_ble_eq_true rfl, Nat.le_of_ble_eq_true rfl⟩) (preV hK hP hD hS hA hX (va_recv hK hP (ci := 7) (q0 := 13) rfl rfl)) rfl rfl hl.1 rfl (lv_room (Nat.le_of_ble_eq_true rfl)) dX7_type_29 ⟨Nat.le_of_ble_eq_true rfl, Nat.le_of_ble_eq_true rfl⟩) hD hS hA (fun H locs hP hD hS => ?_)
      rw [← hQ, ← Option.some.inj hE]
      exact ri hx hb hr hlocks hK hP hD hS dX7_type_32
  · have hE := ip c_ hE
    refine lv_aload_n hx hb dX7_type_10 rfl (lv_at hl 0 rfl) ?_
    refine lv_bipush (v := (-2 : Int32)) hx hb dX7_type_11 (by decide) ?_
    obtain ⟨r3, hC, hE⟩ := bnd_some hE
    refine ci (va_runV (As := [.int (-2 : Int32)]) (rest := []) ⟨hx, hb, hml, hown, hts⟩ (c_X7_refuses l G (-2 : Int32) σ r3 hC _) (cwV 1 hts gX7_type_X7_refuses rfl rfl rfl (by decide +kernel) ⟨Nat.le_of_ble_eq_true rfl, Nat.le_of_ble_eq_true rfl⟩) (preV hK hP hD hS hA hX (va_recv hK hP (ci := 7) (q0 := 13) rfl rfl)) rfl rfl hl.1 rfl (lv_room (Nat.le_of_ble_eq_true rfl)) dX7_type_13 ⟨Nat.le_of_ble_eq_true rfl, Nat.le_of_ble_eq_true rfl⟩) hD hS hA (fun H locs hP hD hS => ?_)
    rw [← hQ, ← Option.some.inj hE]
    exact ri hx hb hr hlocks hK hP hD hS dX7_type_16
abbrev rmX7_clear : Room := { frames := 0, cells := 0, slots := 0, locals := 0 }

def f_X7_clear (σ : St) : Option (Int32 × St) := some ((gI σ 1), (sI σ 1 (0 : Int32)))
set_option maxHeartbeats 4000000 in
set_option maxRecDepth 100000 in
theorem c_X7_clear (l : Launch) (G : EV)   (σ : St) (r : (Int32 × St)) (hE : f_X7_clear σ = some r) : MetI l G yX7_clear wsX7_clear rmX7_clear [.ref (aD G 43)] (wM G σ) r.1 (wM G r.2) := by
  refine Met.of0 (Qf := PI G r.1 (wM G r.2)) (cc := cX7_clear) (maxL := 2) (ret := (some .int)) (by decide) rfl (Nat.le_of_ble_eq_true rfl) ?_
  intro p e s m below meth c args A hx hb hr hts hown hlocks hml hin0 hA hS hP hK hD hX ls hl
  have hl : lv_has ls 2 [(0, .ref (aD G 43))] := hl
  generalize hQ : MQ below (PI G r.1 (wM G r.2) A) args s 0 0 A = Q
  unfold f_X7_clear at hE
  refine lv_aload_n hx hb dX7_clear_0 rfl (lv_at hl 0 rfl) ?_
  refine va_get (ci := 7) (v := .int (gI σ 1)) (C := RX7) (T := TX7) (N := 17) hx hb hts (fun _ h => List.mem_cons_of_mem _ (List.mem_append_right _ h)) hown hK hP 13 rfl rfl 7 (by decide) (hts (.fieldLink RX7 167 "FillCellsModel" "typed" "I") (List.mem_of_getElem? (i := 1) rfl)) (fun _ h9 => h9) rfl dX7_clear_1 ?_
  refine lv_istore_n (lv' := [(1, .int (gI σ 1)), (0, .ref (aD G 43))]) hx hb dX7_clear_4 rfl hl (by decide) rfl (fun ls hl => ?_)
  refine lv_aload_n hx hb dX7_clear_5 rfl (lv_at hl 1 rfl) ?_
  refine lv_iconst (v := (0 : Int32)) hx hb dX7_clear_6 (by decide) ?_
  refine va_put (ci := 7) (v := .int (0 : Int32)) (ty := .int) (C := RX7) (T := TX7) (N := 17) hx hb hts (fun _ h => List.mem_cons_of_mem _ (List.mem_append_right _ h)) tyX7 tyX7_ok nmX7 hown hK hP hD hS 13 rfl rfl 7 (by decide) (hts (.fieldLink RX7 167 "FillCellsModel" "typed" "I") (List.mem_of_getElem? (i := 1) rfl)) (fun _ h9 => h9) rfl (by decide +kernel) rfl rfl (Nat.le_of_ble_eq_true rfl) dX7_clear_7 (fun H locs hP hD hS => ?_)
  have hP : va_P G.1 vwCl (wM G (sI σ 1 (0 : Int32))) H := hP
  have hD : va_D A (wM G (sI σ 1 (0 : Int32))) := hD
  refine lv_iload_n hx hb dX7_clear_10 rfl (lv_at hl 0 rfl) ?_
  rw [← hQ, ← Option.some.inj hE]
  exact ri hx hb hr hlocks hK hP hD hS dX7_clear_11
abbrev rmX7_byteAt : Room := { frames := 0, cells := 0, slots := 0, locals := 0 }

def f_X7_byteAt (x1 : Int32) (σ : St) : Option Int32 := if (gI σ 1) ≤ x1 then (some (-1 : Int32)) else (gd x1 120 (some (rd σ 5 x1)))
set_option maxHeartbeats 4000000 in
set_option maxRecDepth 100000 in
theorem c_X7_byteAt (l : Launch) (G : EV)  (x1 : Int32) (σ : St) (r : Int32) (hE : f_X7_byteAt x1 σ = some r) : MetI l G yX7_byteAt wsX7_byteAt rmX7_byteAt [.ref (aD G 43), .int x1] (wM G σ) r (wM G σ) := by
  refine Met.of0 (Qf := PI G r (wM G σ)) (cc := cX7_byteAt) (maxL := 2) (ret := (some .int)) (by decide) rfl (Nat.le_of_ble_eq_true rfl) ?_
  intro p e s m below meth c args A hx hb hr hts hown hlocks hml hin0 hA hS hP hK hD hX ls hl
  have hl : lv_has ls 2 [(0, .ref (aD G 43)), (1, .int x1)] := hl
  generalize hQ : MQ below (PI G r (wM G σ) A) args s 0 0 A = Q
  unfold f_X7_byteAt at hE
  refine lv_iload_n hx hb dX7_byteAt_0 rfl (lv_at hl 1 rfl) ?_
  refine lv_aload_n hx hb dX7_byteAt_1 rfl (lv_at hl 0 rfl) ?_
  refine va_get (ci := 7) (v := .int (gI σ 1)) (C := RX7) (T := TX7) (N := 17) hx hb hts (fun _ h => List.mem_cons_of_mem _ (List.mem_append_right _ h)) hown hK hP 13 rfl rfl 7 (by decide) (hts (.fieldLink RX7 167 "FillCellsModel" "typed" "I") (List.mem_of_getElem? (i := 1) rfl)) (fun _ h9 => h9) rfl dX7_byteAt_2 ?_
  refine lv_icmp_ge (tgt := 17) hx hb dX7_byteAt_5 (by decide) (fun c_ => ?_) (fun c_ => ?_)
  · have hE := ip c_ hE
    refine lv_iconst (v := (-1 : Int32)) hx hb dX7_byteAt_17 (by decide) ?_
    rw [← hQ, ← Option.some.inj hE]
    exact ri hx hb hr hlocks hK hP hD hS dX7_byteAt_18
  · have hE := im c_ hE
    refine lv_aload_n hx hb dX7_byteAt_8 rfl (lv_at hl 0 rfl) ?_
    refine va_get (ci := 7) (v := .ref (aD G 35)) (C := RX7) (T := TX7) (N := 17) hx hb hts (fun _ h => List.mem_cons_of_mem _ (List.mem_append_right _ h)) hown hK hP 13 rfl rfl 6 (by decide) (hts (.fieldLink RX7 25 "FillCellsModel" "text" "[I") (List.mem_of_getElem? (i := 2) rfl)) (fun _ h9 => h9) rfl dX7_byteAt_9 ?_
    refine lv_iload_n hx hb dX7_byteAt_12 rfl (lv_at hl 1 rfl) ?_
    obtain ⟨h_i, hE⟩ := gd_some hE
    refine ldM hx hb hK hP 5 (by decide) h_i dX7_byteAt_13 ?_
    refine lv_goto (tgt := 18) hx hb dX7_byteAt_14 (by decide) ?_
    rw [← hQ, ← Option.some.inj hE]
    exact ri hx hb hr hlocks hK hP hD hS dX7_byteAt_18
abbrev rmX7_skips : Room := { frames := 1, cells := 0, slots := 0, locals := 21 }
def f_X7_skips_L0  (v0 : St) : Option (((St)) ⊕ (St)) := bnd (f_X7_byteAt (gI v0 2) v0) (fun r1 => if r1 = (32 : Int32) then (some (.inr ((sI v0 2 ((gI v0 2) + (1 : Int32)))))) else (some (.inl (v0))))
def f_X7_skips_J0 (σ : St) : Option St := bnd (loopN (f_X7_skips_L0 ) 4096 (σ)) (fun y0 => some y0)
def f_X7_skips (σ : St) : Option St := f_X7_skips_J0 σ
set_option maxHeartbeats 4000000 in
set_option maxRecDepth 100000 in
theorem c_X7_skips (l : Launch) (G : EV)   (σ : St) (r : St) (hE : f_X7_skips σ = some r) : MetV l G yX7_skips wsX7_skips rmX7_skips [.ref (aD G 43)] (wM G σ) (wM G r) := by
  refine Met.of0 (Qf := PV G (wM G r)) (cc := cX7_skips) (maxL := 1) (ret := none) (by decide) rfl (Nat.le_of_ble_eq_true rfl) ?_
  intro p e s m below meth c args A hx hb hr hts hown hlocks hml hin0 hA hS hP hK hD hX ls hl
  have hl : lv_has ls 1 [(0, .ref (aD G 43))] := hl
  generalize hQ : MQ below (PV G (wM G r) A) args s 0 0 A = Q
  unfold f_X7_skips at hE
  have J_0 : ∀ (σ : St) (H : Heap) (locs : List Loc) (ls : Array Slot), va_P G.1 vwCl (wM G σ) H → va_D A (wM G σ) → va_S A s.heap H locs → lv_has ls 1 [(0, .ref (aD G 43))] → f_X7_skips_J0 σ = some r → W p l e rmX7_skips s m args below meth c H locs 0 0 Q (F0 m 0 ls []) := by
    intro σ H locs ls hP hD hS hl hE
    unfold f_X7_skips_J0 at hE
    obtain ⟨y0, hL, hE0⟩ := bnd_some hE
    refine loop_W (body := f_X7_skips_L0 ) (y := y0) (P := fun v0 => ∀ (H : Heap) (locs : List Loc) (ls : Array Slot), va_P G.1 vwCl (wM G v0) H → va_D A (wM G v0) → va_S A s.heap H locs → lv_has ls 1 [(0, .ref (aD G 43))] → W p l e rmX7_skips s m args below meth c H locs 0 0 Q (F0 m 0 ls [])) ?_ _ _ hL H locs ls hP hD hS hl
    clear hP hD hS hl hE hL
    intro v0 t0 hE hN0 hY0
    intro H locs ls hP hD hS hl
    unfold f_X7_skips_L0 at hE
    refine lv_aload_n hx hb dX7_skips_0 rfl (lv_at hl 0 rfl) ?_
    refine lv_aload_n hx hb dX7_skips_1 rfl (lv_at hl 0 rfl) ?_
    refine va_get (ci := 7) (v := .int (gI v0 2)) (C := RX7) (T := TX7) (N := 17) hx hb hts (fun _ h => List.mem_cons_of_mem _ (List.mem_append_right _ h)) hown hK hP 13 rfl rfl 8 (by decide) (hts (.fieldLink RX7 170 "FillCellsModel" "at" "I") (List.mem_of_getElem? (i := 1) rfl)) (fun _ h9 => h9) rfl dX7_skips_2 ?_
    obtain ⟨r1, hC, hE⟩ := bnd_some hE
    refine ci (va_runV (As := [.int (gI v0 2)]) (rest := []) ⟨hx, hb, hml, hown, hts⟩ (c_X7_byteAt l G (gI v0 2) v0 r1 hC _) (cwV 1 hts gX7_skips_X7_byteAt rfl rfl rfl (by decide +kernel) ⟨Nat.le_of_ble_eq_true rfl, Nat.le_of_ble_eq_true rfl⟩) (preV hK hP hD hS hA hX (va_recv hK hP (ci := 7) (q0 := 13) rfl rfl)) rfl rfl hl.1 rfl (lv_room (Nat.le_of_ble_eq_true rfl)) dX7_skips_5 ⟨Nat.le_of_ble_eq_true rfl, Nat.le_of_ble_eq_true rfl⟩) hD hS hA (fun H locs hP hD hS => ?_)
    refine lv_bipush (v := (32 : Int32)) hx hb dX7_skips_8 (by decide) ?_
    refine lv_icmp_ne (tgt := 26) hx hb dX7_skips_10 (by decide) (fun c_ => ?_) (fun c_ => ?_)
    · have hE := im c_ hE
      have e9 := hY0 _ (Option.some.inj hE).symm
      have hE := hE0
      rw [← e9] at hE
      rw [← hQ, ← Option.some.inj hE]
      exact rv hx hb hr hlocks hK hP hD hS dX7_skips_26
    · have hE := ip c_ hE
      refine lv_aload_n hx hb dX7_skips_13 rfl (lv_at hl 0 rfl) ?_
      refine lv_dup hx hb dX7_skips_14 rfl ?_
      refine va_get (ci := 7) (v := .int (gI v0 2)) (C := RX7) (T := TX7) (N := 17) hx hb hts (fun _ h => List.mem_cons_of_mem _ (List.mem_append_right _ h)) hown hK hP 13 rfl rfl 8 (by decide) (hts (.fieldLink RX7 170 "FillCellsModel" "at" "I") (List.mem_of_getElem? (i := 1) rfl)) (fun _ h9 => h9) rfl dX7_skips_15 ?_
      refine lv_iconst (v := (1 : Int32)) hx hb dX7_skips_18 (by decide) ?_
      refine lv_iadd hx hb dX7_skips_19 ?_
      refine va_put (ci := 7) (v := .int ((gI v0 2) + (1 : Int32))) (ty := .int) (C := RX7) (T := TX7) (N := 17) hx hb hts (fun _ h => List.mem_cons_of_mem _ (List.mem_append_right _ h)) tyX7 tyX7_ok nmX7 hown hK hP hD hS 13 rfl rfl 8 (by decide) (hts (.fieldLink RX7 170 "FillCellsModel" "at" "I") (List.mem_of_getElem? (i := 1) rfl)) (fun _ h9 => h9) rfl (by decide +kernel) rfl rfl (Nat.le_of_ble_eq_true rfl) dX7_skips_20 (fun H locs hP hD hS => ?_)
      have hP : va_P G.1 vwCl (wM G (sI v0 2 ((gI v0 2) + (1 : Int32)))) H := hP
      have hD : va_D A (wM G (sI v0 2 ((gI v0 2) + (1 : Int32)))) := hD
      refine lv_goto (tgt := 0) hx hb dX7_skips_23 (by decide) ?_
      exact hN0 _ (Option.some.inj hE).symm _ _ _ hP hD hS (lv_sub hl [0] rfl)
  exact J_0 σ _ _ _ hP hD hS (lv_sub hl [0] rfl) hE
abbrev rmX7_becomes : Room := { frames := 0, cells := 0, slots := 0, locals := 0 }

def f_X7_becomes (x1 x2 : Int32) (σ : St) : Option St := if x2 = (35 : Int32) then (gd ((80 : Int32) + x1) 400 (some (sA σ 0 ((80 : Int32) + x1) (1 : Int32)))) else (if x2 = (46 : Int32) then (some σ) else (gd x1 400 (gd ((80 : Int32) + x1) 400 (some (sA (sA σ 0 x1 (x2 - (48 : Int32))) 0 ((80 : Int32) + x1) (0 : Int32))))))
set_option maxHeartbeats 4000000 in
set_option maxRecDepth 100000 in
theorem c_X7_becomes (l : Launch) (G : EV)  (x1 x2 : Int32) (σ : St) (r : St) (hE : f_X7_becomes x1 x2 σ = some r) : MetV l G yX7_becomes wsX7_becomes rmX7_becomes [.ref (aD G 43), .int x1, .int x2] (wM G σ) (wM G r) := by
  refine Met.of0 (Qf := PV G (wM G r)) (cc := cX7_becomes) (maxL := 3) (ret := none) (by decide) rfl (Nat.le_of_ble_eq_true rfl) ?_
  intro p e s m below meth c args A hx hb hr hts hown hlocks hml hin0 hA hS hP hK hD hX ls hl
  have hl : lv_has ls 3 [(0, .ref (aD G 43)), (1, .int x1), (2, .int x2)] := hl
  generalize hQ : MQ below (PV G (wM G r) A) args s 0 0 A = Q
  unfold f_X7_becomes at hE
  refine lv_iload_n hx hb dX7_becomes_0 rfl (lv_at hl 2 rfl) ?_
  refine lv_bipush (v := (35 : Int32)) hx hb dX7_becomes_1 (by decide) ?_
  refine lv_icmp_ne (tgt := 19) hx hb dX7_becomes_3 (by decide) (fun c_ => ?_) (fun c_ => ?_)
  · have hE := im c_ hE
    refine lv_iload_n hx hb dX7_becomes_19 rfl (lv_at hl 2 rfl) ?_
    refine lv_bipush (v := (46 : Int32)) hx hb dX7_becomes_20 (by decide) ?_
    refine lv_icmp_eq (tgt := 45) hx hb dX7_becomes_22 (by decide) (fun c_ => ?_) (fun c_ => ?_)
    · have hE := ip c_ hE
      rw [← hQ, ← Option.some.inj hE]
      exact rv hx hb hr hlocks hK hP hD hS dX7_becomes_45
    · have hE := im c_ hE
      refine lv_aload_n hx hb dX7_becomes_25 rfl (lv_at hl 0 rfl) ?_
      refine va_get (ci := 7) (v := .ref (aD G 30)) (C := RX7) (T := TX7) (N := 17) hx hb hts (fun _ h => List.mem_cons_of_mem _ (List.mem_append_right _ h)) hown hK hP 13 rfl rfl 0 (by decide) (hts (.fieldLink RX7 7 "FillCellsModel" "s" "[I") (List.mem_of_getElem? (i := 1) rfl)) (fun _ h9 => h9) rfl dX7_becomes_26 ?_
      refine lv_iload_n hx hb dX7_becomes_29 rfl (lv_at hl 1 rfl) ?_
      refine lv_iload_n hx hb dX7_becomes_30 rfl (lv_at hl 2 rfl) ?_
      refine lv_bipush (v := (48 : Int32)) hx hb dX7_becomes_31 (by decide) ?_
      refine lv_isub hx hb dX7_becomes_33 ?_
      obtain ⟨h_i, hE⟩ := gd_some hE
      refine stM hx hb hK hP hD hS 0 (by decide) h_i dX7_becomes_34 (fun H locs hP hD hS => ?_)
      refine lv_aload_n hx hb dX7_becomes_35 rfl (lv_at hl 0 rfl) ?_
      refine va_get (ci := 7) (v := .ref (aD G 30)) (C := RX7) (T := TX7) (N := 17) hx hb hts (fun _ h => List.mem_cons_of_mem _ (List.mem_append_right _ h)) hown hK hP 13 rfl rfl 0 (by decide) (hts (.fieldLink RX7 7 "FillCellsModel" "s" "[I") (List.mem_of_getElem? (i := 1) rfl)) (fun _ h9 => h9) rfl dX7_becomes_36 ?_
      refine lv_bipush (v := (80 : Int32)) hx hb dX7_becomes_39 (by decide) ?_
      refine lv_iload_n hx hb dX7_becomes_41 rfl (lv_at hl 1 rfl) ?_
      refine lv_iadd hx hb dX7_becomes_42 ?_
      refine lv_iconst (v := (0 : Int32)) hx hb dX7_becomes_43 (by decide) ?_
      obtain ⟨h_i, hE⟩ := gd_some hE
      refine stM hx hb hK hP hD hS 0 (by decide) h_i dX7_becomes_44 (fun H locs hP hD hS => ?_)
      rw [← hQ, ← Option.some.inj hE]
      exact rv hx hb hr hlocks hK hP hD hS dX7_becomes_45
  · have hE := ip c_ hE
    refine lv_aload_n hx hb dX7_becomes_6 rfl (lv_at hl 0 rfl) ?_
    refine va_get (ci := 7) (v := .ref (aD G 30)) (C := RX7) (T := TX7) (N := 17) hx hb hts (fun _ h => List.mem_cons_of_mem _ (List.mem_append_right _ h)) hown hK hP 13 rfl rfl 0 (by decide) (hts (.fieldLink RX7 7 "FillCellsModel" "s" "[I") (List.mem_of_getElem? (i := 1) rfl)) (fun _ h9 => h9) rfl dX7_becomes_7 ?_
    refine lv_bipush (v := (80 : Int32)) hx hb dX7_becomes_10 (by decide) ?_
    refine lv_iload_n hx hb dX7_becomes_12 rfl (lv_at hl 1 rfl) ?_
    refine lv_iadd hx hb dX7_becomes_13 ?_
    refine lv_iconst (v := (1 : Int32)) hx hb dX7_becomes_14 (by decide) ?_
    obtain ⟨h_i, hE⟩ := gd_some hE
    refine stM hx hb hK hP hD hS 0 (by decide) h_i dX7_becomes_15 (fun H locs hP hD hS => ?_)
    refine lv_goto (tgt := 45) hx hb dX7_becomes_16 (by decide) ?_
    rw [← hQ, ← Option.some.inj hE]
    exact rv hx hb hr hlocks hK hP hD hS dX7_becomes_45
abbrev rmX7_isRow : Room := { frames := 2, cells := 0, slots := 0, locals := 41 }
def f_X7_isRow_J102 (x1 : Int32) (x2 : Int32) (x3 : Int32) (σ : St) : Option ((((Int32 × St) ⊕ (St))) ⊕ (Int32 × St)) := bnd (f_X7_becomes (((10 : Int32) * x1) + x2) x3 σ) (fun r6 => some (.inr ((x2 + (1 : Int32)), (sI r6 2 ((gI r6 2) + (1 : Int32))))))
def f_X7_isRow_J71 (x1 : Int32) (x2 : Int32) (x3 : Int32) (σ : St) : Option ((((Int32 × St) ⊕ (St))) ⊕ (Int32 × St)) := if x2 = (10 : Int32) then (some (.inl (.inr (σ)))) else (bnd (f_X7_in x3 (48 : Int32) (57 : Int32)) (fun r5 => if r5 = 0 then (if x3 = (35 : Int32) then (f_X7_isRow_J102 x1 x2 x3 σ) else (if x3 = (46 : Int32) then (f_X7_isRow_J102 x1 x2 x3 σ) else (some (.inl (.inr (σ)))))) else (f_X7_isRow_J102 x1 x2 x3 σ)))
def f_X7_isRow_L36 (x1 : Int32) (v36 : Int32 × St) : Option ((((Int32 × St) ⊕ (St))) ⊕ (Int32 × St)) := bnd (f_X7_skips v36.2) (fun r3 => bnd (f_X7_byteAt (gI r3 2) r3) (fun r4 => if r4 = (59 : Int32) then (if v36.1 ≤ 0 then (f_X7_isRow_J71 x1 v36.1 r4 r3) else (some (.inl (.inl ((1 : Int32), (sI r3 2 ((gI r3 2) + (1 : Int32)))))))) else (f_X7_isRow_J71 x1 v36.1 r4 r3)))
def f_X7_isRow_J36 (x1 : Int32) (x2 : Int32) (σ : St) : Option (Int32 × St) := bnd (loopN (f_X7_isRow_L36 x1) 4096 (x2, σ)) (fun y36 => ear (fun q => q) y36 (fun y36 => some ((0 : Int32), y36)))
def f_X7_isRow (σ : St) : Option (Int32 × St) := bnd (f_X7_byteAt (gI σ 2) σ) (fun r1 => bnd (f_X7_in (r1 - (48 : Int32)) (0 : Int32) (7 : Int32)) (fun r2 => if r2 = 0 then (some ((0 : Int32), σ)) else (f_X7_isRow_J36 (r1 - (48 : Int32)) (0 : Int32) (sI σ 2 ((gI σ 2) + (1 : Int32))))))
set_option maxHeartbeats 4000000 in
set_option maxRecDepth 100000 in
theorem c_X7_isRow (l : Launch) (G : EV)   (σ : St) (r : (Int32 × St)) (hE : f_X7_isRow σ = some r) : MetI l G yX7_isRow wsX7_isRow rmX7_isRow [.ref (aD G 43)] (wM G σ) r.1 (wM G r.2) := by
  refine Met.of0 (Qf := PI G r.1 (wM G r.2)) (cc := cX7_isRow) (maxL := 4) (ret := (some .boolean)) (by decide) rfl (Nat.le_of_ble_eq_true rfl) ?_
  intro p e s m below meth c args A hx hb hr hts hown hlocks hml hin0 hA hS hP hK hD hX ls hl
  have hl : lv_has ls 4 [(0, .ref (aD G 43))] := hl
  generalize hQ : MQ below (PI G r.1 (wM G r.2) A) args s 0 0 A = Q
  unfold f_X7_isRow at hE
  have J_36 : ∀ (x1 : Int32) (x2 : Int32) (σ : St) (H : Heap) (locs : List Loc) (ls : Array Slot), va_P G.1 vwCl (wM G σ) H → va_D A (wM G σ) → va_S A s.heap H locs → lv_has ls 4 [(0, .ref (aD G 43)), (1, .int x1), (2, .int x2)] → f_X7_isRow_J36 x1 x2 σ = some r → W p l e rmX7_isRow s m args below meth c H locs 0 0 Q (F0 m 36 ls []) := by
    intro x1 x2 σ H locs ls hP hD hS hl hE
    unfold f_X7_isRow_J36 at hE
    obtain ⟨y36, hL, hE36⟩ := bnd_some hE
    refine loop_W (body := f_X7_isRow_L36 x1) (y := y36) (P := fun v36 => ∀ (H : Heap) (locs : List Loc) (ls : Array Slot), va_P G.1 vwCl (wM G v36.2) H → va_D A (wM G v36.2) → va_S A s.heap H locs → lv_has ls 4 [(0, .ref (aD G 43)), (1, .int x1), (2, .int v36.1)] → W p l e rmX7_isRow s m args below meth c H locs 0 0 Q (F0 m 36 ls [])) ?_ _ _ hL H locs ls hP hD hS hl
    clear hP hD hS hl hE hL
    intro v36 t36 hE hN36 hY36
    intro H locs ls hP hD hS hl
    unfold f_X7_isRow_L36 at hE
    have J_102 : ∀ (x2 : Int32) (x3 : Int32) (σ : St) (H : Heap) (locs : List Loc) (ls : Array Slot), va_P G.1 vwCl (wM G σ) H → va_D A (wM G σ) → va_S A s.heap H locs → lv_has ls 4 [(0, .ref (aD G 43)), (1, .int x1), (2, .int x2), (3, .int x3)] → f_X7_isRow_J102 x1 x2 x3 σ = some t36 → W p l e rmX7_isRow s m args below meth c H locs 0 0 Q (F0 m 102 ls []) := by
      intro x2 x3 σ H locs ls hP hD hS hl hE
      unfold f_X7_isRow_J102 at hE
      refine lv_aload_n hx hb dX7_isRow_102 rfl (lv_at hl 0 rfl) ?_
      refine lv_bipush (v := (10 : Int32)) hx hb dX7_isRow_103 (by decide) ?_
      refine lv_iload_n hx hb dX7_isRow_105 rfl (lv_at hl 1 rfl) ?_
      refine lv_imul hx hb dX7_isRow_106 ?_
      refine lv_iload_n hx hb dX7_isRow_107 rfl (lv_at hl 2 rfl) ?_
      refine lv_iadd hx hb dX7_isRow_108 ?_
      refine lv_iload_n hx hb dX7_isRow_109 rfl (lv_at hl 3 rfl) ?_
      obtain ⟨r6, hC, hE⟩ := bnd_some hE
      refine cv (va_runV (As := [.int (((10 : Int32) * x1) + x2), .int x3]) (rest := []) ⟨hx, hb, hml, hown, hts⟩ (c_X7_becomes l G (((10 : Int32) * x1) + x2) x3 σ r6 hC _) (cwV 2 hts gX7_isRow_X7_becomes rfl rfl rfl (by decide +kernel) ⟨Nat.le_of_ble_eq_true rfl, Nat.le_of_ble_eq_true rfl⟩) (preV hK hP hD hS hA hX (va_recv hK hP (ci := 7) (q0 := 13) rfl rfl)) rfl rfl hl.1 rfl (lv_room (Nat.le_of_ble_eq_true rfl)) dX7_isRow_110 ⟨Nat.le_of_ble_eq_true rfl, Nat.le_of_ble_eq_true rfl⟩) hD hS hA (fun H locs hP hD hS => ?_)
      refine lv_aload_n hx hb dX7_isRow_113 rfl (lv_at hl 0 rfl) ?_
      refine lv_dup hx hb dX7_isRow_114 rfl ?_
      refine va_get (ci := 7) (v := .int (gI r6 2)) (C := RX7) (T := TX7) (N := 17) hx hb hts (fun _ h => List.mem_cons_of_mem _ (List.mem_append_right _ h)) hown hK hP 13 rfl rfl 8 (by decide) (hts (.fieldLink RX7 170 "FillCellsModel" "at" "I") (List.mem_of_getElem? (i := 1) rfl)) (fun _ h9 => h9) rfl dX7_isRow_115 ?_
      refine lv_iconst (v := (1 : Int32)) hx hb dX7_isRow_118 (by decide) ?_
      refine lv_iadd hx hb dX7_isRow_119 ?_
      refine va_put (ci := 7) (v := .int ((gI r6 2) + (1 : Int32))) (ty := .int) (C := RX7) (T := TX7) (N := 17) hx hb hts (fun _ h => List.mem_cons_of_mem _ (List.mem_append_right _ h)) tyX7 tyX7_ok nmX7 hown hK hP hD hS 13 rfl rfl 8 (by decide) (hts (.fieldLink RX7 170 "FillCellsModel" "at" "I") (List.mem_of_getElem? (i := 1) rfl)) (fun _ h9 => h9) rfl (by decide +kernel) rfl rfl (Nat.le_of_ble_eq_true rfl) dX7_isRow_120 (fun H locs hP hD hS => ?_)
      have hP : va_P G.1 vwCl (wM G (sI r6 2 ((gI r6 2) + (1 : Int32)))) H := hP
      have hD : va_D A (wM G (sI r6 2 ((gI r6 2) + (1 : Int32)))) := hD
      refine lv_iinc (v := (x2 + (1 : Int32))) (lv' := [(2, .int (x2 + (1 : Int32))), (0, .ref (aD G 43)), (1, .int x1), (3, .int x3)]) hx hb dX7_isRow_123 hl (k := 2) rfl rfl (by decide) rfl (fun ls hl => ?_)
      refine lv_goto (tgt := 36) hx hb dX7_isRow_126 (by decide) ?_
      exact hN36 _ (Option.some.inj hE).symm _ _ _ hP hD hS (lv_sub hl [1, 2, 0] rfl)
    have J_71 : ∀ (x2 : Int32) (x3 : Int32) (σ : St) (H : Heap) (locs : List Loc) (ls : Array Slot), va_P G.1 vwCl (wM G σ) H → va_D A (wM G σ) → va_S A s.heap H locs → lv_has ls 4 [(0, .ref (aD G 43)), (1, .int x1), (2, .int x2), (3, .int x3)] → f_X7_isRow_J71 x1 x2 x3 σ = some t36 → W p l e rmX7_isRow s m args below meth c H locs 0 0 Q (F0 m 71 ls []) := by
      intro x2 x3 σ H locs ls hP hD hS hl hE
      unfold f_X7_isRow_J71 at hE
      refine lv_iload_n hx hb dX7_isRow_71 rfl (lv_at hl 2 rfl) ?_
      refine lv_bipush (v := (10 : Int32)) hx hb dX7_isRow_72 (by decide) ?_
      refine lv_icmp_eq (tgt := 100) hx hb dX7_isRow_74 (by decide) (fun c_ => ?_) (fun c_ => ?_)
      · have hE := ip c_ hE
        have e9 := hY36 _ (Option.some.inj hE).symm
        have hE := ear_r _ e9 hE36
        refine lv_iconst (v := (0 : Int32)) hx hb dX7_isRow_100 (by decide) ?_
        rw [← hQ, ← Option.some.inj hE]
        exact rz (v := (0 : Int32)) hx hb hr hlocks hK hP hD hS rfl dX7_isRow_101
      · have hE := im c_ hE
        refine lv_iload_n hx hb dX7_isRow_77 rfl (lv_at hl 3 rfl) ?_
        refine lv_bipush (v := (48 : Int32)) hx hb dX7_isRow_78 (by decide) ?_
        refine lv_bipush (v := (57 : Int32)) hx hb dX7_isRow_80 (by decide) ?_
        obtain ⟨r5, hC, hE⟩ := bnd_some hE
        refine ci (va_runS (As := [.int x3, .int (48 : Int32), .int (57 : Int32)]) (rest := []) ⟨hx, hb, hml, hown, hts⟩ (c_X7_in l G x3 (48 : Int32) (57 : Int32) σ r5 hC _) (va_cwS 3 hts gX7_isRow_X7_in rfl rfl rfl (by decide +kernel) ⟨Nat.le_of_ble_eq_true rfl, Nat.le_of_ble_eq_true rfl⟩) (preS hK hP hD hS hA hX) rfl rfl hl.1 rfl (lv_room (Nat.le_of_ble_eq_true rfl)) dX7_isRow_82 ⟨Nat.le_of_ble_eq_true rfl, Nat.le_of_ble_eq_true rfl⟩) hD hS hA (fun H locs hP hD hS => ?_)
        refine lv_if_ne (tgt := 102) hx hb dX7_isRow_85 (by decide) (fun c_ => ?_) (fun c_ => ?_)
        · have hE := im c_ hE
          exact J_102 x2 x3 σ _ _ _ hP hD hS (lv_sub hl [0, 1, 2, 3] rfl) hE
        · have hE := ip c_ hE
          refine lv_iload_n hx hb dX7_isRow_88 rfl (lv_at hl 3 rfl) ?_
          refine lv_bipush (v := (35 : Int32)) hx hb dX7_isRow_89 (by decide) ?_
          refine lv_icmp_eq (tgt := 102) hx hb dX7_isRow_91 (by decide) (fun c_ => ?_) (fun c_ => ?_)
          · have hE := ip c_ hE
            exact J_102 x2 x3 σ _ _ _ hP hD hS (lv_sub hl [0, 1, 2, 3] rfl) hE
          · have hE := im c_ hE
            refine lv_iload_n hx hb dX7_isRow_94 rfl (lv_at hl 3 rfl) ?_
            refine lv_bipush (v := (46 : Int32)) hx hb dX7_isRow_95 (by decide) ?_
            refine lv_icmp_eq (tgt := 102) hx hb dX7_isRow_97 (by decide) (fun c_ => ?_) (fun c_ => ?_)
            · have hE := ip c_ hE
              exact J_102 x2 x3 σ _ _ _ hP hD hS (lv_sub hl [0, 1, 2, 3] rfl) hE
            · have hE := im c_ hE
              have e9 := hY36 _ (Option.some.inj hE).symm
              have hE := ear_r _ e9 hE36
              refine lv_iconst (v := (0 : Int32)) hx hb dX7_isRow_100 (by decide) ?_
              rw [← hQ, ← Option.some.inj hE]
              exact rz (v := (0 : Int32)) hx hb hr hlocks hK hP hD hS rfl dX7_isRow_101
    refine lv_aload_n hx hb dX7_isRow_36 rfl (lv_at hl 0 rfl) ?_
    obtain ⟨r3, hC, hE⟩ := bnd_some hE
    refine cv (va_runV (As := []) (rest := []) ⟨hx, hb, hml, hown, hts⟩ (c_X7_skips l G v36.2 r3 hC _) (cwV 0 hts gX7_isRow_X7_skips rfl rfl rfl (by decide +kernel) ⟨Nat.le_of_ble_eq_true rfl, Nat.le_of_ble_eq_true rfl⟩) (preV hK hP hD hS hA hX (va_recv hK hP (ci := 7) (q0 := 13) rfl rfl)) rfl rfl hl.1 rfl (lv_room (Nat.le_of_ble_eq_true rfl)) dX7_isRow_37 ⟨Nat.le_of_ble_eq_true rfl, Nat.le_of_ble_eq_true rfl⟩) hD hS hA (fun H locs hP hD hS => ?_)
    refine lv_aload_n hx hb dX7_isRow_40 rfl (lv_at hl 0 rfl) ?_
    refine lv_aload_n hx hb dX7_isRow_41 rfl (lv_at hl 0 rfl) ?_
    refine va_get (ci := 7) (v := .int (gI r3 2)) (C := RX7) (T := TX7) (N := 17) hx hb hts (fun _ h => List.mem_cons_of_mem _ (List.mem_append_right _ h)) hown hK hP 13 rfl rfl 8 (by decide) (hts (.fieldLink RX7 170 "FillCellsModel" "at" "I") (List.mem_of_getElem? (i := 1) rfl)) (fun _ h9 => h9) rfl dX7_isRow_42 ?_
    obtain ⟨r4, hC, hE⟩ := bnd_some hE
    refine ci (va_runV (As := [.int (gI r3 2)]) (rest := []) ⟨hx, hb, hml, hown, hts⟩ (c_X7_byteAt l G (gI r3 2) r3 r4 hC _) (cwV 1 hts gX7_isRow_X7_byteAt rfl rfl rfl (by decide +kernel) ⟨Nat.le_of_ble_eq_true rfl, Nat.le_of_ble_eq_true rfl⟩) (preV hK hP hD hS hA hX (va_recv hK hP (ci := 7) (q0 := 13) rfl rfl)) rfl rfl hl.1 rfl (lv_room (Nat.le_of_ble_eq_true rfl)) dX7_isRow_45 ⟨Nat.le_of_ble_eq_true rfl, Nat.le_of_ble_eq_true rfl⟩) hD hS hA (fun H locs hP hD hS => ?_)
    refine lv_istore_n (lv' := [(3, .int r4), (0, .ref (aD G 43)), (1, .int x1), (2, .int v36.1)]) hx hb dX7_isRow_48 rfl hl (by decide) rfl (fun ls hl => ?_)
    refine lv_iload_n hx hb dX7_isRow_49 rfl (lv_at hl 0 rfl) ?_
    refine lv_bipush (v := (59 : Int32)) hx hb dX7_isRow_50 (by decide) ?_
    refine lv_icmp_ne (tgt := 71) hx hb dX7_isRow_52 (by decide) (fun c_ => ?_) (fun c_ => ?_)
    · have hE := im c_ hE
      exact J_71 v36.1 r4 r3 _ _ _ hP hD hS (lv_sub hl [1, 2, 3, 0] rfl) hE
    · have hE := ip c_ hE
      refine lv_iload_n hx hb dX7_isRow_55 rfl (lv_at hl 3 rfl) ?_
      refine lv_if_le (tgt := 71) hx hb dX7_isRow_56 (by decide) (fun c_ => ?_) (fun c_ => ?_)
      · have hE := ip c_ hE
        exact J_71 v36.1 r4 r3 _ _ _ hP hD hS (lv_sub hl [1, 2, 3, 0] rfl) hE
      · have hE := im c_ hE
        refine lv_aload_n hx hb dX7_isRow_59 rfl (lv_at hl 1 rfl) ?_
        refine lv_dup hx hb dX7_isRow_60 rfl ?_
        refine va_get (ci := 7) (v := .int (gI r3 2)) (C := RX7) (T := TX7) (N := 17) hx hb hts (fun _ h => List.mem_cons_of_mem _ (List.mem_append_right _ h)) hown hK hP 13 rfl rfl 8 (by decide) (hts (.fieldLink RX7 170 "FillCellsModel" "at" "I") (List.mem_of_getElem? (i := 1) rfl)) (fun _ h9 => h9) rfl dX7_isRow_61 ?_
        refine lv_iconst (v := (1 : Int32)) hx hb dX7_isRow_64 (by decide) ?_
        refine lv_iadd hx hb dX7_isRow_65 ?_
        refine va_put (ci := 7) (v := .int ((gI r3 2) + (1 : Int32))) (ty := .int) (C := RX7) (T := TX7) (N := 17) hx hb hts (fun _ h => List.mem_cons_of_mem _ (List.mem_append_right _ h)) tyX7 tyX7_ok nmX7 hown hK hP hD hS 13 rfl rfl 8 (by decide) (hts (.fieldLink RX7 170 "FillCellsModel" "at" "I") (List.mem_of_getElem? (i := 1) rfl)) (fun _ h9 => h9) rfl (by decide +kernel) rfl rfl (Nat.le_of_ble_eq_true rfl) dX7_isRow_66 (fun H locs hP hD hS => ?_)
        have hP : va_P G.1 vwCl (wM G (sI r3 2 ((gI r3 2) + (1 : Int32)))) H := hP
        have hD : va_D A (wM G (sI r3 2 ((gI r3 2) + (1 : Int32)))) := hD
        refine lv_iconst (v := (1 : Int32)) hx hb dX7_isRow_69 (by decide) ?_
        have hE := ear_l _ (hY36 _ (Option.some.inj hE).symm) hE36
        rw [← hQ, ← Option.some.inj hE]
        exact rz (v := (1 : Int32)) hx hb hr hlocks hK hP hD hS rfl dX7_isRow_70
  refine lv_aload_n hx hb dX7_isRow_0 rfl (lv_at hl 0 rfl) ?_
  refine lv_aload_n hx hb dX7_isRow_1 rfl (lv_at hl 0 rfl) ?_
  refine va_get (ci := 7) (v := .int (gI σ 2)) (C := RX7) (T := TX7) (N := 17) hx hb hts (fun _ h => List.mem_cons_of_mem _ (List.mem_append_right _ h)) hown hK hP 13 rfl rfl 8 (by decide) (hts (.fieldLink RX7 170 "FillCellsModel" "at" "I") (List.mem_of_getElem? (i := 1) rfl)) (fun _ h9 => h9) rfl dX7_isRow_2 ?_
  obtain ⟨r1, hC, hE⟩ := bnd_some hE
  refine ci (va_runV (As := [.int (gI σ 2)]) (rest := []) ⟨hx, hb, hml, hown, hts⟩ (c_X7_byteAt l G (gI σ 2) σ r1 hC _) (cwV 1 hts gX7_isRow_X7_byteAt rfl rfl rfl (by decide +kernel) ⟨Nat.le_of_ble_eq_true rfl, Nat.le_of_ble_eq_true rfl⟩) (preV hK hP hD hS hA hX (va_recv hK hP (ci := 7) (q0 := 13) rfl rfl)) rfl rfl hl.1 rfl (lv_room (Nat.le_of_ble_eq_true rfl)) dX7_isRow_5 ⟨Nat.le_of_ble_eq_true rfl, Nat.le_of_ble_eq_true rfl⟩) hD hS hA (fun H locs hP hD hS => ?_)
  refine lv_bipush (v := (48 : Int32)) hx hb dX7_isRow_8 (by decide) ?_
  refine lv_isub hx hb dX7_isRow_10 ?_
  refine lv_istore_n (lv' := [(1, .int (r1 - (48 : Int32))), (0, .ref (aD G 43))]) hx hb dX7_isRow_11 rfl hl (by decide) rfl (fun ls hl => ?_)
  refine lv_iload_n hx hb dX7_isRow_12 rfl (lv_at hl 0 rfl) ?_
  refine lv_iconst (v := (0 : Int32)) hx hb dX7_isRow_13 (by decide) ?_
  refine lv_bipush (v := (7 : Int32)) hx hb dX7_isRow_14 (by decide) ?_
  obtain ⟨r2, hC, hE⟩ := bnd_some hE
  refine ci (va_runS (As := [.int (r1 - (48 : Int32)), .int (0 : Int32), .int (7 : Int32)]) (rest := []) ⟨hx, hb, hml, hown, hts⟩ (c_X7_in l G (r1 - (48 : Int32)) (0 : Int32) (7 : Int32) σ r2 hC _) (va_cwS 3 hts gX7_isRow_X7_in rfl rfl rfl (by decide +kernel) ⟨Nat.le_of_ble_eq_true rfl, Nat.le_of_ble_eq_true rfl⟩) (preS hK hP hD hS hA hX) rfl rfl hl.1 rfl (lv_room (Nat.le_of_ble_eq_true rfl)) dX7_isRow_16 ⟨Nat.le_of_ble_eq_true rfl, Nat.le_of_ble_eq_true rfl⟩) hD hS hA (fun H locs hP hD hS => ?_)
  refine lv_if_ne (tgt := 24) hx hb dX7_isRow_19 (by decide) (fun c_ => ?_) (fun c_ => ?_)
  · have hE := im c_ hE
    refine lv_aload_n hx hb dX7_isRow_24 rfl (lv_at hl 1 rfl) ?_
    refine lv_dup hx hb dX7_isRow_25 rfl ?_
    refine va_get (ci := 7) (v := .int (gI σ 2)) (C := RX7) (T := TX7) (N := 17) hx hb hts (fun _ h => List.mem_cons_of_mem _ (List.mem_append_right _ h)) hown hK hP 13 rfl rfl 8 (by decide) (hts (.fieldLink RX7 170 "FillCellsModel" "at" "I") (List.mem_of_getElem? (i := 1) rfl)) (fun _ h9 => h9) rfl dX7_isRow_26 ?_
    refine lv_iconst (v := (1 : Int32)) hx hb dX7_isRow_29 (by decide) ?_
    refine lv_iadd hx hb dX7_isRow_30 ?_
    refine va_put (ci := 7) (v := .int ((gI σ 2) + (1 : Int32))) (ty := .int) (C := RX7) (T := TX7) (N := 17) hx hb hts (fun _ h => List.mem_cons_of_mem _ (List.mem_append_right _ h)) tyX7 tyX7_ok nmX7 hown hK hP hD hS 13 rfl rfl 8 (by decide) (hts (.fieldLink RX7 170 "FillCellsModel" "at" "I") (List.mem_of_getElem? (i := 1) rfl)) (fun _ h9 => h9) rfl (by decide +kernel) rfl rfl (Nat.le_of_ble_eq_true rfl) dX7_isRow_31 (fun H locs hP hD hS => ?_)
    have hP : va_P G.1 vwCl (wM G (sI σ 2 ((gI σ 2) + (1 : Int32)))) H := hP
    have hD : va_D A (wM G (sI σ 2 ((gI σ 2) + (1 : Int32)))) := hD
    refine lv_iconst (v := (0 : Int32)) hx hb dX7_isRow_34 (by decide) ?_
    refine lv_istore_n (lv' := [(2, .int (0 : Int32)), (1, .int (r1 - (48 : Int32))), (0, .ref (aD G 43))]) hx hb dX7_isRow_35 rfl hl (by decide) rfl (fun ls hl => ?_)
    exact J_36 (r1 - (48 : Int32)) (0 : Int32) (sI σ 2 ((gI σ 2) + (1 : Int32))) _ _ _ hP hD hS (lv_sub hl [2, 1, 0] rfl) hE
  · have hE := ip c_ hE
    refine lv_iconst (v := (0 : Int32)) hx hb dX7_isRow_22 (by decide) ?_
    rw [← hQ, ← Option.some.inj hE]
    exact rz (v := (0 : Int32)) hx hb hr hlocks hK hP hD hS rfl dX7_isRow_23
abbrev rmX7_reads : Room := { frames := 3, cells := 0, slots := 0, locals := 64 }
def f_X7_reads_J51 (x1 : Int32) (x2 : Int32) (σ : St) : Option (Int32 × St) := if x2 = 0 then (bnd (f_X7_back σ) (fun r5 => some (((-10 : Int32) - (gI r5 2)), r5))) else (bnd (f_X7_keeps σ) (fun r3 => bnd (f_X7_settles r3) (fun r4 => some (x1, r4))))
def f_X7_reads_J36 (x1 : Int32) (σ : St) : Option (((Int32 × Int32 × St)) ⊕ (Int32 × Int32 × St)) := bnd (f_X7_isRow σ) (fun r6 => bnd (f_X7_skips r6.2) (fun r7 => some (.inr ((x1 + (1 : Int32)), r6.1, r7))))
def f_X7_reads_L17  (v17 : Int32 × Int32 × St) : Option (((Int32 × Int32 × St)) ⊕ (Int32 × Int32 × St)) := if v17.2.1 = 0 then (some (.inl (v17.1, v17.2.1, v17.2.2))) else (if (gI v17.2.2 2) < (gI v17.2.2 1) then (f_X7_reads_J36 v17.1 v17.2.2) else (if v17.1 = 0 then (f_X7_reads_J36 v17.1 v17.2.2) else (some (.inl (v17.1, v17.2.1, v17.2.2)))))
def f_X7_reads_J17 (x1 : Int32) (x2 : Int32) (σ : St) : Option (Int32 × St) := bnd (loopN (f_X7_reads_L17 ) 4096 (x1, x2, σ)) (fun y17 => f_X7_reads_J51 y17.1 y17.2.1 y17.2.2)
def f_X7_reads (σ : St) : Option (Int32 × St) := bnd (f_X7_aside σ) (fun r1 => bnd (f_X7_skips (sI r1 2 (0 : Int32))) (fun r2 => f_X7_reads_J17 (0 : Int32) (1 : Int32) r2))
set_option maxHeartbeats 4000000 in
set_option maxRecDepth 100000 in
theorem c_X7_reads (l : Launch) (G : EV)   (σ : St) (r : (Int32 × St)) (hE : f_X7_reads σ = some r) : MetI l G yX7_reads wsX7_reads rmX7_reads [.ref (aD G 43)] (wM G σ) r.1 (wM G r.2) := by
  refine Met.of0 (Qf := PI G r.1 (wM G r.2)) (cc := cX7_reads) (maxL := 3) (ret := (some .int)) (by decide) rfl (Nat.le_of_ble_eq_true rfl) ?_
  intro p e s m below meth c args A hx hb hr hts hown hlocks hml hin0 hA hS hP hK hD hX ls hl
  have hl : lv_has ls 3 [(0, .ref (aD G 43))] := hl
  generalize hQ : MQ below (PI G r.1 (wM G r.2) A) args s 0 0 A = Q
  unfold f_X7_reads at hE
  have J_51 : ∀ (x1 : Int32) (x2 : Int32) (σ : St) (H : Heap) (locs : List Loc) (ls : Array Slot), va_P G.1 vwCl (wM G σ) H → va_D A (wM G σ) → va_S A s.heap H locs → lv_has ls 3 [(0, .ref (aD G 43)), (1, .int x1), (2, .int x2)] → f_X7_reads_J51 x1 x2 σ = some r → W p l e rmX7_reads s m args below meth c H locs 0 0 Q (F0 m 51 ls []) := by
    intro x1 x2 σ H locs ls hP hD hS hl hE
    unfold f_X7_reads_J51 at hE
    refine lv_iload_n hx hb dX7_reads_51 rfl (lv_at hl 2 rfl) ?_
    refine lv_if_ne (tgt := 67) hx hb dX7_reads_52 (by decide) (fun c_ => ?_) (fun c_ => ?_)
    · have hE := im c_ hE
      refine lv_aload_n hx hb dX7_reads_67 rfl (lv_at hl 0 rfl) ?_
      obtain ⟨r3, hC, hE⟩ := bnd_some hE
      refine cv (va_runV (As := []) (rest := []) ⟨hx, hb, hml, hown, hts⟩ (c_X7_keeps l G σ r3 hC _) (cwV 0 hts gX7_reads_X7_keeps rfl rfl rfl (by decide +kernel) ⟨Nat.le_of_ble_eq_true rfl, Nat.le_of_ble_eq_true rfl⟩) (preV hK hP hD hS hA hX (va_recv hK hP (ci := 7) (q0 := 13) rfl rfl)) rfl rfl hl.1 rfl (lv_room (Nat.le_of_ble_eq_true rfl)) dX7_reads_68 ⟨Nat.le_of_ble_eq_true rfl, Nat.le_of_ble_eq_true rfl⟩) hD hS hA (fun H locs hP hD hS => ?_)
      refine lv_aload_n hx hb dX7_reads_71 rfl (lv_at hl 0 rfl) ?_
      obtain ⟨r4, hC, hE⟩ := bnd_some hE
      refine cv (va_runV (As := []) (rest := []) ⟨hx, hb, hml, hown, hts⟩ (c_X7_settles l G r3 r4 hC _) (cwV 0 hts gX7_reads_X7_settles rfl rfl rfl (by decide +kernel) ⟨Nat.le_of_ble_eq_true rfl, Nat.le_of_ble_eq_true rfl⟩) (preV hK hP hD hS hA hX (va_recv hK hP (ci := 7) (q0 := 13) rfl rfl)) rfl rfl hl.1 rfl (lv_room (Nat.le_of_ble_eq_true rfl)) dX7_reads_72 ⟨Nat.le_of_ble_eq_true rfl, Nat.le_of_ble_eq_true rfl⟩) hD hS hA (fun H locs hP hD hS => ?_)
      refine lv_iload_n hx hb dX7_reads_75 rfl (lv_at hl 1 rfl) ?_
      rw [← hQ, ← Option.some.inj hE]
      exact ri hx hb hr hlocks hK hP hD hS dX7_reads_76
    · have hE := ip c_ hE
      refine lv_aload_n hx hb dX7_reads_55 rfl (lv_at hl 0 rfl) ?_
      obtain ⟨r5, hC, hE⟩ := bnd_some hE
      refine cv (va_runV (As := []) (rest := []) ⟨hx, hb, hml, hown, hts⟩ (c_X7_back l G σ r5 hC _) (cwV 0 hts gX7_reads_X7_back rfl rfl rfl (by decide +kernel) ⟨Nat.le_of_ble_eq_true rfl, Nat.le_of_ble_eq_true rfl⟩) (preV hK hP hD hS hA hX (va_recv hK hP (ci := 7) (q0 := 13) rfl rfl)) rfl rfl hl.1 rfl (lv_room (Nat.le_of_ble_eq_true rfl)) dX7_reads_56 ⟨Nat.le_of_ble_eq_true rfl, Nat.le_of_ble_eq_true rfl⟩) hD hS hA (fun H locs hP hD hS => ?_)
      refine lv_bipush (v := (-10 : Int32)) hx hb dX7_reads_59 (by decide) ?_
      refine lv_aload_n hx hb dX7_reads_61 rfl (lv_at hl 0 rfl) ?_
      refine va_get (ci := 7) (v := .int (gI r5 2)) (C := RX7) (T := TX7) (N := 17) hx hb hts (fun _ h => List.mem_cons_of_mem _ (List.mem_append_right _ h)) hown hK hP 13 rfl rfl 8 (by decide) (hts (.fieldLink RX7 170 "FillCellsModel" "at" "I") (List.mem_of_getElem? (i := 1) rfl)) (fun _ h9 => h9) rfl dX7_reads_62 ?_
      refine lv_isub hx hb dX7_reads_65 ?_
      rw [← hQ, ← Option.some.inj hE]
      exact ri hx hb hr hlocks hK hP hD hS dX7_reads_66
  have J_17 : ∀ (x1 : Int32) (x2 : Int32) (σ : St) (H : Heap) (locs : List Loc) (ls : Array Slot), va_P G.1 vwCl (wM G σ) H → va_D A (wM G σ) → va_S A s.heap H locs → lv_has ls 3 [(0, .ref (aD G 43)), (1, .int x1), (2, .int x2)] → f_X7_reads_J17 x1 x2 σ = some r → W p l e rmX7_reads s m args below meth c H locs 0 0 Q (F0 m 17 ls []) := by
    intro x1 x2 σ H locs ls hP hD hS hl hE
    unfold f_X7_reads_J17 at hE
    obtain ⟨y17, hL, hE17⟩ := bnd_some hE
    refine loop_W (body := f_X7_reads_L17 ) (y := y17) (P := fun v17 => ∀ (H : Heap) (locs : List Loc) (ls : Array Slot), va_P G.1 vwCl (wM G v17.2.2) H → va_D A (wM G v17.2.2) → va_S A s.heap H locs → lv_has ls 3 [(0, .ref (aD G 43)), (1, .int v17.1), (2, .int v17.2.1)] → W p l e rmX7_reads s m args below meth c H locs 0 0 Q (F0 m 17 ls [])) ?_ _ _ hL H locs ls hP hD hS hl
    clear hP hD hS hl hE hL
    intro v17 t17 hE hN17 hY17
    intro H locs ls hP hD hS hl
    unfold f_X7_reads_L17 at hE
    have J_36 : ∀ (x1 : Int32) (σ : St) (H : Heap) (locs : List Loc) (ls : Array Slot), va_P G.1 vwCl (wM G σ) H → va_D A (wM G σ) → va_S A s.heap H locs → lv_has ls 3 [(0, .ref (aD G 43)), (1, .int x1)] → f_X7_reads_J36 x1 σ = some t17 → W p l e rmX7_reads s m args below meth c H locs 0 0 Q (F0 m 36 ls []) := by
      intro x1 σ H locs ls hP hD hS hl hE
      unfold f_X7_reads_J36 at hE
      refine lv_aload_n hx hb dX7_reads_36 rfl (lv_at hl 0 rfl) ?_
      obtain ⟨r6, hC, hE⟩ := bnd_some hE
      refine ci (va_runV (As := []) (rest := []) ⟨hx, hb, hml, hown, hts⟩ (c_X7_isRow l G σ r6 hC _) (cwV 0 hts gX7_reads_X7_isRow rfl rfl rfl (by decide +kernel) ⟨Nat.le_of_ble_eq_true rfl, Nat.le_of_ble_eq_true rfl⟩) (preV hK hP hD hS hA hX (va_recv hK hP (ci := 7) (q0 := 13) rfl rfl)) rfl rfl hl.1 rfl (lv_room (Nat.le_of_ble_eq_true rfl)) dX7_reads_37 ⟨Nat.le_of_ble_eq_true rfl, Nat.le_of_ble_eq_true rfl⟩) hD hS hA (fun H locs hP hD hS => ?_)
      refine lv_istore_n (lv' := [(2, .int r6.1), (0, .ref (aD G 43)), (1, .int x1)]) hx hb dX7_reads_40 rfl hl (by decide) rfl (fun ls hl => ?_)
      refine lv_iinc (v := (x1 + (1 : Int32))) (lv' := [(1, .int (x1 + (1 : Int32))), (2, .int r6.1), (0, .ref (aD G 43))]) hx hb dX7_reads_41 hl (k := 2) rfl rfl (by decide) rfl (fun ls hl => ?_)
      refine lv_aload_n hx hb dX7_reads_44 rfl (lv_at hl 2 rfl) ?_
      obtain ⟨r7, hC, hE⟩ := bnd_some hE
      refine cv (va_runV (As := []) (rest := []) ⟨hx, hb, hml, hown, hts⟩ (c_X7_skips l G r6.2 r7 hC _) (cwV 0 hts gX7_reads_X7_skips rfl rfl rfl (by decide +kernel) ⟨Nat.le_of_ble_eq_true rfl, Nat.le_of_ble_eq_true rfl⟩) (preV hK hP hD hS hA hX (va_recv hK hP (ci := 7) (q0 := 13) rfl rfl)) rfl rfl hl.1 rfl (lv_room (Nat.le_of_ble_eq_true rfl)) dX7_reads_45 ⟨Nat.le_of_ble_eq_true rfl, Nat.le_of_ble_eq_true rfl⟩) hD hS hA (fun H locs hP hD hS => ?_)
      refine lv_goto (tgt := 17) hx hb dX7_reads_48 (by decide) ?_
      exact hN17 _ (Option.some.inj hE).symm _ _ _ hP hD hS (lv_sub hl [2, 0, 1] rfl)
    refine lv_iload_n hx hb dX7_reads_17 rfl (lv_at hl 2 rfl) ?_
    refine lv_if_eq (tgt := 51) hx hb dX7_reads_18 (by decide) (fun c_ => ?_) (fun c_ => ?_)
    · have hE := ip c_ hE
      have e9 := hY17 _ (Option.some.inj hE).symm
      have hE := hE17
      rw [← e9] at hE
      exact J_51 v17.1 v17.2.1 v17.2.2 _ _ _ hP hD hS (lv_sub hl [0, 1, 2] rfl) hE
    · have hE := im c_ hE
      refine lv_aload_n hx hb dX7_reads_21 rfl (lv_at hl 0 rfl) ?_
      refine va_get (ci := 7) (v := .int (gI v17.2.2 2)) (C := RX7) (T := TX7) (N := 17) hx hb hts (fun _ h => List.mem_cons_of_mem _ (List.mem_append_right _ h)) hown hK hP 13 rfl rfl 8 (by decide) (hts (.fieldLink RX7 170 "FillCellsModel" "at" "I") (List.mem_of_getElem? (i := 1) rfl)) (fun _ h9 => h9) rfl dX7_reads_22 ?_
      refine lv_aload_n hx hb dX7_reads_25 rfl (lv_at hl 0 rfl) ?_
      refine va_get (ci := 7) (v := .int (gI v17.2.2 1)) (C := RX7) (T := TX7) (N := 17) hx hb hts (fun _ h => List.mem_cons_of_mem _ (List.mem_append_right _ h)) hown hK hP 13 rfl rfl 7 (by decide) (hts (.fieldLink RX7 167 "FillCellsModel" "typed" "I") (List.mem_of_getElem? (i := 2) rfl)) (fun _ h9 => h9) rfl dX7_reads_26 ?_
      refine lv_icmp_lt (tgt := 36) hx hb dX7_reads_29 (by decide) (fun c_ => ?_) (fun c_ => ?_)
      · have hE := ip c_ hE
        exact J_36 v17.1 v17.2.2 _ _ _ hP hD hS (lv_sub hl [0, 1] rfl) hE
      · have hE := im c_ hE
        refine lv_iload_n hx hb dX7_reads_32 rfl (lv_at hl 1 rfl) ?_
        refine lv_if_ne (tgt := 51) hx hb dX7_reads_33 (by decide) (fun c_ => ?_) (fun c_ => ?_)
        · have hE := im c_ hE
          have e9 := hY17 _ (Option.some.inj hE).symm
          have hE := hE17
          rw [← e9] at hE
          exact J_51 v17.1 v17.2.1 v17.2.2 _ _ _ hP hD hS (lv_sub hl [0, 1, 2] rfl) hE
        · have hE := ip c_ hE
          exact J_36 v17.1 v17.2.2 _ _ _ hP hD hS (lv_sub hl [0, 1] rfl) hE
  refine lv_aload_n hx hb dX7_reads_0 rfl (lv_at hl 0 rfl) ?_
  obtain ⟨r1, hC, hE⟩ := bnd_some hE
  refine cv (va_runV (As := []) (rest := []) ⟨hx, hb, hml, hown, hts⟩ (c_X7_aside l G σ r1 hC _) (cwV 0 hts gX7_reads_X7_aside rfl rfl rfl (by decide +kernel) ⟨Nat.le_of_ble_eq_true rfl, Nat.le_of_ble_eq_true rfl⟩) (preV hK hP hD hS hA hX (va_recv hK hP (ci := 7) (q0 := 13) rfl rfl)) rfl rfl hl.1 rfl (lv_room (Nat.le_of_ble_eq_true rfl)) dX7_reads_1 ⟨Nat.le_of_ble_eq_true rfl, Nat.le_of_ble_eq_true rfl⟩) hD hS hA (fun H locs hP hD hS => ?_)
  refine lv_iconst (v := (0 : Int32)) hx hb dX7_reads_4 (by decide) ?_
  refine lv_istore_n (lv' := [(1, .int (0 : Int32)), (0, .ref (aD G 43))]) hx hb dX7_reads_5 rfl hl (by decide) rfl (fun ls hl => ?_)
  refine lv_aload_n hx hb dX7_reads_6 rfl (lv_at hl 1 rfl) ?_
  refine lv_iconst (v := (0 : Int32)) hx hb dX7_reads_7 (by decide) ?_
  refine va_put (ci := 7) (v := .int (0 : Int32)) (ty := .int) (C := RX7) (T := TX7) (N := 17) hx hb hts (fun _ h => List.mem_cons_of_mem _ (List.mem_append_right _ h)) tyX7 tyX7_ok nmX7 hown hK hP hD hS 13 rfl rfl 8 (by decide) (hts (.fieldLink RX7 170 "FillCellsModel" "at" "I") (List.mem_of_getElem? (i := 1) rfl)) (fun _ h9 => h9) rfl (by decide +kernel) rfl rfl (Nat.le_of_ble_eq_true rfl) dX7_reads_8 (fun H locs hP hD hS => ?_)
  have hP : va_P G.1 vwCl (wM G (sI r1 2 (0 : Int32))) H := hP
  have hD : va_D A (wM G (sI r1 2 (0 : Int32))) := hD
  refine lv_aload_n hx hb dX7_reads_11 rfl (lv_at hl 1 rfl) ?_
  obtain ⟨r2, hC, hE⟩ := bnd_some hE
  refine cv (va_runV (As := []) (rest := []) ⟨hx, hb, hml, hown, hts⟩ (c_X7_skips l G (sI r1 2 (0 : Int32)) r2 hC _) (cwV 0 hts gX7_reads_X7_skips rfl rfl rfl (by decide +kernel) ⟨Nat.le_of_ble_eq_true rfl, Nat.le_of_ble_eq_true rfl⟩) (preV hK hP hD hS hA hX (va_recv hK hP (ci := 7) (q0 := 13) rfl rfl)) rfl rfl hl.1 rfl (lv_room (Nat.le_of_ble_eq_true rfl)) dX7_reads_12 ⟨Nat.le_of_ble_eq_true rfl, Nat.le_of_ble_eq_true rfl⟩) hD hS hA (fun H locs hP hD hS => ?_)
  refine lv_iconst (v := (1 : Int32)) hx hb dX7_reads_15 (by decide) ?_
  refine lv_istore_n (lv' := [(2, .int (1 : Int32)), (1, .int (0 : Int32)), (0, .ref (aD G 43))]) hx hb dX7_reads_16 rfl hl (by decide) rfl (fun ls hl => ?_)
  exact J_17 (0 : Int32) (1 : Int32) r2 _ _ _ hP hD hS (lv_sub hl [2, 1, 0] rfl) hE
abbrev rmX7_toldOf : Room := { frames := 0, cells := 0, slots := 0, locals := 0 }

def f_X7_toldOf (x1 : Int32) (σ : St) : Option Int32 := if x1 = (0 : Int32) then (gd x1 3 (some (rd σ 4 x1))) else (if x1 = (1 : Int32) then (gd x1 3 (some (rd σ 4 x1))) else (if x1 = (2 : Int32) then (gd x1 3 (some (rd σ 4 x1))) else (if x1 = (3 : Int32) then (some (gI σ 1)) else (if x1 = (4 : Int32) then (gd (x1 - (4 : Int32)) 8 (some (rd σ 3 (x1 - (4 : Int32))))) else (if x1 = (5 : Int32) then (gd (x1 - (4 : Int32)) 8 (some (rd σ 3 (x1 - (4 : Int32))))) else (if x1 = (6 : Int32) then (gd (x1 - (4 : Int32)) 8 (some (rd σ 3 (x1 - (4 : Int32))))) else (if x1 = (7 : Int32) then (gd (x1 - (4 : Int32)) 8 (some (rd σ 3 (x1 - (4 : Int32))))) else (if x1 = (8 : Int32) then (gd (7 : Int32) 8 (some (rd σ 3 (7 : Int32)))) else (if x1 = (9 : Int32) then (some (gI σ 0)) else (gd (x1 - (4 : Int32)) 8 (some (rd σ 3 (x1 - (4 : Int32))))))))))))))
set_option maxHeartbeats 4000000 in
set_option maxRecDepth 100000 in
theorem c_X7_toldOf (l : Launch) (G : EV)  (x1 : Int32) (σ : St) (r : Int32) (hE : f_X7_toldOf x1 σ = some r) : MetI l G yX7_toldOf wsX7_toldOf rmX7_toldOf [.ref (aD G 43), .int x1] (wM G σ) r (wM G σ) := by
  refine Met.of0 (Qf := PI G r (wM G σ)) (cc := cX7_toldOf) (maxL := 2) (ret := (some .int)) (by decide) rfl (Nat.le_of_ble_eq_true rfl) ?_
  intro p e s m below meth c args A hx hb hr hts hown hlocks hml hin0 hA hS hP hK hD hX ls hl
  have hl : lv_has ls 2 [(0, .ref (aD G 43)), (1, .int x1)] := hl
  generalize hQ : MQ below (PI G r (wM G σ) A) args s 0 0 A = Q
  unfold f_X7_toldOf at hE
  refine lv_iload_n hx hb dX7_toldOf_0 rfl (lv_at hl 1 rfl) ?_
  by_cases c_0 : x1 = (0 : Int32)
  · have hE := ip c_0 hE
    refine lv_tableIn (off := 55) (tgt := 56) hx hb dX7_toldOf_1 (by rw [c_0]; decide) (by rw [c_0]; decide) (by rw [c_0]; rfl) (by decide) ?_
    refine lv_aload_n hx hb dX7_toldOf_56 rfl (lv_at hl 0 rfl) ?_
    refine va_get (ci := 7) (v := .ref (aD G 34)) (C := RX7) (T := TX7) (N := 17) hx hb hts (fun _ h => List.mem_cons_of_mem _ (List.mem_append_right _ h)) hown hK hP 13 rfl rfl 5 (by decide) (hts (.fieldLink RX7 22 "FillCellsModel" "refused" "[I") (List.mem_of_getElem? (i := 1) rfl)) (fun _ h9 => h9) rfl dX7_toldOf_57 ?_
    refine lv_iload_n hx hb dX7_toldOf_60 rfl (lv_at hl 1 rfl) ?_
    obtain ⟨h_i, hE⟩ := gd_some hE
    refine ldM hx hb hK hP 4 (by decide) h_i dX7_toldOf_61 ?_
    rw [← hQ, ← Option.some.inj hE]
    exact ri hx hb hr hlocks hK hP hD hS dX7_toldOf_62
  · have hE := im c_0 hE
    by_cases c_1 : x1 = (1 : Int32)
    · have hE := ip c_1 hE
      refine lv_tableIn (off := 55) (tgt := 56) hx hb dX7_toldOf_1 (by rw [c_1]; decide) (by rw [c_1]; decide) (by rw [c_1]; rfl) (by decide) ?_
      refine lv_aload_n hx hb dX7_toldOf_56 rfl (lv_at hl 0 rfl) ?_
      refine va_get (ci := 7) (v := .ref (aD G 34)) (C := RX7) (T := TX7) (N := 17) hx hb hts (fun _ h => List.mem_cons_of_mem _ (List.mem_append_right _ h)) hown hK hP 13 rfl rfl 5 (by decide) (hts (.fieldLink RX7 22 "FillCellsModel" "refused" "[I") (List.mem_of_getElem? (i := 1) rfl)) (fun _ h9 => h9) rfl dX7_toldOf_57 ?_
      refine lv_iload_n hx hb dX7_toldOf_60 rfl (lv_at hl 1 rfl) ?_
      obtain ⟨h_i, hE⟩ := gd_some hE
      refine ldM hx hb hK hP 4 (by decide) h_i dX7_toldOf_61 ?_
      rw [← hQ, ← Option.some.inj hE]
      exact ri hx hb hr hlocks hK hP hD hS dX7_toldOf_62
    · have hE := im c_1 hE
      by_cases c_2 : x1 = (2 : Int32)
      · have hE := ip c_2 hE
        refine lv_tableIn (off := 55) (tgt := 56) hx hb dX7_toldOf_1 (by rw [c_2]; decide) (by rw [c_2]; decide) (by rw [c_2]; rfl) (by decide) ?_
        refine lv_aload_n hx hb dX7_toldOf_56 rfl (lv_at hl 0 rfl) ?_
        refine va_get (ci := 7) (v := .ref (aD G 34)) (C := RX7) (T := TX7) (N := 17) hx hb hts (fun _ h => List.mem_cons_of_mem _ (List.mem_append_right _ h)) hown hK hP 13 rfl rfl 5 (by decide) (hts (.fieldLink RX7 22 "FillCellsModel" "refused" "[I") (List.mem_of_getElem? (i := 1) rfl)) (fun _ h9 => h9) rfl dX7_toldOf_57 ?_
        refine lv_iload_n hx hb dX7_toldOf_60 rfl (lv_at hl 1 rfl) ?_
        obtain ⟨h_i, hE⟩ := gd_some hE
        refine ldM hx hb hK hP 4 (by decide) h_i dX7_toldOf_61 ?_
        rw [← hQ, ← Option.some.inj hE]
        exact ri hx hb hr hlocks hK hP hD hS dX7_toldOf_62
      · have hE := im c_2 hE
        by_cases c_3 : x1 = (3 : Int32)
        · have hE := ip c_3 hE
          refine lv_tableIn (off := 62) (tgt := 63) hx hb dX7_toldOf_1 (by rw [c_3]; decide) (by rw [c_3]; decide) (by rw [c_3]; rfl) (by decide) ?_
          refine lv_aload_n hx hb dX7_toldOf_63 rfl (lv_at hl 0 rfl) ?_
          refine va_get (ci := 7) (v := .int (gI σ 1)) (C := RX7) (T := TX7) (N := 17) hx hb hts (fun _ h => List.mem_cons_of_mem _ (List.mem_append_right _ h)) hown hK hP 13 rfl rfl 7 (by decide) (hts (.fieldLink RX7 167 "FillCellsModel" "typed" "I") (List.mem_of_getElem? (i := 2) rfl)) (fun _ h9 => h9) rfl dX7_toldOf_64 ?_
          rw [← hQ, ← Option.some.inj hE]
          exact ri hx hb hr hlocks hK hP hD hS dX7_toldOf_67
        · have hE := im c_3 hE
          by_cases c_4 : x1 = (4 : Int32)
          · have hE := ip c_4 hE
            refine lv_tableIn (off := 80) (tgt := 81) hx hb dX7_toldOf_1 (by rw [c_4]; decide) (by rw [c_4]; decide) (by rw [c_4]; rfl) (by decide) ?_
            refine lv_aload_n hx hb dX7_toldOf_81 rfl (lv_at hl 0 rfl) ?_
            refine va_get (ci := 7) (v := .ref (aD G 33)) (C := RX7) (T := TX7) (N := 17) hx hb hts (fun _ h => List.mem_cons_of_mem _ (List.mem_append_right _ h)) hown hK hP 13 rfl rfl 4 (by decide) (hts (.fieldLink RX7 19 "FillCellsModel" "rules" "[I") (List.mem_of_getElem? (i := 3) rfl)) (fun _ h9 => h9) rfl dX7_toldOf_82 ?_
            refine lv_iload_n hx hb dX7_toldOf_85 rfl (lv_at hl 1 rfl) ?_
            refine lv_iconst (v := (4 : Int32)) hx hb dX7_toldOf_86 (by decide) ?_
            refine lv_isub hx hb dX7_toldOf_87 ?_
            obtain ⟨h_i, hE⟩ := gd_some hE
            refine ldM hx hb hK hP 3 (by decide) h_i dX7_toldOf_88 ?_
            rw [← hQ, ← Option.some.inj hE]
            exact ri hx hb hr hlocks hK hP hD hS dX7_toldOf_89
          · have hE := im c_4 hE
            by_cases c_5 : x1 = (5 : Int32)
            · have hE := ip c_5 hE
              refine lv_tableIn (off := 80) (tgt := 81) hx hb dX7_toldOf_1 (by rw [c_5]; decide) (by rw [c_5]; decide) (by rw [c_5]; rfl) (by decide) ?_
              refine lv_aload_n hx hb dX7_toldOf_81 rfl (lv_at hl 0 rfl) ?_
              refine va_get (ci := 7) (v := .ref (aD G 33)) (C := RX7) (T := TX7) (N := 17) hx hb hts (fun _ h => List.mem_cons_of_mem _ (List.mem_append_right _ h)) hown hK hP 13 rfl rfl 4 (by decide) (hts (.fieldLink RX7 19 "FillCellsModel" "rules" "[I") (List.mem_of_getElem? (i := 3) rfl)) (fun _ h9 => h9) rfl dX7_toldOf_82 ?_
              refine lv_iload_n hx hb dX7_toldOf_85 rfl (lv_at hl 1 rfl) ?_
              refine lv_iconst (v := (4 : Int32)) hx hb dX7_toldOf_86 (by decide) ?_
              refine lv_isub hx hb dX7_toldOf_87 ?_
              obtain ⟨h_i, hE⟩ := gd_some hE
              refine ldM hx hb hK hP 3 (by decide) h_i dX7_toldOf_88 ?_
              rw [← hQ, ← Option.some.inj hE]
              exact ri hx hb hr hlocks hK hP hD hS dX7_toldOf_89
            · have hE := im c_5 hE
              by_cases c_6 : x1 = (6 : Int32)
              · have hE := ip c_6 hE
                refine lv_tableIn (off := 80) (tgt := 81) hx hb dX7_toldOf_1 (by rw [c_6]; decide) (by rw [c_6]; decide) (by rw [c_6]; rfl) (by decide) ?_
                refine lv_aload_n hx hb dX7_toldOf_81 rfl (lv_at hl 0 rfl) ?_
                refine va_get (ci := 7) (v := .ref (aD G 33)) (C := RX7) (T := TX7) (N := 17) hx hb hts (fun _ h => List.mem_cons_of_mem _ (List.mem_append_right _ h)) hown hK hP 13 rfl rfl 4 (by decide) (hts (.fieldLink RX7 19 "FillCellsModel" "rules" "[I") (List.mem_of_getElem? (i := 3) rfl)) (fun _ h9 => h9) rfl dX7_toldOf_82 ?_
                refine lv_iload_n hx hb dX7_toldOf_85 rfl (lv_at hl 1 rfl) ?_
                refine lv_iconst (v := (4 : Int32)) hx hb dX7_toldOf_86 (by decide) ?_
                refine lv_isub hx hb dX7_toldOf_87 ?_
                obtain ⟨h_i, hE⟩ := gd_some hE
                refine ldM hx hb hK hP 3 (by decide) h_i dX7_toldOf_88 ?_
                rw [← hQ, ← Option.some.inj hE]
                exact ri hx hb hr hlocks hK hP hD hS dX7_toldOf_89
              · have hE := im c_6 hE
                by_cases c_7 : x1 = (7 : Int32)
                · have hE := ip c_7 hE
                  refine lv_tableIn (off := 80) (tgt := 81) hx hb dX7_toldOf_1 (by rw [c_7]; decide) (by rw [c_7]; decide) (by rw [c_7]; rfl) (by decide) ?_
                  refine lv_aload_n hx hb dX7_toldOf_81 rfl (lv_at hl 0 rfl) ?_
                  refine va_get (ci := 7) (v := .ref (aD G 33)) (C := RX7) (T := TX7) (N := 17) hx hb hts (fun _ h => List.mem_cons_of_mem _ (List.mem_append_right _ h)) hown hK hP 13 rfl rfl 4 (by decide) (hts (.fieldLink RX7 19 "FillCellsModel" "rules" "[I") (List.mem_of_getElem? (i := 3) rfl)) (fun _ h9 => h9) rfl dX7_toldOf_82 ?_
                  refine lv_iload_n hx hb dX7_toldOf_85 rfl (lv_at hl 1 rfl) ?_
                  refine lv_iconst (v := (4 : Int32)) hx hb dX7_toldOf_86 (by decide) ?_
                  refine lv_isub hx hb dX7_toldOf_87 ?_
                  obtain ⟨h_i, hE⟩ := gd_some hE
                  refine ldM hx hb hK hP 3 (by decide) h_i dX7_toldOf_88 ?_
                  rw [← hQ, ← Option.some.inj hE]
                  exact ri hx hb hr hlocks hK hP hD hS dX7_toldOf_89
                · have hE := im c_7 hE
                  by_cases c_8 : x1 = (8 : Int32)
                  · have hE := ip c_8 hE
                    refine lv_tableIn (off := 67) (tgt := 68) hx hb dX7_toldOf_1 (by rw [c_8]; decide) (by rw [c_8]; decide) (by rw [c_8]; rfl) (by decide) ?_
                    refine lv_aload_n hx hb dX7_toldOf_68 rfl (lv_at hl 0 rfl) ?_
                    refine va_get (ci := 7) (v := .ref (aD G 33)) (C := RX7) (T := TX7) (N := 17) hx hb hts (fun _ h => List.mem_cons_of_mem _ (List.mem_append_right _ h)) hown hK hP 13 rfl rfl 4 (by decide) (hts (.fieldLink RX7 19 "FillCellsModel" "rules" "[I") (List.mem_of_getElem? (i := 3) rfl)) (fun _ h9 => h9) rfl dX7_toldOf_69 ?_
                    refine lv_bipush (v := (7 : Int32)) hx hb dX7_toldOf_72 (by decide) ?_
                    obtain ⟨h_i, hE⟩ := gd_some hE
                    refine ldM hx hb hK hP 3 (by decide) h_i dX7_toldOf_74 ?_
                    rw [← hQ, ← Option.some.inj hE]
                    exact ri hx hb hr hlocks hK hP hD hS dX7_toldOf_75
                  · have hE := im c_8 hE
                    by_cases c_9 : x1 = (9 : Int32)
                    · have hE := ip c_9 hE
                      refine lv_tableIn (off := 75) (tgt := 76) hx hb dX7_toldOf_1 (by rw [c_9]; decide) (by rw [c_9]; decide) (by rw [c_9]; rfl) (by decide) ?_
                      refine lv_aload_n hx hb dX7_toldOf_76 rfl (lv_at hl 0 rfl) ?_
                      refine va_get (ci := 7) (v := .int (gI σ 0)) (C := RX7) (T := TX7) (N := 17) hx hb hts (fun _ h => List.mem_cons_of_mem _ (List.mem_append_right _ h)) hown hK hP 13 rfl rfl 2 (by decide) (hts (.fieldLink RX7 53 "FillCellsModel" "known" "I") (List.mem_of_getElem? (i := 4) rfl)) (fun _ h9 => h9) rfl dX7_toldOf_77 ?_
                      rw [← hQ, ← Option.some.inj hE]
                      exact ri hx hb hr hlocks hK hP hD hS dX7_toldOf_80
                    · have hE := im c_9 hE
                      refine lv_tableOut (tgt := 81) hx hb dX7_toldOf_1 (by have q0 := lv_neT (a := 0) c_0 (by decide); have q1 := lv_neT (a := 1) c_1 (by decide); have q2 := lv_neT (a := 2) c_2 (by decide); have q3 := lv_neT (a := 3) c_3 (by decide); have q4 := lv_neT (a := 4) c_4 (by decide); have q5 := lv_neT (a := 5) c_5 (by decide); have q6 := lv_neT (a := 6) c_6 (by decide); have q7 := lv_neT (a := 7) c_7 (by decide); have q8 := lv_neT (a := 8) c_8 (by decide); have q9 := lv_neT (a := 9) c_9 (by decide); omega) (by decide) ?_
                      refine lv_aload_n hx hb dX7_toldOf_81 rfl (lv_at hl 0 rfl) ?_
                      refine va_get (ci := 7) (v := .ref (aD G 33)) (C := RX7) (T := TX7) (N := 17) hx hb hts (fun _ h => List.mem_cons_of_mem _ (List.mem_append_right _ h)) hown hK hP 13 rfl rfl 4 (by decide) (hts (.fieldLink RX7 19 "FillCellsModel" "rules" "[I") (List.mem_of_getElem? (i := 3) rfl)) (fun _ h9 => h9) rfl dX7_toldOf_82 ?_
                      refine lv_iload_n hx hb dX7_toldOf_85 rfl (lv_at hl 1 rfl) ?_
                      refine lv_iconst (v := (4 : Int32)) hx hb dX7_toldOf_86 (by decide) ?_
                      refine lv_isub hx hb dX7_toldOf_87 ?_
                      obtain ⟨h_i, hE⟩ := gd_some hE
                      refine ldM hx hb hK hP 3 (by decide) h_i dX7_toldOf_88 ?_
                      rw [← hQ, ← Option.some.inj hE]
                      exact ri hx hb hr hlocks hK hP hD hS dX7_toldOf_89
abbrev rmX7_told : Room := { frames := 1, cells := 0, slots := 0, locals := 22 }

def f_X7_told (x1 : Int32) (σ : St) : Option (Int32 × St) := bnd (f_X7_in x1 (0 : Int32) (9 : Int32)) (fun r1 => if r1 = 0 then (bnd (f_X7_refuses (-2 : Int32) σ) (fun r2 => some (r2.1, r2.2))) else (bnd (f_X7_toldOf x1 σ) (fun r3 => some (r3, σ))))
set_option maxHeartbeats 4000000 in
set_option maxRecDepth 100000 in
theorem c_X7_told (l : Launch) (G : EV)  (x1 : Int32) (σ : St) (r : (Int32 × St)) (hE : f_X7_told x1 σ = some r) : MetI l G yX7_told wsX7_told rmX7_told [.ref (aD G 43), .int x1] (wM G σ) r.1 (wM G r.2) := by
  refine Met.of0 (Qf := PI G r.1 (wM G r.2)) (cc := cX7_told) (maxL := 2) (ret := (some .int)) (by decide) rfl (Nat.le_of_ble_eq_true rfl) ?_
  intro p e s m below meth c args A hx hb hr hts hown hlocks hml hin0 hA hS hP hK hD hX ls hl
  have hl : lv_has ls 2 [(0, .ref (aD G 43)), (1, .int x1)] := hl
  generalize hQ : MQ below (PI G r.1 (wM G r.2) A) args s 0 0 A = Q
  unfold f_X7_told at hE
  refine lv_iload_n hx hb dX7_told_0 rfl (lv_at hl 1 rfl) ?_
  refine lv_iconst (v := (0 : Int32)) hx hb dX7_told_1 (by decide) ?_
  refine lv_bipush (v := (9 : Int32)) hx hb dX7_told_2 (by decide) ?_
  obtain ⟨r1, hC, hE⟩ := bnd_some hE
  refine ci (va_runS (As := [.int x1, .int (0 : Int32), .int (9 : Int32)]) (rest := []) ⟨hx, hb, hml, hown, hts⟩ (c_X7_in l G x1 (0 : Int32) (9 : Int32) σ r1 hC _) (va_cwS 3 hts gX7_told_X7_in rfl rfl rfl (by decide +kernel) ⟨Nat.le_of_ble_eq_true rfl, Nat.le_of_ble_eq_true rfl⟩) (preS hK hP hD hS hA hX) rfl rfl hl.1 rfl (lv_room (Nat.le_of_ble_eq_true rfl)) dX7_told_4 ⟨Nat.le_of_ble_eq_true rfl, Nat.le_of_ble_eq_true rfl⟩) hD hS hA (fun H locs hP hD hS => ?_)
  refine lv_if_eq (tgt := 18) hx hb dX7_told_7 (by decide) (fun c_ => ?_) (fun c_ => ?_)
  · have hE := ip c_ hE
    refine lv_aload_n hx hb dX7_told_18 rfl (lv_at hl 0 rfl) ?_
    refine lv_bipush (v := (-2 : Int32)) hx hb dX7_told_19 (by decide) ?_
    obtain ⟨r2, hC, hE⟩ := bnd_some hE
    refine ci (va_runV (As := [.int (-2 : Int32)]) (rest := []) ⟨hx, hb, hml, hown, hts⟩ (c_X7_refuses l G (-2 : Int32) σ r2 hC _) (cwV 1 hts gX7_told_X7_refuses rfl rfl rfl (by decide +kernel) ⟨Nat.le_of_ble_eq_true rfl, Nat.le_of_ble_eq_true rfl⟩) (preV hK hP hD hS hA hX (va_recv hK hP (ci := 7) (q0 := 13) rfl rfl)) rfl rfl hl.1 rfl (lv_room (Nat.le_of_ble_eq_true rfl)) dX7_told_21 ⟨Nat.le_of_ble_eq_true rfl, Nat.le_of_ble_eq_true rfl⟩) hD hS hA (fun H locs hP hD hS => ?_)
    rw [← hQ, ← Option.some.inj hE]
    exact ri hx hb hr hlocks hK hP hD hS dX7_told_24
  · have hE := im c_ hE
    refine lv_aload_n hx hb dX7_told_10 rfl (lv_at hl 0 rfl) ?_
    refine lv_iload_n hx hb dX7_told_11 rfl (lv_at hl 1 rfl) ?_
    obtain ⟨r3, hC, hE⟩ := bnd_some hE
    refine ci (va_runV (As := [.int x1]) (rest := []) ⟨hx, hb, hml, hown, hts⟩ (c_X7_toldOf l G x1 σ r3 hC _) (cwV 1 hts gX7_told_X7_toldOf rfl rfl rfl (by decide +kernel) ⟨Nat.le_of_ble_eq_true rfl, Nat.le_of_ble_eq_true rfl⟩) (preV hK hP hD hS hA hX (va_recv hK hP (ci := 7) (q0 := 13) rfl rfl)) rfl rfl hl.1 rfl (lv_room (Nat.le_of_ble_eq_true rfl)) dX7_told_12 ⟨Nat.le_of_ble_eq_true rfl, Nat.le_of_ble_eq_true rfl⟩) hD hS hA (fun H locs hP hD hS => ?_)
    refine lv_goto (tgt := 24) hx hb dX7_told_15 (by decide) ?_
    rw [← hQ, ← Option.some.inj hE]
    exact ri hx hb hr hlocks hK hP hD hS dX7_told_24
abbrev rmX7_digest : Room := { frames := 3, cells := 0, slots := 0, locals := 67 }
def f_X7_digest_L145 (σ : St) (v145 : Int64 × Int32) : Option (((Int64)) ⊕ (Int64 × Int32)) := if (4 : Int32) ≤ v145.2 then (some (.inl (v145.1))) else (gd v145.2 4 (some (.inr ((((31 : Int64) * v145.1) + ((rd σ 10 v145.2).toInt64)), (v145.2 + (1 : Int32))))))
def f_X7_digest_J145 (x1 : Int64) (x3 : Int32) (σ : St) : Option (Int64 × St) := bnd (loopN (f_X7_digest_L145 σ) 4096 (x1, x3)) (fun y145 => some (y145, σ))
def f_X7_digest_J109 (x1 : Int64) (σ : St) : Option (Int64 × St) := bnd (f_X7_laysSums σ) (fun r1 => bnd (f_X7_windowsNow (1 : Int32) r1) (fun r2 => bnd (f_X7_windowsNow (2 : Int32) r1) (fun r3 => bnd (f_X7_laysBurdens r1) (fun r4 => f_X7_digest_J145 (((31 : Int64) * (((31 : Int64) * x1) + ((r2).toInt64))) + ((r3).toInt64)) (1 : Int32) r4))))
def f_X7_digest_J103 (x1 : Int64) (x3 : Int32) (σ : St) : Option (((Int64)) ⊕ (Int64 × Int32)) := some (.inr (x1, (x3 + (1 : Int32))))
def f_X7_digest_L71 (x3 : Int32) (σ : St) (v71 : Int64 × Int32) : Option (((Int64)) ⊕ (Int64 × Int32)) := if (5 : Int32) ≤ v71.2 then (some (.inl (v71.1))) else (gd (((80 : Int32) * v71.2) + x3) 400 (some (.inr ((((31 : Int64) * v71.1) + ((rd σ 0 (((80 : Int32) * v71.2) + x3)).toInt64)), (v71.2 + (1 : Int32))))))
def f_X7_digest_J71 (x1 : Int64) (x3 : Int32) (x4 : Int32) (σ : St) : Option (((Int64)) ⊕ (Int64 × Int32)) := bnd (loopN (f_X7_digest_L71 x3 σ) 4096 (x1, x4)) (fun y71 => f_X7_digest_J103 y71 x3 σ)
def f_X7_digest_L62 (σ : St) (v62 : Int64 × Int32) : Option (((Int64)) ⊕ (Int64 × Int32)) := if (80 : Int32) ≤ v62.2 then (some (.inl (v62.1))) else (f_X7_digest_J71 v62.1 v62.2 (0 : Int32) σ)
def f_X7_digest_J62 (x1 : Int64) (x3 : Int32) (σ : St) : Option (Int64 × St) := bnd (loopN (f_X7_digest_L62 σ) 4096 (x1, x3)) (fun y62 => f_X7_digest_J109 y62 σ)
def f_X7_digest_J60 (x1 : Int64) (σ : St) : Option (Int64 × St) := f_X7_digest_J62 x1 (0 : Int32) σ
def f_X7_digest_L33 (σ : St) (v33 : Int64 × Int32) : Option (((Int64)) ⊕ (Int64 × Int32)) := if (3 : Int32) ≤ v33.2 then (some (.inl (v33.1))) else (gd ((4 : Int32) + v33.2) 8 (some (.inr ((((31 : Int64) * v33.1) + ((rd σ 3 ((4 : Int32) + v33.2)).toInt64)), (v33.2 + (1 : Int32))))))
def f_X7_digest_J33 (x1 : Int64) (x3 : Int32) (σ : St) : Option (Int64 × St) := bnd (loopN (f_X7_digest_L33 σ) 4096 (x1, x3)) (fun y33 => f_X7_digest_J60 y33 σ)
def f_X7_digest_J31 (x1 : Int64) (σ : St) : Option (Int64 × St) := f_X7_digest_J33 x1 (0 : Int32) σ
def f_X7_digest_L6 (σ : St) (v6 : Int64 × Int32) : Option (((Int64)) ⊕ (Int64 × Int32)) := if (10 : Int32) ≤ v6.2 then (some (.inl (v6.1))) else (bnd (f_X7_toldOf v6.2 σ) (fun r5 => some (.inr ((((31 : Int64) * v6.1) + ((r5).toInt64)), (v6.2 + (1 : Int32))))))
def f_X7_digest_J6 (x1 : Int64) (x3 : Int32) (σ : St) : Option (Int64 × St) := bnd (loopN (f_X7_digest_L6 σ) 4096 (x1, x3)) (fun y6 => f_X7_digest_J31 y6 σ)
def f_X7_digest (σ : St) : Option (Int64 × St) := f_X7_digest_J6 (2081 : Int64) (0 : Int32) σ
set_option maxHeartbeats 4000000 in
set_option maxRecDepth 100000 in
theorem c_X7_digest (l : Launch) (G : EV)   (σ : St) (r : (Int64 × St)) (hE : f_X7_digest σ = some r) : MetL l G yX7_digest wsX7_digest rmX7_digest [.ref (aD G 43)] (wM G σ) r.1 (wM G r.2) := by
  refine Met.of0 (Qf := PL G r.1 (wM G r.2)) (cc := cX7_digest) (maxL := 5) (ret := (some .long)) (by decide) rfl (Nat.le_of_ble_eq_true rfl) ?_
  intro p e s m below meth c args A hx hb hr hts hown hlocks hml hin0 hA hS hP hK hD hX ls hl
  have hl : lv_has ls 5 [(0, .ref (aD G 43))] := hl
  generalize hQ : MQ below (PL G r.1 (wM G r.2) A) args s 0 0 A = Q
  unfold f_X7_digest at hE
  have J_145 : ∀ (x1 : Int64) (x3 : Int32) (σ : St) (H : Heap) (locs : List Loc) (ls : Array Slot), va_P G.1 vwCl (wM G σ) H → va_D A (wM G σ) → va_S A s.heap H locs → lv_has ls 5 [(0, .ref (aD G 43)), (1, .long x1), (3, .int x3)] → f_X7_digest_J145 x1 x3 σ = some r → W p l e rmX7_digest s m args below meth c H locs 0 0 Q (F0 m 145 ls []) := by
    intro x1 x3 σ H locs ls hP hD hS hl hE
    unfold f_X7_digest_J145 at hE
    obtain ⟨y145, hL, hE145⟩ := bnd_some hE
    refine loop_W (body := f_X7_digest_L145 σ) (y := y145) (P := fun v145 => ∀ (H : Heap) (locs : List Loc) (ls : Array Slot), va_P G.1 vwCl (wM G σ) H → va_D A (wM G σ) → va_S A s.heap H locs → lv_has ls 5 [(0, .ref (aD G 43)), (1, .long v145.1), (3, .int v145.2)] → W p l e rmX7_digest s m args below meth c H locs 0 0 Q (F0 m 145 ls [])) ?_ _ _ hL H locs ls hP hD hS hl
    clear hP hD hS hl hE hL
    intro v145 t145 hE hN145 hY145
    intro H locs ls hP hD hS hl
    unfold f_X7_digest_L145 at hE
    refine lv_iload_n hx hb dX7_digest_145 rfl (lv_at hl 2 rfl) ?_
    refine lv_iconst (v := (4 : Int32)) hx hb dX7_digest_146 (by decide) ?_
    refine lv_icmp_ge (tgt := 170) hx hb dX7_digest_147 (by decide) (fun c_ => ?_) (fun c_ => ?_)
    · have hE := ip c_ hE
      have e9 := hY145 _ (Option.some.inj hE).symm
      have hE := hE145
      rw [← e9] at hE
      refine lv_lload_n hx hb dX7_digest_170 rfl (lv_at hl 1 rfl) ?_
      rw [← hQ, ← Option.some.inj hE]
      exact rl hx hb hr hlocks hK hP hD hS dX7_digest_171
    · have hE := im c_ hE
      refine lv_ldc2 (v := (31 : Int64)) hx hb hown (hts (.constantLong RX7 191 (31)) (List.mem_of_getElem? (i := 2) rfl)) dX7_digest_150 ?_
      refine lv_lload_n hx hb dX7_digest_153 rfl (lv_at hl 1 rfl) ?_
      refine lv_lmul hx hb dX7_digest_154 ?_
      refine lv_aload_n hx hb dX7_digest_155 rfl (lv_at hl 0 rfl) ?_
      refine va_get (ci := 7) (v := .ref (aD G 40)) (C := RX7) (T := TX7) (N := 17) hx hb hts (fun _ h => List.mem_cons_of_mem _ (List.mem_append_right _ h)) hown hK hP 13 rfl rfl 14 (by decide) (hts (.fieldLink RX7 40 "FillCellsModel" "burdens" "[I") (List.mem_of_getElem? (i := 5) rfl)) (fun _ h9 => h9) rfl dX7_digest_156 ?_
      refine lv_iload_n hx hb dX7_digest_159 rfl (lv_at hl 2 rfl) ?_
      obtain ⟨h_i, hE⟩ := gd_some hE
      refine ldM hx hb hK hP 10 (by decide) h_i dX7_digest_160 ?_
      refine lv_i2l hx hb dX7_digest_161 rfl ?_
      refine lv_ladd hx hb dX7_digest_162 ?_
      refine lv_lstore_n (lv' := [(1, .long (((31 : Int64) * v145.1) + ((rd σ 10 v145.2).toInt64))), (0, .ref (aD G 43)), (3, .int v145.2)]) hx hb dX7_digest_163 rfl hl (by decide) rfl (fun ls hl => ?_)
      refine lv_iinc (v := (v145.2 + (1 : Int32))) (lv' := [(3, .int (v145.2 + (1 : Int32))), (1, .long (((31 : Int64) * v145.1) + ((rd σ 10 v145.2).toInt64))), (0, .ref (aD G 43))]) hx hb dX7_digest_164 hl (k := 2) rfl rfl (by decide) rfl (fun ls hl => ?_)
      refine lv_goto (tgt := 145) hx hb dX7_digest_167 (by decide) ?_
      exact hN145 _ (Option.some.inj hE).symm _ _ _ hP hD hS (lv_sub hl [2, 1, 0] rfl)
  have J_109 : ∀ (x1 : Int64) (σ : St) (H : Heap) (locs : List Loc) (ls : Array Slot), va_P G.1 vwCl (wM G σ) H → va_D A (wM G σ) → va_S A s.heap H locs → lv_has ls 5 [(0, .ref (aD G 43)), (1, .long x1)] → f_X7_digest_J109 x1 σ = some r → W p l e rmX7_digest s m args below meth c H locs 0 0 Q (F0 m 109 ls []) := by
    intro x1 σ H locs ls hP hD hS hl hE
    unfold f_X7_digest_J109 at hE
    refine lv_aload_n hx hb dX7_digest_109 rfl (lv_at hl 0 rfl) ?_
    obtain ⟨r1, hC, hE⟩ := bnd_some hE
    refine cv (va_runV (As := []) (rest := []) ⟨hx, hb, hml, hown, hts⟩ (c_X7_laysSums l G σ r1 hC _) (cwV 0 hts gX7_digest_X7_laysSums rfl rfl rfl (by decide +kernel) ⟨Nat.le_of_ble_eq_true rfl, Nat.le_of_ble_eq_true rfl⟩) (preV hK hP hD hS hA hX (va_recv hK hP (ci := 7) (q0 := 13) rfl rfl)) rfl rfl hl.1 rfl (lv_room (Nat.le_of_ble_eq_true rfl)) dX7_digest_110 ⟨Nat.le_of_ble_eq_true rfl, Nat.le_of_ble_eq_true rfl⟩) hD hS hA (fun H locs hP hD hS => ?_)
    refine lv_ldc2 (v := (31 : Int64)) hx hb hown (hts (.constantLong RX7 191 (31)) (List.mem_of_getElem? (i := 2) rfl)) dX7_digest_113 ?_
    refine lv_lload_n hx hb dX7_digest_116 rfl (lv_at hl 1 rfl) ?_
    refine lv_lmul hx hb dX7_digest_117 ?_
    refine lv_aload_n hx hb dX7_digest_118 rfl (lv_at hl 0 rfl) ?_
    refine lv_iconst (v := (1 : Int32)) hx hb dX7_digest_119 (by decide) ?_
    obtain ⟨r2, hC, hE⟩ := bnd_some hE
    refine ci (va_runV (As := [.int (1 : Int32)]) (rest := [.long ((31 : Int64) * x1)]) ⟨hx, hb, hml, hown, hts⟩ (c_X7_windowsNow l G (1 : Int32) r1 r2 hC _) (cwV 1 hts gX7_digest_X7_windowsNow rfl rfl rfl (by decide +kernel) ⟨Nat.le_of_ble_eq_true rfl, Nat.le_of_ble_eq_true rfl⟩) (preV hK hP hD hS hA hX (va_recv hK hP (ci := 7) (q0 := 13) rfl rfl)) rfl rfl hl.1 rfl (lv_room (Nat.le_of_ble_eq_true rfl)) dX7_digest_120 ⟨Nat.le_of_ble_eq_true rfl, Nat.le_of_ble_eq_true rfl⟩) hD hS hA (fun H locs hP hD hS => ?_)
    refine lv_i2l hx hb dX7_digest_123 rfl ?_
    refine lv_ladd hx hb dX7_digest_124 ?_
    refine lv_lstore_n (lv' := [(1, .long (((31 : Int64) * x1) + ((r2).toInt64))), (0, .ref (aD G 43))]) hx hb dX7_digest_125 rfl hl (by decide) rfl (fun ls hl => ?_)
    refine lv_ldc2 (v := (31 : Int64)) hx hb hown (hts (.constantLong RX7 191 (31)) (List.mem_of_getElem? (i := 2) rfl)) dX7_digest_126 ?_
    refine lv_lload_n hx hb dX7_digest_129 rfl (lv_at hl 0 rfl) ?_
    refine lv_lmul hx hb dX7_digest_130 ?_
    refine lv_aload_n hx hb dX7_digest_131 rfl (lv_at hl 1 rfl) ?_
    refine lv_iconst (v := (2 : Int32)) hx hb dX7_digest_132 (by decide) ?_
    obtain ⟨r3, hC, hE⟩ := bnd_some hE
    refine ci (va_runV (As := [.int (2 : Int32)]) (rest := [.long ((31 : Int64) * (((31 : Int64) * x1) + ((r2).toInt64)))]) ⟨hx, hb, hml, hown, hts⟩ (c_X7_windowsNow l G (2 : Int32) r1 r3 hC _) (cwV 1 hts gX7_digest_X7_windowsNow rfl rfl rfl (by decide +kernel) ⟨Nat.le_of_ble_eq_true rfl, Nat.le_of_ble_eq_true rfl⟩) (preV hK hP hD hS hA hX (va_recv hK hP (ci := 7) (q0 := 13) rfl rfl)) rfl rfl hl.1 rfl (lv_room (Nat.le_of_ble_eq_true rfl)) dX7_digest_133 ⟨Nat.le_of_ble_eq_true rfl, Nat.le_of_ble_eq_true rfl⟩) hD hS hA (fun H locs hP hD hS => ?_)
    refine lv_i2l hx hb dX7_digest_136 rfl ?_
    refine lv_ladd hx hb dX7_digest_137 ?_
    refine lv_lstore_n (lv' := [(1, .long (((31 : Int64) * (((31 : Int64) * x1) + ((r2).toInt64))) + ((r3).toInt64))), (0, .ref (aD G 43))]) hx hb dX7_digest_138 rfl hl (by decide) rfl (fun ls hl => ?_)
    refine lv_aload_n hx hb dX7_digest_139 rfl (lv_at hl 1 rfl) ?_
    obtain ⟨r4, hC, hE⟩ := bnd_some hE
    refine cv (va_runV (As := []) (rest := []) ⟨hx, hb, hml, hown, hts⟩ (c_X7_laysBurdens l G r1 r4 hC _) (cwV 0 hts gX7_digest_X7_laysBurdens rfl rfl rfl (by decide +kernel) ⟨Nat.le_of_ble_eq_true rfl, Nat.le_of_ble_eq_true rfl⟩) (preV hK hP hD hS hA hX (va_recv hK hP (ci := 7) (q0 := 13) rfl rfl)) rfl rfl hl.1 rfl (lv_room (Nat.le_of_ble_eq_true rfl)) dX7_digest_140 ⟨Nat.le_of_ble_eq_true rfl, Nat.le_of_ble_eq_true rfl⟩) hD hS hA (fun H locs hP hD hS => ?_)
    refine lv_iconst (v := (1 : Int32)) hx hb dX7_digest_143 (by decide) ?_
    refine lv_istore_n (lv' := [(3, .int (1 : Int32)), (1, .long (((31 : Int64) * (((31 : Int64) * x1) + ((r2).toInt64))) + ((r3).toInt64))), (0, .ref (aD G 43))]) hx hb dX7_digest_144 rfl hl (by decide) rfl (fun ls hl => ?_)
    exact J_145 (((31 : Int64) * (((31 : Int64) * x1) + ((r2).toInt64))) + ((r3).toInt64)) (1 : Int32) r4 _ _ _ hP hD hS (lv_sub hl [2, 1, 0] rfl) hE
  have J_62 : ∀ (x1 : Int64) (x3 : Int32) (σ : St) (H : Heap) (locs : List Loc) (ls : Array Slot), va_P G.1 vwCl (wM G σ) H → va_D A (wM G σ) → va_S A s.heap H locs → lv_has ls 5 [(0, .ref (aD G 43)), (1, .long x1), (3, .int x3)] → f_X7_digest_J62 x1 x3 σ = some r → W p l e rmX7_digest s m args below meth c H locs 0 0 Q (F0 m 62 ls []) := by
    intro x1 x3 σ H locs ls hP hD hS hl hE
    unfold f_X7_digest_J62 at hE
    obtain ⟨y62, hL, hE62⟩ := bnd_some hE
    refine loop_W (body := f_X7_digest_L62 σ) (y := y62) (P := fun v62 => ∀ (H : Heap) (locs : List Loc) (ls : Array Slot), va_P G.1 vwCl (wM G σ) H → va_D A (wM G σ) → va_S A s.heap H locs → lv_has ls 5 [(0, .ref (aD G 43)), (1, .long v62.1), (3, .int v62.2)] → W p l e rmX7_digest s m args below meth c H locs 0 0 Q (F0 m 62 ls [])) ?_ _ _ hL H locs ls hP hD hS hl
    clear hP hD hS hl hE hL
    intro v62 t62 hE hN62 hY62
    intro H locs ls hP hD hS hl
    unfold f_X7_digest_L62 at hE
    have J_103 : ∀ (x1 : Int64) (x3 : Int32) (H : Heap) (locs : List Loc) (ls : Array Slot), va_P G.1 vwCl (wM G σ) H → va_D A (wM G σ) → va_S A s.heap H locs → lv_has ls 5 [(0, .ref (aD G 43)), (1, .long x1), (3, .int x3)] → f_X7_digest_J103 x1 x3 σ = some t62 → W p l e rmX7_digest s m args below meth c H locs 0 0 Q (F0 m 103 ls []) := by
      intro x1 x3 H locs ls hP hD hS hl hE
      unfold f_X7_digest_J103 at hE
      refine lv_iinc (v := (x3 + (1 : Int32))) (lv' := [(3, .int (x3 + (1 : Int32))), (0, .ref (aD G 43)), (1, .long x1)]) hx hb dX7_digest_103 hl (k := 2) rfl rfl (by decide) rfl (fun ls hl => ?_)
      refine lv_goto (tgt := 62) hx hb dX7_digest_106 (by decide) ?_
      exact hN62 _ (Option.some.inj hE).symm _ _ _ hP hD hS (lv_sub hl [1, 2, 0] rfl)
    have J_71 : ∀ (x1 : Int64) (x3 : Int32) (x4 : Int32) (H : Heap) (locs : List Loc) (ls : Array Slot), va_P G.1 vwCl (wM G σ) H → va_D A (wM G σ) → va_S A s.heap H locs → lv_has ls 5 [(0, .ref (aD G 43)), (1, .long x1), (3, .int x3), (4, .int x4)] → f_X7_digest_J71 x1 x3 x4 σ = some t62 → W p l e rmX7_digest s m args below meth c H locs 0 0 Q (F0 m 71 ls []) := by
      intro x1 x3 x4 H locs ls hP hD hS hl hE
      unfold f_X7_digest_J71 at hE
      obtain ⟨y71, hL, hE71⟩ := bnd_some hE
      refine loop_W (body := f_X7_digest_L71 x3 σ) (y := y71) (P := fun v71 => ∀ (H : Heap) (locs : List Loc) (ls : Array Slot), va_P G.1 vwCl (wM G σ) H → va_D A (wM G σ) → va_S A s.heap H locs → lv_has ls 5 [(0, .ref (aD G 43)), (1, .long v71.1), (3, .int x3), (4, .int v71.2)] → W p l e rmX7_digest s m args below meth c H locs 0 0 Q (F0 m 71 ls [])) ?_ _ _ hL H locs ls hP hD hS hl
      clear hP hD hS hl hE hL
      intro v71 t71 hE hN71 hY71
      intro H locs ls hP hD hS hl
      unfold f_X7_digest_L71 at hE
      refine lv_iload hx hb dX7_digest_71 (lv_at hl 3 rfl) ?_
      refine lv_iconst (v := (5 : Int32)) hx hb dX7_digest_73 (by decide) ?_
      refine lv_icmp_ge (tgt := 103) hx hb dX7_digest_74 (by decide) (fun c_ => ?_) (fun c_ => ?_)
      · have hE := ip c_ hE
        have e9 := hY71 _ (Option.some.inj hE).symm
        have hE := hE71
        rw [← e9] at hE
        exact J_103 v71.1 x3 _ _ _ hP hD hS (lv_sub hl [0, 1, 2] rfl) hE
      · have hE := im c_ hE
        refine lv_ldc2 (v := (31 : Int64)) hx hb hown (hts (.constantLong RX7 191 (31)) (List.mem_of_getElem? (i := 2) rfl)) dX7_digest_77 ?_
        refine lv_lload_n hx hb dX7_digest_80 rfl (lv_at hl 1 rfl) ?_
        refine lv_lmul hx hb dX7_digest_81 ?_
        refine lv_aload_n hx hb dX7_digest_82 rfl (lv_at hl 0 rfl) ?_
        refine va_get (ci := 7) (v := .ref (aD G 30)) (C := RX7) (T := TX7) (N := 17) hx hb hts (fun _ h => List.mem_cons_of_mem _ (List.mem_append_right _ h)) hown hK hP 13 rfl rfl 0 (by decide) (hts (.fieldLink RX7 7 "FillCellsModel" "s" "[I") (List.mem_of_getElem? (i := 4) rfl)) (fun _ h9 => h9) rfl dX7_digest_83 ?_
        refine lv_bipush (v := (80 : Int32)) hx hb dX7_digest_86 (by decide) ?_
        refine lv_iload hx hb dX7_digest_88 (lv_at hl 3 rfl) ?_
        refine lv_imul hx hb dX7_digest_90 ?_
        refine lv_iload_n hx hb dX7_digest_91 rfl (lv_at hl 2 rfl) ?_
        refine lv_iadd hx hb dX7_digest_92 ?_
        obtain ⟨h_i, hE⟩ := gd_some hE
        refine ldM hx hb hK hP 0 (by decide) h_i dX7_digest_93 ?_
        refine lv_i2l hx hb dX7_digest_94 rfl ?_
        refine lv_ladd hx hb dX7_digest_95 ?_
        refine lv_lstore_n (lv' := [(1, .long (((31 : Int64) * v71.1) + ((rd σ 0 (((80 : Int32) * v71.2) + x3)).toInt64))), (0, .ref (aD G 43)), (3, .int x3), (4, .int v71.2)]) hx hb dX7_digest_96 rfl hl (by decide) rfl (fun ls hl => ?_)
        refine lv_iinc (v := (v71.2 + (1 : Int32))) (lv' := [(4, .int (v71.2 + (1 : Int32))), (1, .long (((31 : Int64) * v71.1) + ((rd σ 0 (((80 : Int32) * v71.2) + x3)).toInt64))), (0, .ref (aD G 43)), (3, .int x3)]) hx hb dX7_digest_97 hl (k := 3) rfl rfl (by decide) rfl (fun ls hl => ?_)
        refine lv_goto (tgt := 71) hx hb dX7_digest_100 (by decide) ?_
        exact hN71 _ (Option.some.inj hE).symm _ _ _ hP hD hS (lv_sub hl [2, 1, 3, 0] rfl)
    refine lv_iload_n hx hb dX7_digest_62 rfl (lv_at hl 2 rfl) ?_
    refine lv_bipush (v := (80 : Int32)) hx hb dX7_digest_63 (by decide) ?_
    refine lv_icmp_ge (tgt := 109) hx hb dX7_digest_65 (by decide) (fun c_ => ?_) (fun c_ => ?_)
    · have hE := ip c_ hE
      have e9 := hY62 _ (Option.some.inj hE).symm
      have hE := hE62
      rw [← e9] at hE
      exact J_109 v62.1 σ _ _ _ hP hD hS (lv_sub hl [0, 1] rfl) hE
    · have hE := im c_ hE
      refine lv_iconst (v := (0 : Int32)) hx hb dX7_digest_68 (by decide) ?_
      refine lv_istore (lv' := [(4, .int (0 : Int32)), (0, .ref (aD G 43)), (1, .long v62.1), (3, .int v62.2)]) hx hb dX7_digest_69 hl (by decide) rfl (fun ls hl => ?_)
      exact J_71 v62.1 v62.2 (0 : Int32) _ _ _ hP hD hS (lv_sub hl [1, 2, 3, 0] rfl) hE
  have J_60 : ∀ (x1 : Int64) (σ : St) (H : Heap) (locs : List Loc) (ls : Array Slot), va_P G.1 vwCl (wM G σ) H → va_D A (wM G σ) → va_S A s.heap H locs → lv_has ls 5 [(0, .ref (aD G 43)), (1, .long x1)] → f_X7_digest_J60 x1 σ = some r → W p l e rmX7_digest s m args below meth c H locs 0 0 Q (F0 m 60 ls []) := by
    intro x1 σ H locs ls hP hD hS hl hE
    unfold f_X7_digest_J60 at hE
    refine lv_iconst (v := (0 : Int32)) hx hb dX7_digest_60 (by decide) ?_
    refine lv_istore_n (lv' := [(3, .int (0 : Int32)), (0, .ref (aD G 43)), (1, .long x1)]) hx hb dX7_digest_61 rfl hl (by decide) rfl (fun ls hl => ?_)
    exact J_62 x1 (0 : Int32) σ _ _ _ hP hD hS (lv_sub hl [1, 2, 0] rfl) hE
  have J_33 : ∀ (x1 : Int64) (x3 : Int32) (σ : St) (H : Heap) (locs : List Loc) (ls : Array Slot), va_P G.1 vwCl (wM G σ) H → va_D A (wM G σ) → va_S A s.heap H locs → lv_has ls 5 [(0, .ref (aD G 43)), (1, .long x1), (3, .int x3)] → f_X7_digest_J33 x1 x3 σ = some r → W p l e rmX7_digest s m args below meth c H locs 0 0 Q (F0 m 33 ls []) := by
    intro x1 x3 σ H locs ls hP hD hS hl hE
    unfold f_X7_digest_J33 at hE
    obtain ⟨y33, hL, hE33⟩ := bnd_some hE
    refine loop_W (body := f_X7_digest_L33 σ) (y := y33) (P := fun v33 => ∀ (H : Heap) (locs : List Loc) (ls : Array Slot), va_P G.1 vwCl (wM G σ) H → va_D A (wM G σ) → va_S A s.heap H locs → lv_has ls 5 [(0, .ref (aD G 43)), (1, .long v33.1), (3, .int v33.2)] → W p l e rmX7_digest s m args below meth c H locs 0 0 Q (F0 m 33 ls [])) ?_ _ _ hL H locs ls hP hD hS hl
    clear hP hD hS hl hE hL
    intro v33 t33 hE hN33 hY33
    intro H locs ls hP hD hS hl
    unfold f_X7_digest_L33 at hE
    refine lv_iload_n hx hb dX7_digest_33 rfl (lv_at hl 2 rfl) ?_
    refine lv_iconst (v := (3 : Int32)) hx hb dX7_digest_34 (by decide) ?_
    refine lv_icmp_ge (tgt := 60) hx hb dX7_digest_35 (by decide) (fun c_ => ?_) (fun c_ => ?_)
    · have hE := ip c_ hE
      have e9 := hY33 _ (Option.some.inj hE).symm
      have hE := hE33
      rw [← e9] at hE
      exact J_60 v33.1 σ _ _ _ hP hD hS (lv_sub hl [0, 1] rfl) hE
    · have hE := im c_ hE
      refine lv_ldc2 (v := (31 : Int64)) hx hb hown (hts (.constantLong RX7 191 (31)) (List.mem_of_getElem? (i := 2) rfl)) dX7_digest_38 ?_
      refine lv_lload_n hx hb dX7_digest_41 rfl (lv_at hl 1 rfl) ?_
      refine lv_lmul hx hb dX7_digest_42 ?_
      refine lv_aload_n hx hb dX7_digest_43 rfl (lv_at hl 0 rfl) ?_
      refine va_get (ci := 7) (v := .ref (aD G 33)) (C := RX7) (T := TX7) (N := 17) hx hb hts (fun _ h => List.mem_cons_of_mem _ (List.mem_append_right _ h)) hown hK hP 13 rfl rfl 4 (by decide) (hts (.fieldLink RX7 19 "FillCellsModel" "rules" "[I") (List.mem_of_getElem? (i := 3) rfl)) (fun _ h9 => h9) rfl dX7_digest_44 ?_
      refine lv_iconst (v := (4 : Int32)) hx hb dX7_digest_47 (by decide) ?_
      refine lv_iload_n hx hb dX7_digest_48 rfl (lv_at hl 2 rfl) ?_
      refine lv_iadd hx hb dX7_digest_49 ?_
      obtain ⟨h_i, hE⟩ := gd_some hE
      refine ldM hx hb hK hP 3 (by decide) h_i dX7_digest_50 ?_
      refine lv_i2l hx hb dX7_digest_51 rfl ?_
      refine lv_ladd hx hb dX7_digest_52 ?_
      refine lv_lstore_n (lv' := [(1, .long (((31 : Int64) * v33.1) + ((rd σ 3 ((4 : Int32) + v33.2)).toInt64))), (0, .ref (aD G 43)), (3, .int v33.2)]) hx hb dX7_digest_53 rfl hl (by decide) rfl (fun ls hl => ?_)
      refine lv_iinc (v := (v33.2 + (1 : Int32))) (lv' := [(3, .int (v33.2 + (1 : Int32))), (1, .long (((31 : Int64) * v33.1) + ((rd σ 3 ((4 : Int32) + v33.2)).toInt64))), (0, .ref (aD G 43))]) hx hb dX7_digest_54 hl (k := 2) rfl rfl (by decide) rfl (fun ls hl => ?_)
      refine lv_goto (tgt := 33) hx hb dX7_digest_57 (by decide) ?_
      exact hN33 _ (Option.some.inj hE).symm _ _ _ hP hD hS (lv_sub hl [2, 1, 0] rfl)
  have J_31 : ∀ (x1 : Int64) (σ : St) (H : Heap) (locs : List Loc) (ls : Array Slot), va_P G.1 vwCl (wM G σ) H → va_D A (wM G σ) → va_S A s.heap H locs → lv_has ls 5 [(0, .ref (aD G 43)), (1, .long x1)] → f_X7_digest_J31 x1 σ = some r → W p l e rmX7_digest s m args below meth c H locs 0 0 Q (F0 m 31 ls []) := by
    intro x1 σ H locs ls hP hD hS hl hE
    unfold f_X7_digest_J31 at hE
    refine lv_iconst (v := (0 : Int32)) hx hb dX7_digest_31 (by decide) ?_
    refine lv_istore_n (lv' := [(3, .int (0 : Int32)), (0, .ref (aD G 43)), (1, .long x1)]) hx hb dX7_digest_32 rfl hl (by decide) rfl (fun ls hl => ?_)
    exact J_33 x1 (0 : Int32) σ _ _ _ hP hD hS (lv_sub hl [1, 2, 0] rfl) hE
  have J_6 : ∀ (x1 : Int64) (x3 : Int32) (σ : St) (H : Heap) (locs : List Loc) (ls : Array Slot), va_P G.1 vwCl (wM G σ) H → va_D A (wM G σ) → va_S A s.heap H locs → lv_has ls 5 [(0, .ref (aD G 43)), (1, .long x1), (3, .int x3)] → f_X7_digest_J6 x1 x3 σ = some r → W p l e rmX7_digest s m args below meth c H locs 0 0 Q (F0 m 6 ls []) := by
    intro x1 x3 σ H locs ls hP hD hS hl hE
    unfold f_X7_digest_J6 at hE
    obtain ⟨y6, hL, hE6⟩ := bnd_some hE
    refine loop_W (body := f_X7_digest_L6 σ) (y := y6) (P := fun v6 => ∀ (H : Heap) (locs : List Loc) (ls : Array Slot), va_P G.1 vwCl (wM G σ) H → va_D A (wM G σ) → va_S A s.heap H locs → lv_has ls 5 [(0, .ref (aD G 43)), (1, .long v6.1), (3, .int v6.2)] → W p l e rmX7_digest s m args below meth c H locs 0 0 Q (F0 m 6 ls [])) ?_ _ _ hL H locs ls hP hD hS hl
    clear hP hD hS hl hE hL
    intro v6 t6 hE hN6 hY6
    intro H locs ls hP hD hS hl
    unfold f_X7_digest_L6 at hE
    refine lv_iload_n hx hb dX7_digest_6 rfl (lv_at hl 2 rfl) ?_
    refine lv_bipush (v := (10 : Int32)) hx hb dX7_digest_7 (by decide) ?_
    refine lv_icmp_ge (tgt := 31) hx hb dX7_digest_9 (by decide) (fun c_ => ?_) (fun c_ => ?_)
    · have hE := ip c_ hE
      have e9 := hY6 _ (Option.some.inj hE).symm
      have hE := hE6
      rw [← e9] at hE
      exact J_31 v6.1 σ _ _ _ hP hD hS (lv_sub hl [0, 1] rfl) hE
    · have hE := im c_ hE
      refine lv_ldc2 (v := (31 : Int64)) hx hb hown (hts (.constantLong RX7 191 (31)) (List.mem_of_getElem? (i := 2) rfl)) dX7_digest_12 ?_
      refine lv_lload_n hx hb dX7_digest_15 rfl (lv_at hl 1 rfl) ?_
      refine lv_lmul hx hb dX7_digest_16 ?_
      refine lv_aload_n hx hb dX7_digest_17 rfl (lv_at hl 0 rfl) ?_
      refine lv_iload_n hx hb dX7_digest_18 rfl (lv_at hl 2 rfl) ?_
      obtain ⟨r5, hC, hE⟩ := bnd_some hE
      refine ci (va_runV (As := [.int v6.2]) (rest := [.long ((31 : Int64) * v6.1)]) ⟨hx, hb, hml, hown, hts⟩ (c_X7_toldOf l G v6.2 σ r5 hC _) (cwV 1 hts gX7_digest_X7_toldOf rfl rfl rfl (by decide +kernel) ⟨Nat.le_of_ble_eq_true rfl, Nat.le_of_ble_eq_true rfl⟩) (preV hK hP hD hS hA hX (va_recv hK hP (ci := 7) (q0 := 13) rfl rfl)) rfl rfl hl.1 rfl (lv_room (Nat.le_of_ble_eq_true rfl)) dX7_digest_19 ⟨Nat.le_of_ble_eq_true rfl, Nat.le_of_ble_eq_true rfl⟩) hD hS hA (fun H locs hP hD hS => ?_)
      refine lv_i2l hx hb dX7_digest_22 rfl ?_
      refine lv_ladd hx hb dX7_digest_23 ?_
      refine lv_lstore_n (lv' := [(1, .long (((31 : Int64) * v6.1) + ((r5).toInt64))), (0, .ref (aD G 43)), (3, .int v6.2)]) hx hb dX7_digest_24 rfl hl (by decide) rfl (fun ls hl => ?_)
      refine lv_iinc (v := (v6.2 + (1 : Int32))) (lv' := [(3, .int (v6.2 + (1 : Int32))), (1, .long (((31 : Int64) * v6.1) + ((r5).toInt64))), (0, .ref (aD G 43))]) hx hb dX7_digest_25 hl (k := 2) rfl rfl (by decide) rfl (fun ls hl => ?_)
      refine lv_goto (tgt := 6) hx hb dX7_digest_28 (by decide) ?_
      exact hN6 _ (Option.some.inj hE).symm _ _ _ hP hD hS (lv_sub hl [2, 1, 0] rfl)
  refine lv_ldc2 (v := (2081 : Int64)) hx hb hown (hts (.constantLong RX7 189 (2081)) (List.mem_of_getElem? (i := 1) rfl)) dX7_digest_0 ?_
  refine lv_lstore_n (lv' := [(1, .long (2081 : Int64)), (0, .ref (aD G 43))]) hx hb dX7_digest_3 rfl hl (by decide) rfl (fun ls hl => ?_)
  refine lv_iconst (v := (0 : Int32)) hx hb dX7_digest_4 (by decide) ?_
  refine lv_istore_n (lv' := [(3, .int (0 : Int32)), (1, .long (2081 : Int64)), (0, .ref (aD G 43))]) hx hb dX7_digest_5 rfl hl (by decide) rfl (fun ls hl => ?_)
  exact J_6 (2081 : Int64) (0 : Int32) σ _ _ _ hP hD hS (lv_sub hl [2, 1, 0] rfl) hE

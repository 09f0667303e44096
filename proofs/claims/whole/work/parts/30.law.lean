/-! THE CLAIM OUT OF ONE WALK OF THE LAW'S BODY. Your part is whole_start (and what it stands on); all else here is the same for every law, but numbers. -/
def R_law : String := "FillCellsLaw"
def lw_P (b : Addr) (xs : List Int32) (args : Array Value) (s : State) : Prop := args = #[.ref b] ∧ s.IntsAt b xs ∧ xs.length ≤ 2048 ∧ (Jvm.Cond.and given_1 narrow_1).before args s = true
def lw_Q (_ : Array Value) (s : State) (o : Outcome) (t : State) : Prop := o = .returned (some (.int 1)) ∧ Framed s o t [] 40 6535
def lw_Z (below : List Frame) (a : Array Value) (s : State) : State → Prop := fun t => ∃ o, t.status = .running ∧ Ended t below o ∧ lw_Q a s o t
/-- the law's own end, with 1 on the stack, nothing written that was there before, its room as the claim has it -/
theorem lw_ret {p : Program} {l : Launch} {e : Env} {s : State} {m : MethodId} {below : List Frame} {meth : Method} {c : Code} {b : Nat} (hx : p.tables.exec = Jvm.exec) (hb : c.code = code) (hr : meth.sig.returnType = ret) (hlocks : meth.locks = false) {pc : Nat} {H : Heap} {ls : Array Slot} (hdg : decode code pc = .ok (.ireturn, 1)) : W p l e room_1 s m #[Value.ref b] below meth c H [] 40 6535 (lw_Z below #[Value.ref b] s) (F0 m pc ls [.int 1]) := by
  intro T hT X
  obtain ⟨fs, hret, hrun, hended, hW, hframe⟩ := X.leave (v := some (.int 1)) (hlocks := hlocks) (fun h => by rw [hr] at h; cases h)
  have hmeth' : T.vm.method? m = some meth := X.method'
  refine ⟨T.setFrames fs, ?_, .returned (some (.int 1)), hrun, hended, rfl, ⟨_, rfl⟩, hW, hframe⟩
  jvm_step X.here [X.here.top, hx, hb, hdg, hmeth', hr, ret, narrow_b1]
  (try refine ⟨rfl, ?_⟩); (try refine ⟨rfl, ?_⟩)
  first | (intro acts; rw [hret _ acts rfl rfl rfl]) | rw [hret _ _ rfl rfl rfl]
  exact Steps.refl _
/-- what holds at the law's entry: the machine, the code, the tables' words (any of lw_tbl by 'hts w (by decide +kernel)'), the script of L ints xs at the cell b, what the Statement gives of the start (any of its parts by flat_of_before) -/
def lw_At (p : Program) (s : State) (m : MethodId) (meth : Method) (c : Code) (b L : Nat) (xs : Nat → Int32) : Prop :=
  p.tables.exec = Jvm.exec ∧ c.code = code ∧ meth.sig.returnType = ret ∧ c.maxLocals = 4 ∧ s.vm.findClass R_law = some m.cls ∧ (∀ w ∈ lw_tbl, w.before #[Value.ref b] s = true) ∧ va_X b L xs s s.heap ∧ b < s.heap.size ∧ meth.locks = false ∧ (Jvm.Cond.and given_1 narrow_1).before #[Value.ref b] s = true
/-! ===== THE LAW: the two worlds side by side; what every call must give; the loop; the entry ===== -/
abbrev wL (G : EV) (σ μ : St) : va_W := wC G σ ++ wM G μ
def Sim0 (I : St → St → Prop) (f g : St → Option (Int32 × St)) : Prop := ∀ σ μ, I σ μ → ∃ r σ' μ', f σ = some (r, σ') ∧ g μ = some (r, μ') ∧ I σ' μ'
def Sim0L (I : St → St → Prop) (f g : St → Option (Int64 × St)) : Prop := ∀ σ μ, I σ μ → ∃ r σ' μ', f σ = some (r, σ') ∧ g μ = some (r, μ') ∧ I σ' μ'
def Sim1 (I : St → St → Prop) (f g : Int32 → St → Option (Int32 × St)) : Prop := ∀ a σ μ, I σ μ → ∃ r σ' μ', f a σ = some (r, σ') ∧ g a μ = some (r, μ') ∧ I σ' μ'
def Sim2 (I : St → St → Prop) (f g : Int32 → Int32 → St → Option (Int32 × St)) : Prop := ∀ a b σ μ, I σ μ → ∃ r σ' μ', f a b σ = some (r, σ') ∧ g a b μ = some (r, μ') ∧ I σ' μ'
def Sim3 (I : St → St → Prop) (f g : Int32 → Int32 → Int32 → St → Option (Int32 × St)) : Prop := ∀ a b c σ μ, I σ μ → ∃ r σ' μ', f a b c σ = some (r, σ') ∧ g a b c μ = some (r, μ') ∧ I σ' μ'
section LWC
variable {p : Program} {l : Launch} {e : Env} {R : Room} {s : State} {m : MethodId} {args : Array Value} {below : List Frame} {meth : Method} {c : Code} {H : Heap} {locs : List Loc} {cells slots : Nat} {Q : State → Prop} {pc : Nat} {ls : Array Slot} {rest st0 : List Value} {a : Array Value} {G : EV} {A : Nat → Prop} {σ μ σ' μ' : St}

theorem lxi {r : Int32} (hr : va_Run p l e R s m args below meth c H locs cells slots 0 0 (F0 m pc ls st0) rest (PI G r (wC G σ') (va_A (wC G σ) H.size) a) (va_A (wC G σ) H.size)) (hP : va_P G.1 vwCl (wL G σ μ) H) (hD : va_D A (wL G σ μ)) (hS : va_S A s.heap H locs) (hA : ∀ q : Nat, s.heap.size ≤ q → A q)
    (kk : ∀ (H1 : Heap) (locs1 : List Loc), va_P G.1 vwCl (wL G σ' μ) H1 → va_D A (wL G σ' μ) → va_S A s.heap H1 locs1 → W p l e R s m args below meth c H1 locs1 cells slots Q (F0 m (pc + 3) ls (.int r :: rest))) : W p l e R s m args below meth c H locs cells slots Q (F0 m pc ls st0) := by
  have hF := va_free (wc := wC G σ) hD hS hA [0, 1, 2, 3, 4, 5, 6, 7, 8, 9, 10, 11, 12, 13, 14, 15, 16, 17, 18, 19, 20, 21, 22, 23, 24, 25] rfl
  refine va_calli hr hS (fun q _ h => hF q h) hF (fun r1 u t H1 locs1 ht hvm hw hB hz1 hk1 hS1 => ?_)
  obtain ⟨hP1, hK1, hD1⟩ := hB
  rw [ht] at hP1
  subst hw
  obtain ⟨hP2, hD2⟩ := va_join (wr := wM G μ) (w1 := wC G σ') hP hD [0, 1, 2, 3, 4, 5, 6, 7, 8, 9, 10, 11, 12, 13, 14, 15, 16, 17, 18, 19, 20, 21, 22, 23, 24, 25] [26, 27, 28, 29, 30, 31, 32, 33, 34, 35, 36, 37, 38, 39] rfl rfl (by decide) (by decide) hk1 hF hP1 hD1
  exact kk H1 locs1 (hP2.sub (ws' := wL G σ' μ) [14, 15, 16, 17, 18, 19, 20, 21, 22, 23, 24, 25, 26, 27, 28, 29, 30, 31, 32, 33, 34, 35, 36, 37, 38, 39, 0, 1, 2, 3, 4, 5, 6, 7, 8, 9, 10, 11, 12, 13] rfl) (hD2.sub (ws' := wL G σ' μ) [14, 15, 16, 17, 18, 19, 20, 21, 22, 23, 24, 25, 26, 27, 28, 29, 30, 31, 32, 33, 34, 35, 36, 37, 38, 39, 0, 1, 2, 3, 4, 5, 6, 7, 8, 9, 10, 11, 12, 13] (by decide) rfl) hS1
theorem lmi {r : Int32} (hr : va_Run p l e R s m args below meth c H locs cells slots 0 0 (F0 m pc ls st0) rest (PI G r (wM G μ') (va_A (wM G μ) H.size) a) (va_A (wM G μ) H.size)) (hP : va_P G.1 vwCl (wL G σ μ) H) (hD : va_D A (wL G σ μ)) (hS : va_S A s.heap H locs) (hA : ∀ q : Nat, s.heap.size ≤ q → A q)
    (kk : ∀ (H1 : Heap) (locs1 : List Loc), va_P G.1 vwCl (wL G σ μ') H1 → va_D A (wL G σ μ') → va_S A s.heap H1 locs1 → W p l e R s m args below meth c H1 locs1 cells slots Q (F0 m (pc + 3) ls (.int r :: rest))) : W p l e R s m args below meth c H locs cells slots Q (F0 m pc ls st0) := by
  have hF := va_free (wc := wM G μ) hD hS hA [26, 27, 28, 29, 30, 31, 32, 33, 34, 35, 36, 37, 38, 39] rfl
  refine va_calli hr hS (fun q _ h => hF q h) hF (fun r1 u t H1 locs1 ht hvm hw hB hz1 hk1 hS1 => ?_)
  obtain ⟨hP1, hK1, hD1⟩ := hB
  rw [ht] at hP1
  subst hw
  obtain ⟨hP2, hD2⟩ := va_join (wr := wC G σ) (w1 := wM G μ') hP hD [26, 27, 28, 29, 30, 31, 32, 33, 34, 35, 36, 37, 38, 39] [0, 1, 2, 3, 4, 5, 6, 7, 8, 9, 10, 11, 12, 13, 14, 15, 16, 17, 18, 19, 20, 21, 22, 23, 24, 25] rfl rfl (by decide) (by decide) hk1 hF hP1 hD1
  exact kk H1 locs1 hP2 hD2 hS1
theorem lxl {r : Int64} (hr : va_Run p l e R s m args below meth c H locs cells slots 0 0 (F0 m pc ls st0) rest (PL G r (wC G σ') (va_A (wC G σ) H.size) a) (va_A (wC G σ) H.size)) (hP : va_P G.1 vwCl (wL G σ μ) H) (hD : va_D A (wL G σ μ)) (hS : va_S A s.heap H locs) (hA : ∀ q : Nat, s.heap.size ≤ q → A q)
    (kk : ∀ (H1 : Heap) (locs1 : List Loc), va_P G.1 vwCl (wL G σ' μ) H1 → va_D A (wL G σ' μ) → va_S A s.heap H1 locs1 → W p l e R s m args below meth c H1 locs1 cells slots Q (F0 m (pc + 3) ls (.long r :: rest))) : W p l e R s m args below meth c H locs cells slots Q (F0 m pc ls st0) := by
  have hF := va_free (wc := wC G σ) hD hS hA [0, 1, 2, 3, 4, 5, 6, 7, 8, 9, 10, 11, 12, 13, 14, 15, 16, 17, 18, 19, 20, 21, 22, 23, 24, 25] rfl
  refine va_calll hr hS (fun q _ h => hF q h) hF (fun r1 u t H1 locs1 ht hvm hw hB hz1 hk1 hS1 => ?_)
  obtain ⟨hP1, hK1, hD1⟩ := hB
  rw [ht] at hP1
  subst hw
  obtain ⟨hP2, hD2⟩ := va_join (wr := wM G μ) (w1 := wC G σ') hP hD [0, 1, 2, 3, 4, 5, 6, 7, 8, 9, 10, 11, 12, 13, 14, 15, 16, 17, 18, 19, 20, 21, 22, 23, 24, 25] [26, 27, 28, 29, 30, 31, 32, 33, 34, 35, 36, 37, 38, 39] rfl rfl (by decide) (by decide) hk1 hF hP1 hD1
  exact kk H1 locs1 (hP2.sub (ws' := wL G σ' μ) [14, 15, 16, 17, 18, 19, 20, 21, 22, 23, 24, 25, 26, 27, 28, 29, 30, 31, 32, 33, 34, 35, 36, 37, 38, 39, 0, 1, 2, 3, 4, 5, 6, 7, 8, 9, 10, 11, 12, 13] rfl) (hD2.sub (ws' := wL G σ' μ) [14, 15, 16, 17, 18, 19, 20, 21, 22, 23, 24, 25, 26, 27, 28, 29, 30, 31, 32, 33, 34, 35, 36, 37, 38, 39, 0, 1, 2, 3, 4, 5, 6, 7, 8, 9, 10, 11, 12, 13] (by decide) rfl) hS1
theorem lml {r : Int64} (hr : va_Run p l e R s m args below meth c H locs cells slots 0 0 (F0 m pc ls st0) rest (PL G r (wM G μ') (va_A (wM G μ) H.size) a) (va_A (wM G μ) H.size)) (hP : va_P G.1 vwCl (wL G σ μ) H) (hD : va_D A (wL G σ μ)) (hS : va_S A s.heap H locs) (hA : ∀ q : Nat, s.heap.size ≤ q → A q)
    (kk : ∀ (H1 : Heap) (locs1 : List Loc), va_P G.1 vwCl (wL G σ μ') H1 → va_D A (wL G σ μ') → va_S A s.heap H1 locs1 → W p l e R s m args below meth c H1 locs1 cells slots Q (F0 m (pc + 3) ls (.long r :: rest))) : W p l e R s m args below meth c H locs cells slots Q (F0 m pc ls st0) := by
  have hF := va_free (wc := wM G μ) hD hS hA [26, 27, 28, 29, 30, 31, 32, 33, 34, 35, 36, 37, 38, 39] rfl
  refine va_calll hr hS (fun q _ h => hF q h) hF (fun r1 u t H1 locs1 ht hvm hw hB hz1 hk1 hS1 => ?_)
  obtain ⟨hP1, hK1, hD1⟩ := hB
  rw [ht] at hP1
  subst hw
  obtain ⟨hP2, hD2⟩ := va_join (wr := wC G σ) (w1 := wM G μ') hP hD [26, 27, 28, 29, 30, 31, 32, 33, 34, 35, 36, 37, 38, 39] [0, 1, 2, 3, 4, 5, 6, 7, 8, 9, 10, 11, 12, 13, 14, 15, 16, 17, 18, 19, 20, 21, 22, 23, 24, 25] rfl rfl (by decide) (by decide) hk1 hF hP1 hD1
  exact kk H1 locs1 hP2 hD2 hS1
theorem pvx {As : List Value} (hK : va_K G.1 vwCl (tyW G) s) (hP : va_P G.1 vwCl (wL G σ μ) H) (hD : va_D A (wL G σ μ)) (hS : va_S A s.heap H locs) (hA : ∀ q : Nat, s.heap.size ≤ q → A q) (hX : XX G A s s.heap) : PreV s H RX6 (aD G 25) (PreW G (.ref (aD G 25) :: As) H.size (wC G σ)) As := by
  have hPc := hP.sub (ws' := wC G σ) [0, 1, 2, 3, 4, 5, 6, 7, 8, 9, 10, 11, 12, 13, 14, 15, 16, 17, 18, 19, 20, 21, 22, 23, 24, 25] rfl
  have hDc := hD.sub (ws' := wC G σ) [0, 1, 2, 3, 4, 5, 6, 7, 8, 9, 10, 11, 12, 13, 14, 15, 16, 17, 18, 19, 20, 21, 22, 23, 24, 25] (by decide) rfl
  have hFc := va_free (wc := wC G σ) hD hS hA [0, 1, 2, 3, 4, 5, 6, 7, 8, 9, 10, 11, 12, 13, 14, 15, 16, 17, 18, 19, 20, 21, 22, 23, 24, 25] rfl
  exact ⟨blindW, va_recv hK hPc (ci := 6) (q0 := 25) rfl rfl, (preSub hK hPc hDc hS hFc hX).2⟩
theorem pvm {As : List Value} (hK : va_K G.1 vwCl (tyW G) s) (hP : va_P G.1 vwCl (wL G σ μ) H) (hD : va_D A (wL G σ μ)) (hS : va_S A s.heap H locs) (hA : ∀ q : Nat, s.heap.size ≤ q → A q) (hX : XX G A s s.heap) : PreV s H RX7 (aD G 43) (PreW G (.ref (aD G 43) :: As) H.size (wM G μ)) As := by
  have hPc := hP.sub (ws' := wM G μ) [26, 27, 28, 29, 30, 31, 32, 33, 34, 35, 36, 37, 38, 39] rfl
  have hDc := hD.sub (ws' := wM G μ) [26, 27, 28, 29, 30, 31, 32, 33, 34, 35, 36, 37, 38, 39] (by decide) rfl
  have hFc := va_free (wc := wM G μ) hD hS hA [26, 27, 28, 29, 30, 31, 32, 33, 34, 35, 36, 37, 38, 39] rfl
  exact ⟨blindW, va_recv hK hPc (ci := 7) (q0 := 13) rfl rfl, (preSub hK hPc hDc hS hFc hX).2⟩
end LWC
def SimAll (I : St → St → Prop) : Prop := Sim3 I f_X6_sets f_X7_sets ∧ Sim2 I f_X6_draw f_X7_draw ∧ Sim0 I f_X6_empties f_X7_empties ∧ Sim2 I f_X6_rules f_X7_rules ∧ Sim2 I f_X6_of f_X7_of ∧ Sim1 I f_X6_sum f_X7_sum ∧ Sim1 I f_X6_windows f_X7_windows ∧ Sim1 I f_X6_worst f_X7_worst ∧ Sim2 I f_X6_order f_X7_order ∧ Sim1 I f_X6_turn f_X7_turn ∧ Sim1 I f_X6_burden f_X7_burden ∧ Sim1 I f_X6_all f_X7_all ∧ Sim1 I f_X6_more f_X7_more ∧ Sim1 I f_X6_less f_X7_less ∧ Sim0 I f_X6_next f_X7_next ∧ Sim1 I f_X6_steps f_X7_steps ∧ Sim0 I f_X6_thins f_X7_thins ∧ Sim1 I f_X6_best f_X7_best ∧ Sim2 I f_X6_row f_X7_row ∧ Sim0 I f_X6_undo f_X7_undo ∧ Sim1 I f_X6_type f_X7_type ∧ Sim0 I f_X6_clear f_X7_clear ∧ Sim0 I f_X6_reads f_X7_reads ∧ Sim1 I f_X6_told f_X7_told ∧ Sim0L I f_X6_digest f_X7_digest
set_option maxHeartbeats 4000000 in
set_option maxRecDepth 100000 in
theorem law_loop (l : Launch) (I : St → St → Prop) (hI : SimAll I) (G : EV) {p : Program} {e : Env} {s : State} {m : MethodId} {below : List Frame} {meth : Method} {c : Code} {b L : Nat} {xs : Nat → Int32} (hL : L ≤ 2048) (C0 : lw_At p s m meth c b L xs) (hK : va_K G.1 vwCl (tyW G) s) (hX : XX G (fun q : Nat => s.heap.size ≤ q) s s.heap) : ∀ (n i : Nat) (σ μ : St), i ≤ L + 4 → L + 8 ≤ n + i → I σ μ → ∀ (H : Heap) (locs : List Loc) (ls : Array Slot), va_P G.1 vwCl (wL G σ μ) H → va_D (fun q : Nat => s.heap.size ≤ q) (wL G σ μ) → va_S (fun q : Nat => s.heap.size ≤ q) s.heap H locs → lv_has ls 4 [(0, .ref b), (1, .ref (aD G 25)), (2, .ref (aD G 43)), (3, .int (nI i))] → W p l e room_1 s m #[Value.ref b] below meth c H locs 40 6535 (lw_Z below #[Value.ref b] s) (F0 m 18 ls []) := by
  intro n
  induction n with
  | zero => intro i σ μ h1 h2; omega
  | succ n ih =>
    intro i σ μ hi1 hi2 hI0 H locs ls hP hD hS hl
    obtain ⟨hx, hb, hr, hml, hown, hts, hXs, hbl, hlocks, hgv⟩ := id C0
    have hb : c.code = cL_law := hb
    have hown : s.vm.findClass RL = some m.cls := hown
    have hts9 : ∀ w ∈ lw_tbl, w.before #[Value.ref b] s = true := hts
    have hA : ∀ q : Nat, s.heap.size ≤ q → (fun q : Nat => s.heap.size ≤ q) q := fun _ h => h
    have hbA : ¬ (fun q : Nat => s.heap.size ≤ q) b := Nat.not_le.mpr hbl
    refine lv_iload_n hx hb dL_law_18 rfl (lv_at hl 3 rfl) ?_
    refine lv_aload_n hx hb dL_law_19 rfl (lv_at hl 0 rfl) ?_
    refine va_slen hx hb hXs hbl hbA hS dL_law_20 ?_
    refine lv_iconst (v := (4 : Int32)) hx hb dL_law_21 (by decide) ?_
    refine lv_isub hx hb dL_law_22 ?_
    refine lv_icmp_gt (tgt := 730) hx hb dL_law_23 (by decide) (fun c_ => ?_) (fun c_ => ?_)
    · refine lv_iconst (v := (1 : Int32)) hx hb dL_law_730 (by decide) ?_
      refine va_forget (fun q hq => hS.2.2 q hq) ?_
      exact lw_ret hx hb hr hlocks dL_law_731
    · have hlt : i + 3 < L := by
        rcases Nat.lt_or_ge (i + 3) L with q | q
        · exact q
        · refine absurd ?_ c_
          show nI L - nI 4 < nI i
          rw [Int32.lt_iff_toInt_lt, pk_sub_toInt (by omega) (by omega), nI_toInt (by omega)]
          omega
      have h_0 : vp_in (nI i) L := vp_in_nI (by omega) (by omega)
      have h_1 : vp_in (nI i + (1 : Int32)) L := by
        have e1 : nI i + (1 : Int32) = nI (i + 1) := nI_add i 1
        rw [e1]; exact vp_in_nI (by omega) (by omega)
      have h_2 : vp_in (nI i + (2 : Int32)) L := by
        have e1 : nI i + (2 : Int32) = nI (i + 2) := nI_add i 2
        rw [e1]; exact vp_in_nI (by omega) (by omega)
      have h_3 : vp_in (nI i + (3 : Int32)) L := by
        have e1 : nI i + (3 : Int32) = nI (i + 3) := nI_add i 3
        rw [e1]; exact vp_in_nI (by omega) (by omega)
      have hgo : ∀ (σ μ : St), I σ μ → ∀ (H : Heap) (locs : List Loc) (ls : Array Slot), va_P G.1 vwCl (wL G σ μ) H → va_D (fun q : Nat => s.heap.size ≤ q) (wL G σ μ) → va_S (fun q : Nat => s.heap.size ≤ q) s.heap H locs → lv_has ls 4 [(0, .ref b), (1, .ref (aD G 25)), (2, .ref (aD G 43)), (3, .int (nI i))] → W p l e room_1 s m #[Value.ref b] below meth c H locs 40 6535 (lw_Z below #[Value.ref b] s) (F0 m 724 ls []) := by
        intro σ μ hI0 H locs ls hP hD hS hl
        refine lv_iinc (v := nI (i + 4)) (lv' := [(3, .int (nI (i + 4))), (0, .ref b), (1, .ref (aD G 25)), (2, .ref (aD G 43))]) hx hb dL_law_724 hl (k := 3) rfl (nI_add i 4) (by decide) rfl (fun ls hl => ?_)
        refine lv_goto (tgt := 18) hx hb dL_law_727 (by decide) ?_
        exact ih (i + 4) σ μ (by omega) (by omega) hI0 _ _ _ hP hD hS (lv_sub hl [1, 2, 3, 0] rfl)
      refine lv_aload_n hx hb dL_law_26 rfl (lv_at hl 0 rfl) ?_
      refine lv_iload_n hx hb dL_law_27 rfl (lv_at hl 3 rfl) ?_
      refine va_sld hx hb hXs hbl hbA hS h_0 dL_law_28 ?_
      refine lv_bipush (v := (31 : Int32)) hx hb dL_law_29 (by decide) ?_
      refine lv_iand hx hb dL_law_31 ?_
      generalize xs (nI i).toNatClampNeg &&& (31 : Int32) = x9
      by_cases c_0 : x9 = (0 : Int32)
      · obtain ⟨r9, σ9, μ9, e1, e2, hI9⟩ := hI.1 (xs (nI i + (1 : Int32)).toNatClampNeg) (xs (nI i + (2 : Int32)).toNatClampNeg) (xs (nI i + (3 : Int32)).toNatClampNeg) σ μ hI0
        refine lv_tableIn (off := 116) (tgt := 148) hx hb dL_law_32 (by rw [c_0]; decide) (by rw [c_0]; decide) (by rw [c_0]; rfl) (by decide) ?_
        refine lv_aload_n hx hb dL_law_148 rfl (lv_at hl 1 rfl) ?_
        refine lv_aload_n hx hb dL_law_149 rfl (lv_at hl 0 rfl) ?_
        refine lv_iload_n hx hb dL_law_150 rfl (lv_at hl 3 rfl) ?_
        refine lv_iconst (v := (1 : Int32)) hx hb dL_law_151 (by decide) ?_
        refine lv_iadd hx hb dL_law_152 ?_
        refine va_sld hx hb hXs hbl hbA hS h_1 dL_law_153 ?_
        refine lv_aload_n hx hb dL_law_154 rfl (lv_at hl 0 rfl) ?_
        refine lv_iload_n hx hb dL_law_155 rfl (lv_at hl 3 rfl) ?_
        refine lv_iconst (v := (2 : Int32)) hx hb dL_law_156 (by decide) ?_
        refine lv_iadd hx hb dL_law_157 ?_
        refine va_sld hx hb hXs hbl hbA hS h_2 dL_law_158 ?_
        refine lv_aload_n hx hb dL_law_159 rfl (lv_at hl 0 rfl) ?_
        refine lv_iload_n hx hb dL_law_160 rfl (lv_at hl 3 rfl) ?_
        refine lv_iconst (v := (3 : Int32)) hx hb dL_law_161 (by decide) ?_
        refine lv_iadd hx hb dL_law_162 ?_
        refine va_sld hx hb hXs hbl hbA hS h_3 dL_law_163 ?_
        refine lxi (r := r9) (σ' := σ9) (va_runV (As := [.int (xs (nI i + (1 : Int32)).toNatClampNeg), .int (xs (nI i + (2 : Int32)).toNatClampNeg), .int (xs (nI i + (3 : Int32)).toNatClampNeg)]) (rest := []) ⟨hx, hb, hml, hown, hts9⟩ (c_X6_sets l G (xs (nI i + (1 : Int32)).toNatClampNeg) (xs (nI i + (2 : Int32)).toNatClampNeg) (xs (nI i + (3 : Int32)).toNatClampNeg) σ (r9, σ9) e1 _) (cwV 3 hts9 hL_X6_sets rfl rfl rfl (by decide +kernel) ⟨(Nat.le_of_ble_eq_true rfl), (Nat.le_of_ble_eq_true rfl)⟩) (pvx hK hP hD hS hA hX) rfl rfl hl.1 rfl (lv_room (Nat.le_of_ble_eq_true rfl)) dL_law_164 ⟨(Nat.le_of_ble_eq_true rfl), (Nat.le_of_ble_eq_true rfl)⟩) hP hD hS hA (fun H locs hP hD hS => ?_)
        refine lv_aload_n hx hb dL_law_167 rfl (lv_at hl 2 rfl) ?_
        refine lv_aload_n hx hb dL_law_168 rfl (lv_at hl 0 rfl) ?_
        refine lv_iload_n hx hb dL_law_169 rfl (lv_at hl 3 rfl) ?_
        refine lv_iconst (v := (1 : Int32)) hx hb dL_law_170 (by decide) ?_
        refine lv_iadd hx hb dL_law_171 ?_
        refine va_sld hx hb hXs hbl hbA hS h_1 dL_law_172 ?_
        refine lv_aload_n hx hb dL_law_173 rfl (lv_at hl 0 rfl) ?_
        refine lv_iload_n hx hb dL_law_174 rfl (lv_at hl 3 rfl) ?_
        refine lv_iconst (v := (2 : Int32)) hx hb dL_law_175 (by decide) ?_
        refine lv_iadd hx hb dL_law_176 ?_
        refine va_sld hx hb hXs hbl hbA hS h_2 dL_law_177 ?_
        refine lv_aload_n hx hb dL_law_178 rfl (lv_at hl 0 rfl) ?_
        refine lv_iload_n hx hb dL_law_179 rfl (lv_at hl 3 rfl) ?_
        refine lv_iconst (v := (3 : Int32)) hx hb dL_law_180 (by decide) ?_
        refine lv_iadd hx hb dL_law_181 ?_
        refine va_sld hx hb hXs hbl hbA hS h_3 dL_law_182 ?_
        refine lmi (r := r9) (μ' := μ9) (va_runV (As := [.int (xs (nI i + (1 : Int32)).toNatClampNeg), .int (xs (nI i + (2 : Int32)).toNatClampNeg), .int (xs (nI i + (3 : Int32)).toNatClampNeg)]) (rest := [.int r9]) ⟨hx, hb, hml, hown, hts9⟩ (c_X7_sets l G (xs (nI i + (1 : Int32)).toNatClampNeg) (xs (nI i + (2 : Int32)).toNatClampNeg) (xs (nI i + (3 : Int32)).toNatClampNeg) μ (r9, μ9) e2 _) (cwV 3 hts9 hL_X7_sets rfl rfl rfl (by decide +kernel) ⟨(Nat.le_of_ble_eq_true rfl), (Nat.le_of_ble_eq_true rfl)⟩) (pvm hK hP hD hS hA hX) rfl rfl hl.1 rfl (lv_room (Nat.le_of_ble_eq_true rfl)) dL_law_183 ⟨(Nat.le_of_ble_eq_true rfl), (Nat.le_of_ble_eq_true rfl)⟩) hP hD hS hA (fun H locs hP hD hS => ?_)
        refine lv_icmp_eq (tgt := 724) hx hb dL_law_186 (by decide) (fun _ => ?_) (fun c_ => absurd rfl c_)
        exact hgo σ9 μ9 hI9 _ _ _ hP hD hS hl
      by_cases c_1 : x9 = (1 : Int32)
      · obtain ⟨r9, σ9, μ9, e1, e2, hI9⟩ := hI.2.1 (xs (nI i + (1 : Int32)).toNatClampNeg) (xs (nI i + (2 : Int32)).toNatClampNeg) σ μ hI0
        refine lv_tableIn (off := 159) (tgt := 191) hx hb dL_law_32 (by rw [c_1]; decide) (by rw [c_1]; decide) (by rw [c_1]; rfl) (by decide) ?_
        refine lv_aload_n hx hb dL_law_191 rfl (lv_at hl 1 rfl) ?_
        refine lv_aload_n hx hb dL_law_192 rfl (lv_at hl 0 rfl) ?_
        refine lv_iload_n hx hb dL_law_193 rfl (lv_at hl 3 rfl) ?_
        refine lv_iconst (v := (1 : Int32)) hx hb dL_law_194 (by decide) ?_
        refine lv_iadd hx hb dL_law_195 ?_
        refine va_sld hx hb hXs hbl hbA hS h_1 dL_law_196 ?_
        refine lv_aload_n hx hb dL_law_197 rfl (lv_at hl 0 rfl) ?_
        refine lv_iload_n hx hb dL_law_198 rfl (lv_at hl 3 rfl) ?_
        refine lv_iconst (v := (2 : Int32)) hx hb dL_law_199 (by decide) ?_
        refine lv_iadd hx hb dL_law_200 ?_
        refine va_sld hx hb hXs hbl hbA hS h_2 dL_law_201 ?_
        refine lxi (r := r9) (σ' := σ9) (va_runV (As := [.int (xs (nI i + (1 : Int32)).toNatClampNeg), .int (xs (nI i + (2 : Int32)).toNatClampNeg)]) (rest := []) ⟨hx, hb, hml, hown, hts9⟩ (c_X6_draw l G (xs (nI i + (1 : Int32)).toNatClampNeg) (xs (nI i + (2 : Int32)).toNatClampNeg) σ (r9, σ9) e1 _) (cwV 2 hts9 hL_X6_draw rfl rfl rfl (by decide +kernel) ⟨(Nat.le_of_ble_eq_true rfl), (Nat.le_of_ble_eq_true rfl)⟩) (pvx hK hP hD hS hA hX) rfl rfl hl.1 rfl (lv_room (Nat.le_of_ble_eq_true rfl)) dL_law_202 ⟨(Nat.le_of_ble_eq_true rfl), (Nat.le_of_ble_eq_true rfl)⟩) hP hD hS hA (fun H locs hP hD hS => ?_)
        refine lv_aload_n hx hb dL_law_205 rfl (lv_at hl 2 rfl) ?_
        refine lv_aload_n hx hb dL_law_206 rfl (lv_at hl 0 rfl) ?_
        refine lv_iload_n hx hb dL_law_207 rfl (lv_at hl 3 rfl) ?_
        refine lv_iconst (v := (1 : Int32)) hx hb dL_law_208 (by decide) ?_
        refine lv_iadd hx hb dL_law_209 ?_
        refine va_sld hx hb hXs hbl hbA hS h_1 dL_law_210 ?_
        refine lv_aload_n hx hb dL_law_211 rfl (lv_at hl 0 rfl) ?_
        refine lv_iload_n hx hb dL_law_212 rfl (lv_at hl 3 rfl) ?_
        refine lv_iconst (v := (2 : Int32)) hx hb dL_law_213 (by decide) ?_
        refine lv_iadd hx hb dL_law_214 ?_
        refine va_sld hx hb hXs hbl hbA hS h_2 dL_law_215 ?_
        refine lmi (r := r9) (μ' := μ9) (va_runV (As := [.int (xs (nI i + (1 : Int32)).toNatClampNeg), .int (xs (nI i + (2 : Int32)).toNatClampNeg)]) (rest := [.int r9]) ⟨hx, hb, hml, hown, hts9⟩ (c_X7_draw l G (xs (nI i + (1 : Int32)).toNatClampNeg) (xs (nI i + (2 : Int32)).toNatClampNeg) μ (r9, μ9) e2 _) (cwV 2 hts9 hL_X7_draw rfl rfl rfl (by decide +kernel) ⟨(Nat.le_of_ble_eq_true rfl), (Nat.le_of_ble_eq_true rfl)⟩) (pvm hK hP hD hS hA hX) rfl rfl hl.1 rfl (lv_room (Nat.le_of_ble_eq_true rfl)) dL_law_216 ⟨(Nat.le_of_ble_eq_true rfl), (Nat.le_of_ble_eq_true rfl)⟩) hP hD hS hA (fun H locs hP hD hS => ?_)
        refine lv_icmp_eq (tgt := 724) hx hb dL_law_219 (by decide) (fun _ => ?_) (fun c_ => absurd rfl c_)
        exact hgo σ9 μ9 hI9 _ _ _ hP hD hS hl
      by_cases c_2 : x9 = (2 : Int32)
      · obtain ⟨r9, σ9, μ9, e1, e2, hI9⟩ := hI.2.2.1  σ μ hI0
        refine lv_tableIn (off := 192) (tgt := 224) hx hb dL_law_32 (by rw [c_2]; decide) (by rw [c_2]; decide) (by rw [c_2]; rfl) (by decide) ?_
        refine lv_aload_n hx hb dL_law_224 rfl (lv_at hl 1 rfl) ?_
        refine lxi (r := r9) (σ' := σ9) (va_runV (As := []) (rest := []) ⟨hx, hb, hml, hown, hts9⟩ (c_X6_empties l G  σ (r9, σ9) e1 _) (cwV 0 hts9 hL_X6_empties rfl rfl rfl (by decide +kernel) ⟨(Nat.le_of_ble_eq_true rfl), (Nat.le_of_ble_eq_true rfl)⟩) (pvx hK hP hD hS hA hX) rfl rfl hl.1 rfl (lv_room (Nat.le_of_ble_eq_true rfl)) dL_law_225 ⟨(Nat.le_of_ble_eq_true rfl), (Nat.le_of_ble_eq_true rfl)⟩) hP hD hS hA (fun H locs hP hD hS => ?_)
        refine lv_aload_n hx hb dL_law_228 rfl (lv_at hl 2 rfl) ?_
        refine lmi (r := r9) (μ' := μ9) (va_runV (As := []) (rest := [.int r9]) ⟨hx, hb, hml, hown, hts9⟩ (c_X7_empties l G  μ (r9, μ9) e2 _) (cwV 0 hts9 hL_X7_empties rfl rfl rfl (by decide +kernel) ⟨(Nat.le_of_ble_eq_true rfl), (Nat.le_of_ble_eq_true rfl)⟩) (pvm hK hP hD hS hA hX) rfl rfl hl.1 rfl (lv_room (Nat.le_of_ble_eq_true rfl)) dL_law_229 ⟨(Nat.le_of_ble_eq_true rfl), (Nat.le_of_ble_eq_true rfl)⟩) hP hD hS hA (fun H locs hP hD hS => ?_)
        refine lv_icmp_eq (tgt := 724) hx hb dL_law_232 (by decide) (fun _ => ?_) (fun c_ => absurd rfl c_)
        exact hgo σ9 μ9 hI9 _ _ _ hP hD hS hl
      by_cases c_3 : x9 = (3 : Int32)
      · obtain ⟨r9, σ9, μ9, e1, e2, hI9⟩ := hI.2.2.2.1 (xs (nI i + (1 : Int32)).toNatClampNeg) (xs (nI i + (2 : Int32)).toNatClampNeg) σ μ hI0
        refine lv_tableIn (off := 205) (tgt := 237) hx hb dL_law_32 (by rw [c_3]; decide) (by rw [c_3]; decide) (by rw [c_3]; rfl) (by decide) ?_
        refine lv_aload_n hx hb dL_law_237 rfl (lv_at hl 1 rfl) ?_
        refine lv_aload_n hx hb dL_law_238 rfl (lv_at hl 0 rfl) ?_
        refine lv_iload_n hx hb dL_law_239 rfl (lv_at hl 3 rfl) ?_
        refine lv_iconst (v := (1 : Int32)) hx hb dL_law_240 (by decide) ?_
        refine lv_iadd hx hb dL_law_241 ?_
        refine va_sld hx hb hXs hbl hbA hS h_1 dL_law_242 ?_
        refine lv_aload_n hx hb dL_law_243 rfl (lv_at hl 0 rfl) ?_
        refine lv_iload_n hx hb dL_law_244 rfl (lv_at hl 3 rfl) ?_
        refine lv_iconst (v := (2 : Int32)) hx hb dL_law_245 (by decide) ?_
        refine lv_iadd hx hb dL_law_246 ?_
        refine va_sld hx hb hXs hbl hbA hS h_2 dL_law_247 ?_
        refine lxi (r := r9) (σ' := σ9) (va_runV (As := [.int (xs (nI i + (1 : Int32)).toNatClampNeg), .int (xs (nI i + (2 : Int32)).toNatClampNeg)]) (rest := []) ⟨hx, hb, hml, hown, hts9⟩ (c_X6_rules l G (xs (nI i + (1 : Int32)).toNatClampNeg) (xs (nI i + (2 : Int32)).toNatClampNeg) σ (r9, σ9) e1 _) (cwV 2 hts9 hL_X6_rules rfl rfl rfl (by decide +kernel) ⟨(Nat.le_of_ble_eq_true rfl), (Nat.le_of_ble_eq_true rfl)⟩) (pvx hK hP hD hS hA hX) rfl rfl hl.1 rfl (lv_room (Nat.le_of_ble_eq_true rfl)) dL_law_248 ⟨(Nat.le_of_ble_eq_true rfl), (Nat.le_of_ble_eq_true rfl)⟩) hP hD hS hA (fun H locs hP hD hS => ?_)
        refine lv_aload_n hx hb dL_law_251 rfl (lv_at hl 2 rfl) ?_
        refine lv_aload_n hx hb dL_law_252 rfl (lv_at hl 0 rfl) ?_
        refine lv_iload_n hx hb dL_law_253 rfl (lv_at hl 3 rfl) ?_
        refine lv_iconst (v := (1 : Int32)) hx hb dL_law_254 (by decide) ?_
        refine lv_iadd hx hb dL_law_255 ?_
        refine va_sld hx hb hXs hbl hbA hS h_1 dL_law_256 ?_
        refine lv_aload_n hx hb dL_law_257 rfl (lv_at hl 0 rfl) ?_
        refine lv_iload_n hx hb dL_law_258 rfl (lv_at hl 3 rfl) ?_
        refine lv_iconst (v := (2 : Int32)) hx hb dL_law_259 (by decide) ?_
        refine lv_iadd hx hb dL_law_260 ?_
        refine va_sld hx hb hXs hbl hbA hS h_2 dL_law_261 ?_
        refine lmi (r := r9) (μ' := μ9) (va_runV (As := [.int (xs (nI i + (1 : Int32)).toNatClampNeg), .int (xs (nI i + (2 : Int32)).toNatClampNeg)]) (rest := [.int r9]) ⟨hx, hb, hml, hown, hts9⟩ (c_X7_rules l G (xs (nI i + (1 : Int32)).toNatClampNeg) (xs (nI i + (2 : Int32)).toNatClampNeg) μ (r9, μ9) e2 _) (cwV 2 hts9 hL_X7_rules rfl rfl rfl (by decide +kernel) ⟨(Nat.le_of_ble_eq_true rfl), (Nat.le_of_ble_eq_true rfl)⟩) (pvm hK hP hD hS hA hX) rfl rfl hl.1 rfl (lv_room (Nat.le_of_ble_eq_true rfl)) dL_law_262 ⟨(Nat.le_of_ble_eq_true rfl), (Nat.le_of_ble_eq_true rfl)⟩) hP hD hS hA (fun H locs hP hD hS => ?_)
        refine lv_icmp_eq (tgt := 724) hx hb dL_law_265 (by decide) (fun _ => ?_) (fun c_ => absurd rfl c_)
        exact hgo σ9 μ9 hI9 _ _ _ hP hD hS hl
      by_cases c_4 : x9 = (4 : Int32)
      · obtain ⟨r9, σ9, μ9, e1, e2, hI9⟩ := hI.2.2.2.2.1 (xs (nI i + (1 : Int32)).toNatClampNeg) (xs (nI i + (2 : Int32)).toNatClampNeg) σ μ hI0
        refine lv_tableIn (off := 238) (tgt := 270) hx hb dL_law_32 (by rw [c_4]; decide) (by rw [c_4]; decide) (by rw [c_4]; rfl) (by decide) ?_
        refine lv_aload_n hx hb dL_law_270 rfl (lv_at hl 1 rfl) ?_
        refine lv_aload_n hx hb dL_law_271 rfl (lv_at hl 0 rfl) ?_
        refine lv_iload_n hx hb dL_law_272 rfl (lv_at hl 3 rfl) ?_
        refine lv_iconst (v := (1 : Int32)) hx hb dL_law_273 (by decide) ?_
        refine lv_iadd hx hb dL_law_274 ?_
        refine va_sld hx hb hXs hbl hbA hS h_1 dL_law_275 ?_
        refine lv_aload_n hx hb dL_law_276 rfl (lv_at hl 0 rfl) ?_
        refine lv_iload_n hx hb dL_law_277 rfl (lv_at hl 3 rfl) ?_
        refine lv_iconst (v := (2 : Int32)) hx hb dL_law_278 (by decide) ?_
        refine lv_iadd hx hb dL_law_279 ?_
        refine va_sld hx hb hXs hbl hbA hS h_2 dL_law_280 ?_
        refine lxi (r := r9) (σ' := σ9) (va_runV (As := [.int (xs (nI i + (1 : Int32)).toNatClampNeg), .int (xs (nI i + (2 : Int32)).toNatClampNeg)]) (rest := []) ⟨hx, hb, hml, hown, hts9⟩ (c_X6_of l G (xs (nI i + (1 : Int32)).toNatClampNeg) (xs (nI i + (2 : Int32)).toNatClampNeg) σ (r9, σ9) e1 _) (cwV 2 hts9 hL_X6_of rfl rfl rfl (by decide +kernel) ⟨(Nat.le_of_ble_eq_true rfl), (Nat.le_of_ble_eq_true rfl)⟩) (pvx hK hP hD hS hA hX) rfl rfl hl.1 rfl (lv_room (Nat.le_of_ble_eq_true rfl)) dL_law_281 ⟨(Nat.le_of_ble_eq_true rfl), (Nat.le_of_ble_eq_true rfl)⟩) hP hD hS hA (fun H locs hP hD hS => ?_)
        refine lv_aload_n hx hb dL_law_284 rfl (lv_at hl 2 rfl) ?_
        refine lv_aload_n hx hb dL_law_285 rfl (lv_at hl 0 rfl) ?_
        refine lv_iload_n hx hb dL_law_286 rfl (lv_at hl 3 rfl) ?_
        refine lv_iconst (v := (1 : Int32)) hx hb dL_law_287 (by decide) ?_
        refine lv_iadd hx hb dL_law_288 ?_
        refine va_sld hx hb hXs hbl hbA hS h_1 dL_law_289 ?_
        refine lv_aload_n hx hb dL_law_290 rfl (lv_at hl 0 rfl) ?_
        refine lv_iload_n hx hb dL_law_291 rfl (lv_at hl 3 rfl) ?_
        refine lv_iconst (v := (2 : Int32)) hx hb dL_law_292 (by decide) ?_
        refine lv_iadd hx hb dL_law_293 ?_
        refine va_sld hx hb hXs hbl hbA hS h_2 dL_law_294 ?_
        refine lmi (r := r9) (μ' := μ9) (va_runV (As := [.int (xs (nI i + (1 : Int32)).toNatClampNeg), .int (xs (nI i + (2 : Int32)).toNatClampNeg)]) (rest := [.int r9]) ⟨hx, hb, hml, hown, hts9⟩ (c_X7_of l G (xs (nI i + (1 : Int32)).toNatClampNeg) (xs (nI i + (2 : Int32)).toNatClampNeg) μ (r9, μ9) e2 _) (cwV 2 hts9 hL_X7_of rfl rfl rfl (by decide +kernel) ⟨(Nat.le_of_ble_eq_true rfl), (Nat.le_of_ble_eq_true rfl)⟩) (pvm hK hP hD hS hA hX) rfl rfl hl.1 rfl (lv_room (Nat.le_of_ble_eq_true rfl)) dL_law_295 ⟨(Nat.le_of_ble_eq_true rfl), (Nat.le_of_ble_eq_true rfl)⟩) hP hD hS hA (fun H locs hP hD hS => ?_)
        refine lv_icmp_eq (tgt := 724) hx hb dL_law_298 (by decide) (fun _ => ?_) (fun c_ => absurd rfl c_)
        exact hgo σ9 μ9 hI9 _ _ _ hP hD hS hl
      by_cases c_5 : x9 = (5 : Int32)
      · obtain ⟨r9, σ9, μ9, e1, e2, hI9⟩ := hI.2.2.2.2.2.1 (xs (nI i + (1 : Int32)).toNatClampNeg) σ μ hI0
        refine lv_tableIn (off := 271) (tgt := 303) hx hb dL_law_32 (by rw [c_5]; decide) (by rw [c_5]; decide) (by rw [c_5]; rfl) (by decide) ?_
        refine lv_aload_n hx hb dL_law_303 rfl (lv_at hl 1 rfl) ?_
        refine lv_aload_n hx hb dL_law_304 rfl (lv_at hl 0 rfl) ?_
        refine lv_iload_n hx hb dL_law_305 rfl (lv_at hl 3 rfl) ?_
        refine lv_iconst (v := (1 : Int32)) hx hb dL_law_306 (by decide) ?_
        refine lv_iadd hx hb dL_law_307 ?_
        refine va_sld hx hb hXs hbl hbA hS h_1 dL_law_308 ?_
        refine lxi (r := r9) (σ' := σ9) (va_runV (As := [.int (xs (nI i + (1 : Int32)).toNatClampNeg)]) (rest := []) ⟨hx, hb, hml, hown, hts9⟩ (c_X6_sum l G (xs (nI i + (1 : Int32)).toNatClampNeg) σ (r9, σ9) e1 _) (cwV 1 hts9 hL_X6_sum rfl rfl rfl (by decide +kernel) ⟨(Nat.le_of_ble_eq_true rfl), (Nat.le_of_ble_eq_true rfl)⟩) (pvx hK hP hD hS hA hX) rfl rfl hl.1 rfl (lv_room (Nat.le_of_ble_eq_true rfl)) dL_law_309 ⟨(Nat.le_of_ble_eq_true rfl), (Nat.le_of_ble_eq_true rfl)⟩) hP hD hS hA (fun H locs hP hD hS => ?_)
        refine lv_aload_n hx hb dL_law_312 rfl (lv_at hl 2 rfl) ?_
        refine lv_aload_n hx hb dL_law_313 rfl (lv_at hl 0 rfl) ?_
        refine lv_iload_n hx hb dL_law_314 rfl (lv_at hl 3 rfl) ?_
        refine lv_iconst (v := (1 : Int32)) hx hb dL_law_315 (by decide) ?_
        refine lv_iadd hx hb dL_law_316 ?_
        refine va_sld hx hb hXs hbl hbA hS h_1 dL_law_317 ?_
        refine lmi (r := r9) (μ' := μ9) (va_runV (As := [.int (xs (nI i + (1 : Int32)).toNatClampNeg)]) (rest := [.int r9]) ⟨hx, hb, hml, hown, hts9⟩ (c_X7_sum l G (xs (nI i + (1 : Int32)).toNatClampNeg) μ (r9, μ9) e2 _) (cwV 1 hts9 hL_X7_sum rfl rfl rfl (by decide +kernel) ⟨(Nat.le_of_ble_eq_true rfl), (Nat.le_of_ble_eq_true rfl)⟩) (pvm hK hP hD hS hA hX) rfl rfl hl.1 rfl (lv_room (Nat.le_of_ble_eq_true rfl)) dL_law_318 ⟨(Nat.le_of_ble_eq_true rfl), (Nat.le_of_ble_eq_true rfl)⟩) hP hD hS hA (fun H locs hP hD hS => ?_)
        refine lv_icmp_eq (tgt := 724) hx hb dL_law_321 (by decide) (fun _ => ?_) (fun c_ => absurd rfl c_)
        exact hgo σ9 μ9 hI9 _ _ _ hP hD hS hl
      by_cases c_6 : x9 = (6 : Int32)
      · obtain ⟨r9, σ9, μ9, e1, e2, hI9⟩ := hI.2.2.2.2.2.2.1 (xs (nI i + (1 : Int32)).toNatClampNeg) σ μ hI0
        refine lv_tableIn (off := 294) (tgt := 326) hx hb dL_law_32 (by rw [c_6]; decide) (by rw [c_6]; decide) (by rw [c_6]; rfl) (by decide) ?_
        refine lv_aload_n hx hb dL_law_326 rfl (lv_at hl 1 rfl) ?_
        refine lv_aload_n hx hb dL_law_327 rfl (lv_at hl 0 rfl) ?_
        refine lv_iload_n hx hb dL_law_328 rfl (lv_at hl 3 rfl) ?_
        refine lv_iconst (v := (1 : Int32)) hx hb dL_law_329 (by decide) ?_
        refine lv_iadd hx hb dL_law_330 ?_
        refine va_sld hx hb hXs hbl hbA hS h_1 dL_law_331 ?_
        refine lxi (r := r9) (σ' := σ9) (va_runV (As := [.int (xs (nI i + (1 : Int32)).toNatClampNeg)]) (rest := []) ⟨hx, hb, hml, hown, hts9⟩ (c_X6_windows l G (xs (nI i + (1 : Int32)).toNatClampNeg) σ (r9, σ9) e1 _) (cwV 1 hts9 hL_X6_windows rfl rfl rfl (by decide +kernel) ⟨(Nat.le_of_ble_eq_true rfl), (Nat.le_of_ble_eq_true rfl)⟩) (pvx hK hP hD hS hA hX) rfl rfl hl.1 rfl (lv_room (Nat.le_of_ble_eq_true rfl)) dL_law_332 ⟨(Nat.le_of_ble_eq_true rfl), (Nat.le_of_ble_eq_true rfl)⟩) hP hD hS hA (fun H locs hP hD hS => ?_)
        refine lv_aload_n hx hb dL_law_335 rfl (lv_at hl 2 rfl) ?_
        refine lv_aload_n hx hb dL_law_336 rfl (lv_at hl 0 rfl) ?_
        refine lv_iload_n hx hb dL_law_337 rfl (lv_at hl 3 rfl) ?_
        refine lv_iconst (v := (1 : Int32)) hx hb dL_law_338 (by decide) ?_
        refine lv_iadd hx hb dL_law_339 ?_
        refine va_sld hx hb hXs hbl hbA hS h_1 dL_law_340 ?_
        refine lmi (r := r9) (μ' := μ9) (va_runV (As := [.int (xs (nI i + (1 : Int32)).toNatClampNeg)]) (rest := [.int r9]) ⟨hx, hb, hml, hown, hts9⟩ (c_X7_windows l G (xs (nI i + (1 : Int32)).toNatClampNeg) μ (r9, μ9) e2 _) (cwV 1 hts9 hL_X7_windows rfl rfl rfl (by decide +kernel) ⟨(Nat.le_of_ble_eq_true rfl), (Nat.le_of_ble_eq_true rfl)⟩) (pvm hK hP hD hS hA hX) rfl rfl hl.1 rfl (lv_room (Nat.le_of_ble_eq_true rfl)) dL_law_341 ⟨(Nat.le_of_ble_eq_true rfl), (Nat.le_of_ble_eq_true rfl)⟩) hP hD hS hA (fun H locs hP hD hS => ?_)
        refine lv_icmp_eq (tgt := 724) hx hb dL_law_344 (by decide) (fun _ => ?_) (fun c_ => absurd rfl c_)
        exact hgo σ9 μ9 hI9 _ _ _ hP hD hS hl
      by_cases c_7 : x9 = (7 : Int32)
      · obtain ⟨r9, σ9, μ9, e1, e2, hI9⟩ := hI.2.2.2.2.2.2.2.1 (xs (nI i + (1 : Int32)).toNatClampNeg) σ μ hI0
        refine lv_tableIn (off := 317) (tgt := 349) hx hb dL_law_32 (by rw [c_7]; decide) (by rw [c_7]; decide) (by rw [c_7]; rfl) (by decide) ?_
        refine lv_aload_n hx hb dL_law_349 rfl (lv_at hl 1 rfl) ?_
        refine lv_aload_n hx hb dL_law_350 rfl (lv_at hl 0 rfl) ?_
        refine lv_iload_n hx hb dL_law_351 rfl (lv_at hl 3 rfl) ?_
        refine lv_iconst (v := (1 : Int32)) hx hb dL_law_352 (by decide) ?_
        refine lv_iadd hx hb dL_law_353 ?_
        refine va_sld hx hb hXs hbl hbA hS h_1 dL_law_354 ?_
        refine lxi (r := r9) (σ' := σ9) (va_runV (As := [.int (xs (nI i + (1 : Int32)).toNatClampNeg)]) (rest := []) ⟨hx, hb, hml, hown, hts9⟩ (c_X6_worst l G (xs (nI i + (1 : Int32)).toNatClampNeg) σ (r9, σ9) e1 _) (cwV 1 hts9 hL_X6_worst rfl rfl rfl (by decide +kernel) ⟨(Nat.le_of_ble_eq_true rfl), (Nat.le_of_ble_eq_true rfl)⟩) (pvx hK hP hD hS hA hX) rfl rfl hl.1 rfl (lv_room (Nat.le_of_ble_eq_true rfl)) dL_law_355 ⟨(Nat.le_of_ble_eq_true rfl), (Nat.le_of_ble_eq_true rfl)⟩) hP hD hS hA (fun H locs hP hD hS => ?_)
        refine lv_aload_n hx hb dL_law_358 rfl (lv_at hl 2 rfl) ?_
        refine lv_aload_n hx hb dL_law_359 rfl (lv_at hl 0 rfl) ?_
        refine lv_iload_n hx hb dL_law_360 rfl (lv_at hl 3 rfl) ?_
        refine lv_iconst (v := (1 : Int32)) hx hb dL_law_361 (by decide) ?_
        refine lv_iadd hx hb dL_law_362 ?_
        refine va_sld hx hb hXs hbl hbA hS h_1 dL_law_363 ?_
        refine lmi (r := r9) (μ' := μ9) (va_runV (As := [.int (xs (nI i + (1 : Int32)).toNatClampNeg)]) (rest := [.int r9]) ⟨hx, hb, hml, hown, hts9⟩ (c_X7_worst l G (xs (nI i + (1 : Int32)).toNatClampNeg) μ (r9, μ9) e2 _) (cwV 1 hts9 hL_X7_worst rfl rfl rfl (by decide +kernel) ⟨(Nat.le_of_ble_eq_true rfl), (Nat.le_of_ble_eq_true rfl)⟩) (pvm hK hP hD hS hA hX) rfl rfl hl.1 rfl (lv_room (Nat.le_of_ble_eq_true rfl)) dL_law_364 ⟨(Nat.le_of_ble_eq_true rfl), (Nat.le_of_ble_eq_true rfl)⟩) hP hD hS hA (fun H locs hP hD hS => ?_)
        refine lv_icmp_eq (tgt := 724) hx hb dL_law_367 (by decide) (fun _ => ?_) (fun c_ => absurd rfl c_)
        exact hgo σ9 μ9 hI9 _ _ _ hP hD hS hl
      by_cases c_8 : x9 = (8 : Int32)
      · obtain ⟨r9, σ9, μ9, e1, e2, hI9⟩ := hI.2.2.2.2.2.2.2.2.1 (xs (nI i + (1 : Int32)).toNatClampNeg) (xs (nI i + (2 : Int32)).toNatClampNeg) σ μ hI0
        refine lv_tableIn (off := 340) (tgt := 372) hx hb dL_law_32 (by rw [c_8]; decide) (by rw [c_8]; decide) (by rw [c_8]; rfl) (by decide) ?_
        refine lv_aload_n hx hb dL_law_372 rfl (lv_at hl 1 rfl) ?_
        refine lv_aload_n hx hb dL_law_373 rfl (lv_at hl 0 rfl) ?_
        refine lv_iload_n hx hb dL_law_374 rfl (lv_at hl 3 rfl) ?_
        refine lv_iconst (v := (1 : Int32)) hx hb dL_law_375 (by decide) ?_
        refine lv_iadd hx hb dL_law_376 ?_
        refine va_sld hx hb hXs hbl hbA hS h_1 dL_law_377 ?_
        refine lv_aload_n hx hb dL_law_378 rfl (lv_at hl 0 rfl) ?_
        refine lv_iload_n hx hb dL_law_379 rfl (lv_at hl 3 rfl) ?_
        refine lv_iconst (v := (2 : Int32)) hx hb dL_law_380 (by decide) ?_
        refine lv_iadd hx hb dL_law_381 ?_
        refine va_sld hx hb hXs hbl hbA hS h_2 dL_law_382 ?_
        refine lxi (r := r9) (σ' := σ9) (va_runV (As := [.int (xs (nI i + (1 : Int32)).toNatClampNeg), .int (xs (nI i + (2 : Int32)).toNatClampNeg)]) (rest := []) ⟨hx, hb, hml, hown, hts9⟩ (c_X6_order l G (xs (nI i + (1 : Int32)).toNatClampNeg) (xs (nI i + (2 : Int32)).toNatClampNeg) σ (r9, σ9) e1 _) (cwV 2 hts9 hL_X6_order rfl rfl rfl (by decide +kernel) ⟨(Nat.le_of_ble_eq_true rfl), (Nat.le_of_ble_eq_true rfl)⟩) (pvx hK hP hD hS hA hX) rfl rfl hl.1 rfl (lv_room (Nat.le_of_ble_eq_true rfl)) dL_law_383 ⟨(Nat.le_of_ble_eq_true rfl), (Nat.le_of_ble_eq_true rfl)⟩) hP hD hS hA (fun H locs hP hD hS => ?_)
        refine lv_aload_n hx hb dL_law_386 rfl (lv_at hl 2 rfl) ?_
        refine lv_aload_n hx hb dL_law_387 rfl (lv_at hl 0 rfl) ?_
        refine lv_iload_n hx hb dL_law_388 rfl (lv_at hl 3 rfl) ?_
        refine lv_iconst (v := (1 : Int32)) hx hb dL_law_389 (by decide) ?_
        refine lv_iadd hx hb dL_law_390 ?_
        refine va_sld hx hb hXs hbl hbA hS h_1 dL_law_391 ?_
        refine lv_aload_n hx hb dL_law_392 rfl (lv_at hl 0 rfl) ?_
        refine lv_iload_n hx hb dL_law_393 rfl (lv_at hl 3 rfl) ?_
        refine lv_iconst (v := (2 : Int32)) hx hb dL_law_394 (by decide) ?_
        refine lv_iadd hx hb dL_law_395 ?_
        refine va_sld hx hb hXs hbl hbA hS h_2 dL_law_396 ?_
        refine lmi (r := r9) (μ' := μ9) (va_runV (As := [.int (xs (nI i + (1 : Int32)).toNatClampNeg), .int (xs (nI i + (2 : Int32)).toNatClampNeg)]) (rest := [.int r9]) ⟨hx, hb, hml, hown, hts9⟩ (c_X7_order l G (xs (nI i + (1 : Int32)).toNatClampNeg) (xs (nI i + (2 : Int32)).toNatClampNeg) μ (r9, μ9) e2 _) (cwV 2 hts9 hL_X7_order rfl rfl rfl (by decide +kernel) ⟨(Nat.le_of_ble_eq_true rfl), (Nat.le_of_ble_eq_true rfl)⟩) (pvm hK hP hD hS hA hX) rfl rfl hl.1 rfl (lv_room (Nat.le_of_ble_eq_true rfl)) dL_law_397 ⟨(Nat.le_of_ble_eq_true rfl), (Nat.le_of_ble_eq_true rfl)⟩) hP hD hS hA (fun H locs hP hD hS => ?_)
        refine lv_icmp_eq (tgt := 724) hx hb dL_law_400 (by decide) (fun _ => ?_) (fun c_ => absurd rfl c_)
        exact hgo σ9 μ9 hI9 _ _ _ hP hD hS hl
      by_cases c_9 : x9 = (9 : Int32)
      · obtain ⟨r9, σ9, μ9, e1, e2, hI9⟩ := hI.2.2.2.2.2.2.2.2.2.1 (xs (nI i + (1 : Int32)).toNatClampNeg) σ μ hI0
        refine lv_tableIn (off := 373) (tgt := 405) hx hb dL_law_32 (by rw [c_9]; decide) (by rw [c_9]; decide) (by rw [c_9]; rfl) (by decide) ?_
        refine lv_aload_n hx hb dL_law_405 rfl (lv_at hl 1 rfl) ?_
        refine lv_aload_n hx hb dL_law_406 rfl (lv_at hl 0 rfl) ?_
        refine lv_iload_n hx hb dL_law_407 rfl (lv_at hl 3 rfl) ?_
        refine lv_iconst (v := (1 : Int32)) hx hb dL_law_408 (by decide) ?_
        refine lv_iadd hx hb dL_law_409 ?_
        refine va_sld hx hb hXs hbl hbA hS h_1 dL_law_410 ?_
        refine lxi (r := r9) (σ' := σ9) (va_runV (As := [.int (xs (nI i + (1 : Int32)).toNatClampNeg)]) (rest := []) ⟨hx, hb, hml, hown, hts9⟩ (c_X6_turn l G (xs (nI i + (1 : Int32)).toNatClampNeg) σ (r9, σ9) e1 _) (cwV 1 hts9 hL_X6_turn rfl rfl rfl (by decide +kernel) ⟨(Nat.le_of_ble_eq_true rfl), (Nat.le_of_ble_eq_true rfl)⟩) (pvx hK hP hD hS hA hX) rfl rfl hl.1 rfl (lv_room (Nat.le_of_ble_eq_true rfl)) dL_law_411 ⟨(Nat.le_of_ble_eq_true rfl), (Nat.le_of_ble_eq_true rfl)⟩) hP hD hS hA (fun H locs hP hD hS => ?_)
        refine lv_aload_n hx hb dL_law_414 rfl (lv_at hl 2 rfl) ?_
        refine lv_aload_n hx hb dL_law_415 rfl (lv_at hl 0 rfl) ?_
        refine lv_iload_n hx hb dL_law_416 rfl (lv_at hl 3 rfl) ?_
        refine lv_iconst (v := (1 : Int32)) hx hb dL_law_417 (by decide) ?_
        refine lv_iadd hx hb dL_law_418 ?_
        refine va_sld hx hb hXs hbl hbA hS h_1 dL_law_419 ?_
        refine lmi (r := r9) (μ' := μ9) (va_runV (As := [.int (xs (nI i + (1 : Int32)).toNatClampNeg)]) (rest := [.int r9]) ⟨hx, hb, hml, hown, hts9⟩ (c_X7_turn l G (xs (nI i + (1 : Int32)).toNatClampNeg) μ (r9, μ9) e2 _) (cwV 1 hts9 hL_X7_turn rfl rfl rfl (by decide +kernel) ⟨(Nat.le_of_ble_eq_true rfl), (Nat.le_of_ble_eq_true rfl)⟩) (pvm hK hP hD hS hA hX) rfl rfl hl.1 rfl (lv_room (Nat.le_of_ble_eq_true rfl)) dL_law_420 ⟨(Nat.le_of_ble_eq_true rfl), (Nat.le_of_ble_eq_true rfl)⟩) hP hD hS hA (fun H locs hP hD hS => ?_)
        refine lv_icmp_eq (tgt := 724) hx hb dL_law_423 (by decide) (fun _ => ?_) (fun c_ => absurd rfl c_)
        exact hgo σ9 μ9 hI9 _ _ _ hP hD hS hl
      by_cases c_10 : x9 = (10 : Int32)
      · obtain ⟨r9, σ9, μ9, e1, e2, hI9⟩ := hI.2.2.2.2.2.2.2.2.2.2.1 (xs (nI i + (1 : Int32)).toNatClampNeg) σ μ hI0
        refine lv_tableIn (off := 396) (tgt := 428) hx hb dL_law_32 (by rw [c_10]; decide) (by rw [c_10]; decide) (by rw [c_10]; rfl) (by decide) ?_
        refine lv_aload_n hx hb dL_law_428 rfl (lv_at hl 1 rfl) ?_
        refine lv_aload_n hx hb dL_law_429 rfl (lv_at hl 0 rfl) ?_
        refine lv_iload_n hx hb dL_law_430 rfl (lv_at hl 3 rfl) ?_
        refine lv_iconst (v := (1 : Int32)) hx hb dL_law_431 (by decide) ?_
        refine lv_iadd hx hb dL_law_432 ?_
        refine va_sld hx hb hXs hbl hbA hS h_1 dL_law_433 ?_
        refine lxi (r := r9) (σ' := σ9) (va_runV (As := [.int (xs (nI i + (1 : Int32)).toNatClampNeg)]) (rest := []) ⟨hx, hb, hml, hown, hts9⟩ (c_X6_burden l G (xs (nI i + (1 : Int32)).toNatClampNeg) σ (r9, σ9) e1 _) (cwV 1 hts9 hL_X6_burden rfl rfl rfl (by decide +kernel) ⟨(Nat.le_of_ble_eq_true rfl), (Nat.le_of_ble_eq_true rfl)⟩) (pvx hK hP hD hS hA hX) rfl rfl hl.1 rfl (lv_room (Nat.le_of_ble_eq_true rfl)) dL_law_434 ⟨(Nat.le_of_ble_eq_true rfl), (Nat.le_of_ble_eq_true rfl)⟩) hP hD hS hA (fun H locs hP hD hS => ?_)
        refine lv_aload_n hx hb dL_law_437 rfl (lv_at hl 2 rfl) ?_
        refine lv_aload_n hx hb dL_law_438 rfl (lv_at hl 0 rfl) ?_
        refine lv_iload_n hx hb dL_law_439 rfl (lv_at hl 3 rfl) ?_
        refine lv_iconst (v := (1 : Int32)) hx hb dL_law_440 (by decide) ?_
        refine lv_iadd hx hb dL_law_441 ?_
        refine va_sld hx hb hXs hbl hbA hS h_1 dL_law_442 ?_
        refine lmi (r := r9) (μ' := μ9) (va_runV (As := [.int (xs (nI i + (1 : Int32)).toNatClampNeg)]) (rest := [.int r9]) ⟨hx, hb, hml, hown, hts9⟩ (c_X7_burden l G (xs (nI i + (1 : Int32)).toNatClampNeg) μ (r9, μ9) e2 _) (cwV 1 hts9 hL_X7_burden rfl rfl rfl (by decide +kernel) ⟨(Nat.le_of_ble_eq_true rfl), (Nat.le_of_ble_eq_true rfl)⟩) (pvm hK hP hD hS hA hX) rfl rfl hl.1 rfl (lv_room (Nat.le_of_ble_eq_true rfl)) dL_law_443 ⟨(Nat.le_of_ble_eq_true rfl), (Nat.le_of_ble_eq_true rfl)⟩) hP hD hS hA (fun H locs hP hD hS => ?_)
        refine lv_icmp_eq (tgt := 724) hx hb dL_law_446 (by decide) (fun _ => ?_) (fun c_ => absurd rfl c_)
        exact hgo σ9 μ9 hI9 _ _ _ hP hD hS hl
      by_cases c_11 : x9 = (11 : Int32)
      · obtain ⟨r9, σ9, μ9, e1, e2, hI9⟩ := hI.2.2.2.2.2.2.2.2.2.2.2.1 (xs (nI i + (1 : Int32)).toNatClampNeg) σ μ hI0
        refine lv_tableIn (off := 419) (tgt := 451) hx hb dL_law_32 (by rw [c_11]; decide) (by rw [c_11]; decide) (by rw [c_11]; rfl) (by decide) ?_
        refine lv_aload_n hx hb dL_law_451 rfl (lv_at hl 1 rfl) ?_
        refine lv_aload_n hx hb dL_law_452 rfl (lv_at hl 0 rfl) ?_
        refine lv_iload_n hx hb dL_law_453 rfl (lv_at hl 3 rfl) ?_
        refine lv_iconst (v := (1 : Int32)) hx hb dL_law_454 (by decide) ?_
        refine lv_iadd hx hb dL_law_455 ?_
        refine va_sld hx hb hXs hbl hbA hS h_1 dL_law_456 ?_
        refine lxi (r := r9) (σ' := σ9) (va_runV (As := [.int (xs (nI i + (1 : Int32)).toNatClampNeg)]) (rest := []) ⟨hx, hb, hml, hown, hts9⟩ (c_X6_all l G (xs (nI i + (1 : Int32)).toNatClampNeg) σ (r9, σ9) e1 _) (cwV 1 hts9 hL_X6_all rfl rfl rfl (by decide +kernel) ⟨(Nat.le_of_ble_eq_true rfl), (Nat.le_of_ble_eq_true rfl)⟩) (pvx hK hP hD hS hA hX) rfl rfl hl.1 rfl (lv_room (Nat.le_of_ble_eq_true rfl)) dL_law_457 ⟨(Nat.le_of_ble_eq_true rfl), (Nat.le_of_ble_eq_true rfl)⟩) hP hD hS hA (fun H locs hP hD hS => ?_)
        refine lv_aload_n hx hb dL_law_460 rfl (lv_at hl 2 rfl) ?_
        refine lv_aload_n hx hb dL_law_461 rfl (lv_at hl 0 rfl) ?_
        refine lv_iload_n hx hb dL_law_462 rfl (lv_at hl 3 rfl) ?_
        refine lv_iconst (v := (1 : Int32)) hx hb dL_law_463 (by decide) ?_
        refine lv_iadd hx hb dL_law_464 ?_
        refine va_sld hx hb hXs hbl hbA hS h_1 dL_law_465 ?_
        refine lmi (r := r9) (μ' := μ9) (va_runV (As := [.int (xs (nI i + (1 : Int32)).toNatClampNeg)]) (rest := [.int r9]) ⟨hx, hb, hml, hown, hts9⟩ (c_X7_all l G (xs (nI i + (1 : Int32)).toNatClampNeg) μ (r9, μ9) e2 _) (cwV 1 hts9 hL_X7_all rfl rfl rfl (by decide +kernel) ⟨(Nat.le_of_ble_eq_true rfl), (Nat.le_of_ble_eq_true rfl)⟩) (pvm hK hP hD hS hA hX) rfl rfl hl.1 rfl (lv_room (Nat.le_of_ble_eq_true rfl)) dL_law_466 ⟨(Nat.le_of_ble_eq_true rfl), (Nat.le_of_ble_eq_true rfl)⟩) hP hD hS hA (fun H locs hP hD hS => ?_)
        refine lv_icmp_eq (tgt := 724) hx hb dL_law_469 (by decide) (fun _ => ?_) (fun c_ => absurd rfl c_)
        exact hgo σ9 μ9 hI9 _ _ _ hP hD hS hl
      by_cases c_12 : x9 = (12 : Int32)
      · obtain ⟨r9, σ9, μ9, e1, e2, hI9⟩ := hI.2.2.2.2.2.2.2.2.2.2.2.2.1 (xs (nI i + (1 : Int32)).toNatClampNeg) σ μ hI0
        refine lv_tableIn (off := 442) (tgt := 474) hx hb dL_law_32 (by rw [c_12]; decide) (by rw [c_12]; decide) (by rw [c_12]; rfl) (by decide) ?_
        refine lv_aload_n hx hb dL_law_474 rfl (lv_at hl 1 rfl) ?_
        refine lv_aload_n hx hb dL_law_475 rfl (lv_at hl 0 rfl) ?_
        refine lv_iload_n hx hb dL_law_476 rfl (lv_at hl 3 rfl) ?_
        refine lv_iconst (v := (1 : Int32)) hx hb dL_law_477 (by decide) ?_
        refine lv_iadd hx hb dL_law_478 ?_
        refine va_sld hx hb hXs hbl hbA hS h_1 dL_law_479 ?_
        refine lxi (r := r9) (σ' := σ9) (va_runV (As := [.int (xs (nI i + (1 : Int32)).toNatClampNeg)]) (rest := []) ⟨hx, hb, hml, hown, hts9⟩ (c_X6_more l G (xs (nI i + (1 : Int32)).toNatClampNeg) σ (r9, σ9) e1 _) (cwV 1 hts9 hL_X6_more rfl rfl rfl (by decide +kernel) ⟨(Nat.le_of_ble_eq_true rfl), (Nat.le_of_ble_eq_true rfl)⟩) (pvx hK hP hD hS hA hX) rfl rfl hl.1 rfl (lv_room (Nat.le_of_ble_eq_true rfl)) dL_law_480 ⟨(Nat.le_of_ble_eq_true rfl), (Nat.le_of_ble_eq_true rfl)⟩) hP hD hS hA (fun H locs hP hD hS => ?_)
        refine lv_aload_n hx hb dL_law_483 rfl (lv_at hl 2 rfl) ?_
        refine lv_aload_n hx hb dL_law_484 rfl (lv_at hl 0 rfl) ?_
        refine lv_iload_n hx hb dL_law_485 rfl (lv_at hl 3 rfl) ?_
        refine lv_iconst (v := (1 : Int32)) hx hb dL_law_486 (by decide) ?_
        refine lv_iadd hx hb dL_law_487 ?_
        refine va_sld hx hb hXs hbl hbA hS h_1 dL_law_488 ?_
        refine lmi (r := r9) (μ' := μ9) (va_runV (As := [.int (xs (nI i + (1 : Int32)).toNatClampNeg)]) (rest := [.int r9]) ⟨hx, hb, hml, hown, hts9⟩ (c_X7_more l G (xs (nI i + (1 : Int32)).toNatClampNeg) μ (r9, μ9) e2 _) (cwV 1 hts9 hL_X7_more rfl rfl rfl (by decide +kernel) ⟨(Nat.le_of_ble_eq_true rfl), (Nat.le_of_ble_eq_true rfl)⟩) (pvm hK hP hD hS hA hX) rfl rfl hl.1 rfl (lv_room (Nat.le_of_ble_eq_true rfl)) dL_law_489 ⟨(Nat.le_of_ble_eq_true rfl), (Nat.le_of_ble_eq_true rfl)⟩) hP hD hS hA (fun H locs hP hD hS => ?_)
        refine lv_icmp_eq (tgt := 724) hx hb dL_law_492 (by decide) (fun _ => ?_) (fun c_ => absurd rfl c_)
        exact hgo σ9 μ9 hI9 _ _ _ hP hD hS hl
      by_cases c_13 : x9 = (13 : Int32)
      · obtain ⟨r9, σ9, μ9, e1, e2, hI9⟩ := hI.2.2.2.2.2.2.2.2.2.2.2.2.2.1 (xs (nI i + (1 : Int32)).toNatClampNeg) σ μ hI0
        refine lv_tableIn (off := 465) (tgt := 497) hx hb dL_law_32 (by rw [c_13]; decide) (by rw [c_13]; decide) (by rw [c_13]; rfl) (by decide) ?_
        refine lv_aload_n hx hb dL_law_497 rfl (lv_at hl 1 rfl) ?_
        refine lv_aload_n hx hb dL_law_498 rfl (lv_at hl 0 rfl) ?_
        refine lv_iload_n hx hb dL_law_499 rfl (lv_at hl 3 rfl) ?_
        refine lv_iconst (v := (1 : Int32)) hx hb dL_law_500 (by decide) ?_
        refine lv_iadd hx hb dL_law_501 ?_
        refine va_sld hx hb hXs hbl hbA hS h_1 dL_law_502 ?_
        refine lxi (r := r9) (σ' := σ9) (va_runV (As := [.int (xs (nI i + (1 : Int32)).toNatClampNeg)]) (rest := []) ⟨hx, hb, hml, hown, hts9⟩ (c_X6_less l G (xs (nI i + (1 : Int32)).toNatClampNeg) σ (r9, σ9) e1 _) (cwV 1 hts9 hL_X6_less rfl rfl rfl (by decide +kernel) ⟨(Nat.le_of_ble_eq_true rfl), (Nat.le_of_ble_eq_true rfl)⟩) (pvx hK hP hD hS hA hX) rfl rfl hl.1 rfl (lv_room (Nat.le_of_ble_eq_true rfl)) dL_law_503 ⟨(Nat.le_of_ble_eq_true rfl), (Nat.le_of_ble_eq_true rfl)⟩) hP hD hS hA (fun H locs hP hD hS => ?_)
        refine lv_aload_n hx hb dL_law_506 rfl (lv_at hl 2 rfl) ?_
        refine lv_aload_n hx hb dL_law_507 rfl (lv_at hl 0 rfl) ?_
        refine lv_iload_n hx hb dL_law_508 rfl (lv_at hl 3 rfl) ?_
        refine lv_iconst (v := (1 : Int32)) hx hb dL_law_509 (by decide) ?_
        refine lv_iadd hx hb dL_law_510 ?_
        refine va_sld hx hb hXs hbl hbA hS h_1 dL_law_511 ?_
        refine lmi (r := r9) (μ' := μ9) (va_runV (As := [.int (xs (nI i + (1 : Int32)).toNatClampNeg)]) (rest := [.int r9]) ⟨hx, hb, hml, hown, hts9⟩ (c_X7_less l G (xs (nI i + (1 : Int32)).toNatClampNeg) μ (r9, μ9) e2 _) (cwV 1 hts9 hL_X7_less rfl rfl rfl (by decide +kernel) ⟨(Nat.le_of_ble_eq_true rfl), (Nat.le_of_ble_eq_true rfl)⟩) (pvm hK hP hD hS hA hX) rfl rfl hl.1 rfl (lv_room (Nat.le_of_ble_eq_true rfl)) dL_law_512 ⟨(Nat.le_of_ble_eq_true rfl), (Nat.le_of_ble_eq_true rfl)⟩) hP hD hS hA (fun H locs hP hD hS => ?_)
        refine lv_icmp_eq (tgt := 724) hx hb dL_law_515 (by decide) (fun _ => ?_) (fun c_ => absurd rfl c_)
        exact hgo σ9 μ9 hI9 _ _ _ hP hD hS hl
      by_cases c_14 : x9 = (14 : Int32)
      · obtain ⟨r9, σ9, μ9, e1, e2, hI9⟩ := hI.2.2.2.2.2.2.2.2.2.2.2.2.2.2.1  σ μ hI0
        refine lv_tableIn (off := 488) (tgt := 520) hx hb dL_law_32 (by rw [c_14]; decide) (by rw [c_14]; decide) (by rw [c_14]; rfl) (by decide) ?_
        refine lv_aload_n hx hb dL_law_520 rfl (lv_at hl 1 rfl) ?_
        refine lxi (r := r9) (σ' := σ9) (va_runV (As := []) (rest := []) ⟨hx, hb, hml, hown, hts9⟩ (c_X6_next l G  σ (r9, σ9) e1 _) (cwV 0 hts9 hL_X6_next rfl rfl rfl (by decide +kernel) ⟨(Nat.le_of_ble_eq_true rfl), (Nat.le_of_ble_eq_true rfl)⟩) (pvx hK hP hD hS hA hX) rfl rfl hl.1 rfl (lv_room (Nat.le_of_ble_eq_true rfl)) dL_law_521 ⟨(Nat.le_of_ble_eq_true rfl), (Nat.le_of_ble_eq_true rfl)⟩) hP hD hS hA (fun H locs hP hD hS => ?_)
        refine lv_aload_n hx hb dL_law_524 rfl (lv_at hl 2 rfl) ?_
        refine lmi (r := r9) (μ' := μ9) (va_runV (As := []) (rest := [.int r9]) ⟨hx, hb, hml, hown, hts9⟩ (c_X7_next l G  μ (r9, μ9) e2 _) (cwV 0 hts9 hL_X7_next rfl rfl rfl (by decide +kernel) ⟨(Nat.le_of_ble_eq_true rfl), (Nat.le_of_ble_eq_true rfl)⟩) (pvm hK hP hD hS hA hX) rfl rfl hl.1 rfl (lv_room (Nat.le_of_ble_eq_true rfl)) dL_law_525 ⟨(Nat.le_of_ble_eq_true rfl), (Nat.le_of_ble_eq_true rfl)⟩) hP hD hS hA (fun H locs hP hD hS => ?_)
        refine lv_icmp_eq (tgt := 724) hx hb dL_law_528 (by decide) (fun _ => ?_) (fun c_ => absurd rfl c_)
        exact hgo σ9 μ9 hI9 _ _ _ hP hD hS hl
      by_cases c_15 : x9 = (15 : Int32)
      · obtain ⟨r9, σ9, μ9, e1, e2, hI9⟩ := hI.2.2.2.2.2.2.2.2.2.2.2.2.2.2.2.1 (xs (nI i + (1 : Int32)).toNatClampNeg) σ μ hI0
        refine lv_tableIn (off := 501) (tgt := 533) hx hb dL_law_32 (by rw [c_15]; decide) (by rw [c_15]; decide) (by rw [c_15]; rfl) (by decide) ?_
        refine lv_aload_n hx hb dL_law_533 rfl (lv_at hl 1 rfl) ?_
        refine lv_aload_n hx hb dL_law_534 rfl (lv_at hl 0 rfl) ?_
        refine lv_iload_n hx hb dL_law_535 rfl (lv_at hl 3 rfl) ?_
        refine lv_iconst (v := (1 : Int32)) hx hb dL_law_536 (by decide) ?_
        refine lv_iadd hx hb dL_law_537 ?_
        refine va_sld hx hb hXs hbl hbA hS h_1 dL_law_538 ?_
        refine lxi (r := r9) (σ' := σ9) (va_runV (As := [.int (xs (nI i + (1 : Int32)).toNatClampNeg)]) (rest := []) ⟨hx, hb, hml, hown, hts9⟩ (c_X6_steps l G (xs (nI i + (1 : Int32)).toNatClampNeg) σ (r9, σ9) e1 _) (cwV 1 hts9 hL_X6_steps rfl rfl rfl (by decide +kernel) ⟨(Nat.le_of_ble_eq_true rfl), (Nat.le_of_ble_eq_true rfl)⟩) (pvx hK hP hD hS hA hX) rfl rfl hl.1 rfl (lv_room (Nat.le_of_ble_eq_true rfl)) dL_law_539 ⟨(Nat.le_of_ble_eq_true rfl), (Nat.le_of_ble_eq_true rfl)⟩) hP hD hS hA (fun H locs hP hD hS => ?_)
        refine lv_aload_n hx hb dL_law_542 rfl (lv_at hl 2 rfl) ?_
        refine lv_aload_n hx hb dL_law_543 rfl (lv_at hl 0 rfl) ?_
        refine lv_iload_n hx hb dL_law_544 rfl (lv_at hl 3 rfl) ?_
        refine lv_iconst (v := (1 : Int32)) hx hb dL_law_545 (by decide) ?_
        refine lv_iadd hx hb dL_law_546 ?_
        refine va_sld hx hb hXs hbl hbA hS h_1 dL_law_547 ?_
        refine lmi (r := r9) (μ' := μ9) (va_runV (As := [.int (xs (nI i + (1 : Int32)).toNatClampNeg)]) (rest := [.int r9]) ⟨hx, hb, hml, hown, hts9⟩ (c_X7_steps l G (xs (nI i + (1 : Int32)).toNatClampNeg) μ (r9, μ9) e2 _) (cwV 1 hts9 hL_X7_steps rfl rfl rfl (by decide +kernel) ⟨(Nat.le_of_ble_eq_true rfl), (Nat.le_of_ble_eq_true rfl)⟩) (pvm hK hP hD hS hA hX) rfl rfl hl.1 rfl (lv_room (Nat.le_of_ble_eq_true rfl)) dL_law_548 ⟨(Nat.le_of_ble_eq_true rfl), (Nat.le_of_ble_eq_true rfl)⟩) hP hD hS hA (fun H locs hP hD hS => ?_)
        refine lv_icmp_eq (tgt := 724) hx hb dL_law_551 (by decide) (fun _ => ?_) (fun c_ => absurd rfl c_)
        exact hgo σ9 μ9 hI9 _ _ _ hP hD hS hl
      by_cases c_16 : x9 = (16 : Int32)
      · obtain ⟨r9, σ9, μ9, e1, e2, hI9⟩ := hI.2.2.2.2.2.2.2.2.2.2.2.2.2.2.2.2.1  σ μ hI0
        refine lv_tableIn (off := 524) (tgt := 556) hx hb dL_law_32 (by rw [c_16]; decide) (by rw [c_16]; decide) (by rw [c_16]; rfl) (by decide) ?_
        refine lv_aload_n hx hb dL_law_556 rfl (lv_at hl 1 rfl) ?_
        refine lxi (r := r9) (σ' := σ9) (va_runV (As := []) (rest := []) ⟨hx, hb, hml, hown, hts9⟩ (c_X6_thins l G  σ (r9, σ9) e1 _) (cwV 0 hts9 hL_X6_thins rfl rfl rfl (by decide +kernel) ⟨(Nat.le_of_ble_eq_true rfl), (Nat.le_of_ble_eq_true rfl)⟩) (pvx hK hP hD hS hA hX) rfl rfl hl.1 rfl (lv_room (Nat.le_of_ble_eq_true rfl)) dL_law_557 ⟨(Nat.le_of_ble_eq_true rfl), (Nat.le_of_ble_eq_true rfl)⟩) hP hD hS hA (fun H locs hP hD hS => ?_)
        refine lv_aload_n hx hb dL_law_560 rfl (lv_at hl 2 rfl) ?_
        refine lmi (r := r9) (μ' := μ9) (va_runV (As := []) (rest := [.int r9]) ⟨hx, hb, hml, hown, hts9⟩ (c_X7_thins l G  μ (r9, μ9) e2 _) (cwV 0 hts9 hL_X7_thins rfl rfl rfl (by decide +kernel) ⟨(Nat.le_of_ble_eq_true rfl), (Nat.le_of_ble_eq_true rfl)⟩) (pvm hK hP hD hS hA hX) rfl rfl hl.1 rfl (lv_room (Nat.le_of_ble_eq_true rfl)) dL_law_561 ⟨(Nat.le_of_ble_eq_true rfl), (Nat.le_of_ble_eq_true rfl)⟩) hP hD hS hA (fun H locs hP hD hS => ?_)
        refine lv_icmp_eq (tgt := 724) hx hb dL_law_564 (by decide) (fun _ => ?_) (fun c_ => absurd rfl c_)
        exact hgo σ9 μ9 hI9 _ _ _ hP hD hS hl
      by_cases c_17 : x9 = (17 : Int32)
      · obtain ⟨r9, σ9, μ9, e1, e2, hI9⟩ := hI.2.2.2.2.2.2.2.2.2.2.2.2.2.2.2.2.2.1 (xs (nI i + (1 : Int32)).toNatClampNeg) σ μ hI0
        refine lv_tableIn (off := 537) (tgt := 569) hx hb dL_law_32 (by rw [c_17]; decide) (by rw [c_17]; decide) (by rw [c_17]; rfl) (by decide) ?_
        refine lv_aload_n hx hb dL_law_569 rfl (lv_at hl 1 rfl) ?_
        refine lv_aload_n hx hb dL_law_570 rfl (lv_at hl 0 rfl) ?_
        refine lv_iload_n hx hb dL_law_571 rfl (lv_at hl 3 rfl) ?_
        refine lv_iconst (v := (1 : Int32)) hx hb dL_law_572 (by decide) ?_
        refine lv_iadd hx hb dL_law_573 ?_
        refine va_sld hx hb hXs hbl hbA hS h_1 dL_law_574 ?_
        refine lxi (r := r9) (σ' := σ9) (va_runV (As := [.int (xs (nI i + (1 : Int32)).toNatClampNeg)]) (rest := []) ⟨hx, hb, hml, hown, hts9⟩ (c_X6_best l G (xs (nI i + (1 : Int32)).toNatClampNeg) σ (r9, σ9) e1 _) (cwV 1 hts9 hL_X6_best rfl rfl rfl (by decide +kernel) ⟨(Nat.le_of_ble_eq_true rfl), (Nat.le_of_ble_eq_true rfl)⟩) (pvx hK hP hD hS hA hX) rfl rfl hl.1 rfl (lv_room (Nat.le_of_ble_eq_true rfl)) dL_law_575 ⟨(Nat.le_of_ble_eq_true rfl), (Nat.le_of_ble_eq_true rfl)⟩) hP hD hS hA (fun H locs hP hD hS => ?_)
        refine lv_aload_n hx hb dL_law_578 rfl (lv_at hl 2 rfl) ?_
        refine lv_aload_n hx hb dL_law_579 rfl (lv_at hl 0 rfl) ?_
        refine lv_iload_n hx hb dL_law_580 rfl (lv_at hl 3 rfl) ?_
        refine lv_iconst (v := (1 : Int32)) hx hb dL_law_581 (by decide) ?_
        refine lv_iadd hx hb dL_law_582 ?_
        refine va_sld hx hb hXs hbl hbA hS h_1 dL_law_583 ?_
        refine lmi (r := r9) (μ' := μ9) (va_runV (As := [.int (xs (nI i + (1 : Int32)).toNatClampNeg)]) (rest := [.int r9]) ⟨hx, hb, hml, hown, hts9⟩ (c_X7_best l G (xs (nI i + (1 : Int32)).toNatClampNeg) μ (r9, μ9) e2 _) (cwV 1 hts9 hL_X7_best rfl rfl rfl (by decide +kernel) ⟨(Nat.le_of_ble_eq_true rfl), (Nat.le_of_ble_eq_true rfl)⟩) (pvm hK hP hD hS hA hX) rfl rfl hl.1 rfl (lv_room (Nat.le_of_ble_eq_true rfl)) dL_law_584 ⟨(Nat.le_of_ble_eq_true rfl), (Nat.le_of_ble_eq_true rfl)⟩) hP hD hS hA (fun H locs hP hD hS => ?_)
        refine lv_icmp_eq (tgt := 724) hx hb dL_law_587 (by decide) (fun _ => ?_) (fun c_ => absurd rfl c_)
        exact hgo σ9 μ9 hI9 _ _ _ hP hD hS hl
      by_cases c_18 : x9 = (18 : Int32)
      · obtain ⟨r9, σ9, μ9, e1, e2, hI9⟩ := hI.2.2.2.2.2.2.2.2.2.2.2.2.2.2.2.2.2.2.1 (xs (nI i + (1 : Int32)).toNatClampNeg) (xs (nI i + (2 : Int32)).toNatClampNeg) σ μ hI0
        refine lv_tableIn (off := 560) (tgt := 592) hx hb dL_law_32 (by rw [c_18]; decide) (by rw [c_18]; decide) (by rw [c_18]; rfl) (by decide) ?_
        refine lv_aload_n hx hb dL_law_592 rfl (lv_at hl 1 rfl) ?_
        refine lv_aload_n hx hb dL_law_593 rfl (lv_at hl 0 rfl) ?_
        refine lv_iload_n hx hb dL_law_594 rfl (lv_at hl 3 rfl) ?_
        refine lv_iconst (v := (1 : Int32)) hx hb dL_law_595 (by decide) ?_
        refine lv_iadd hx hb dL_law_596 ?_
        refine va_sld hx hb hXs hbl hbA hS h_1 dL_law_597 ?_
        refine lv_aload_n hx hb dL_law_598 rfl (lv_at hl 0 rfl) ?_
        refine lv_iload_n hx hb dL_law_599 rfl (lv_at hl 3 rfl) ?_
        refine lv_iconst (v := (2 : Int32)) hx hb dL_law_600 (by decide) ?_
        refine lv_iadd hx hb dL_law_601 ?_
        refine va_sld hx hb hXs hbl hbA hS h_2 dL_law_602 ?_
        refine lxi (r := r9) (σ' := σ9) (va_runV (As := [.int (xs (nI i + (1 : Int32)).toNatClampNeg), .int (xs (nI i + (2 : Int32)).toNatClampNeg)]) (rest := []) ⟨hx, hb, hml, hown, hts9⟩ (c_X6_row l G (xs (nI i + (1 : Int32)).toNatClampNeg) (xs (nI i + (2 : Int32)).toNatClampNeg) σ (r9, σ9) e1 _) (cwV 2 hts9 hL_X6_row rfl rfl rfl (by decide +kernel) ⟨(Nat.le_of_ble_eq_true rfl), (Nat.le_of_ble_eq_true rfl)⟩) (pvx hK hP hD hS hA hX) rfl rfl hl.1 rfl (lv_room (Nat.le_of_ble_eq_true rfl)) dL_law_603 ⟨(Nat.le_of_ble_eq_true rfl), (Nat.le_of_ble_eq_true rfl)⟩) hP hD hS hA (fun H locs hP hD hS => ?_)
        refine lv_aload_n hx hb dL_law_606 rfl (lv_at hl 2 rfl) ?_
        refine lv_aload_n hx hb dL_law_607 rfl (lv_at hl 0 rfl) ?_
        refine lv_iload_n hx hb dL_law_608 rfl (lv_at hl 3 rfl) ?_
        refine lv_iconst (v := (1 : Int32)) hx hb dL_law_609 (by decide) ?_
        refine lv_iadd hx hb dL_law_610 ?_
        refine va_sld hx hb hXs hbl hbA hS h_1 dL_law_611 ?_
        refine lv_aload_n hx hb dL_law_612 rfl (lv_at hl 0 rfl) ?_
        refine lv_iload_n hx hb dL_law_613 rfl (lv_at hl 3 rfl) ?_
        refine lv_iconst (v := (2 : Int32)) hx hb dL_law_614 (by decide) ?_
        refine lv_iadd hx hb dL_law_615 ?_
        refine va_sld hx hb hXs hbl hbA hS h_2 dL_law_616 ?_
        refine lmi (r := r9) (μ' := μ9) (va_runV (As := [.int (xs (nI i + (1 : Int32)).toNatClampNeg), .int (xs (nI i + (2 : Int32)).toNatClampNeg)]) (rest := [.int r9]) ⟨hx, hb, hml, hown, hts9⟩ (c_X7_row l G (xs (nI i + (1 : Int32)).toNatClampNeg) (xs (nI i + (2 : Int32)).toNatClampNeg) μ (r9, μ9) e2 _) (cwV 2 hts9 hL_X7_row rfl rfl rfl (by decide +kernel) ⟨(Nat.le_of_ble_eq_true rfl), (Nat.le_of_ble_eq_true rfl)⟩) (pvm hK hP hD hS hA hX) rfl rfl hl.1 rfl (lv_room (Nat.le_of_ble_eq_true rfl)) dL_law_617 ⟨(Nat.le_of_ble_eq_true rfl), (Nat.le_of_ble_eq_true rfl)⟩) hP hD hS hA (fun H locs hP hD hS => ?_)
        refine lv_icmp_eq (tgt := 724) hx hb dL_law_620 (by decide) (fun _ => ?_) (fun c_ => absurd rfl c_)
        exact hgo σ9 μ9 hI9 _ _ _ hP hD hS hl
      by_cases c_19 : x9 = (19 : Int32)
      · obtain ⟨r9, σ9, μ9, e1, e2, hI9⟩ := hI.2.2.2.2.2.2.2.2.2.2.2.2.2.2.2.2.2.2.2.1  σ μ hI0
        refine lv_tableIn (off := 593) (tgt := 625) hx hb dL_law_32 (by rw [c_19]; decide) (by rw [c_19]; decide) (by rw [c_19]; rfl) (by decide) ?_
        refine lv_aload_n hx hb dL_law_625 rfl (lv_at hl 1 rfl) ?_
        refine lxi (r := r9) (σ' := σ9) (va_runV (As := []) (rest := []) ⟨hx, hb, hml, hown, hts9⟩ (c_X6_undo l G  σ (r9, σ9) e1 _) (cwV 0 hts9 hL_X6_undo rfl rfl rfl (by decide +kernel) ⟨(Nat.le_of_ble_eq_true rfl), (Nat.le_of_ble_eq_true rfl)⟩) (pvx hK hP hD hS hA hX) rfl rfl hl.1 rfl (lv_room (Nat.le_of_ble_eq_true rfl)) dL_law_626 ⟨(Nat.le_of_ble_eq_true rfl), (Nat.le_of_ble_eq_true rfl)⟩) hP hD hS hA (fun H locs hP hD hS => ?_)
        refine lv_aload_n hx hb dL_law_629 rfl (lv_at hl 2 rfl) ?_
        refine lmi (r := r9) (μ' := μ9) (va_runV (As := []) (rest := [.int r9]) ⟨hx, hb, hml, hown, hts9⟩ (c_X7_undo l G  μ (r9, μ9) e2 _) (cwV 0 hts9 hL_X7_undo rfl rfl rfl (by decide +kernel) ⟨(Nat.le_of_ble_eq_true rfl), (Nat.le_of_ble_eq_true rfl)⟩) (pvm hK hP hD hS hA hX) rfl rfl hl.1 rfl (lv_room (Nat.le_of_ble_eq_true rfl)) dL_law_630 ⟨(Nat.le_of_ble_eq_true rfl), (Nat.le_of_ble_eq_true rfl)⟩) hP hD hS hA (fun H locs hP hD hS => ?_)
        refine lv_icmp_eq (tgt := 724) hx hb dL_law_633 (by decide) (fun _ => ?_) (fun c_ => absurd rfl c_)
        exact hgo σ9 μ9 hI9 _ _ _ hP hD hS hl
      by_cases c_20 : x9 = (20 : Int32)
      · obtain ⟨r9, σ9, μ9, e1, e2, hI9⟩ := hI.2.2.2.2.2.2.2.2.2.2.2.2.2.2.2.2.2.2.2.2.1 (xs (nI i + (1 : Int32)).toNatClampNeg) σ μ hI0
        refine lv_tableIn (off := 606) (tgt := 638) hx hb dL_law_32 (by rw [c_20]; decide) (by rw [c_20]; decide) (by rw [c_20]; rfl) (by decide) ?_
        refine lv_aload_n hx hb dL_law_638 rfl (lv_at hl 1 rfl) ?_
        refine lv_aload_n hx hb dL_law_639 rfl (lv_at hl 0 rfl) ?_
        refine lv_iload_n hx hb dL_law_640 rfl (lv_at hl 3 rfl) ?_
        refine lv_iconst (v := (1 : Int32)) hx hb dL_law_641 (by decide) ?_
        refine lv_iadd hx hb dL_law_642 ?_
        refine va_sld hx hb hXs hbl hbA hS h_1 dL_law_643 ?_
        refine lxi (r := r9) (σ' := σ9) (va_runV (As := [.int (xs (nI i + (1 : Int32)).toNatClampNeg)]) (rest := []) ⟨hx, hb, hml, hown, hts9⟩ (c_X6_type l G (xs (nI i + (1 : Int32)).toNatClampNeg) σ (r9, σ9) e1 _) (cwV 1 hts9 hL_X6_type rfl rfl rfl (by decide +kernel) ⟨(Nat.le_of_ble_eq_true rfl), (Nat.le_of_ble_eq_true rfl)⟩) (pvx hK hP hD hS hA hX) rfl rfl hl.1 rfl (lv_room (Nat.le_of_ble_eq_true rfl)) dL_law_644 ⟨(Nat.le_of_ble_eq_true rfl), (Nat.le_of_ble_eq_true rfl)⟩) hP hD hS hA (fun H locs hP hD hS => ?_)
        refine lv_aload_n hx hb dL_law_647 rfl (lv_at hl 2 rfl) ?_
        refine lv_aload_n hx hb dL_law_648 rfl (lv_at hl 0 rfl) ?_
        refine lv_iload_n hx hb dL_law_649 rfl (lv_at hl 3 rfl) ?_
        refine lv_iconst (v := (1 : Int32)) hx hb dL_law_650 (by decide) ?_
        refine lv_iadd hx hb dL_law_651 ?_
        refine va_sld hx hb hXs hbl hbA hS h_1 dL_law_652 ?_
        refine lmi (r := r9) (μ' := μ9) (va_runV (As := [.int (xs (nI i + (1 : Int32)).toNatClampNeg)]) (rest := [.int r9]) ⟨hx, hb, hml, hown, hts9⟩ (c_X7_type l G (xs (nI i + (1 : Int32)).toNatClampNeg) μ (r9, μ9) e2 _) (cwV 1 hts9 hL_X7_type rfl rfl rfl (by decide +kernel) ⟨(Nat.le_of_ble_eq_true rfl), (Nat.le_of_ble_eq_true rfl)⟩) (pvm hK hP hD hS hA hX) rfl rfl hl.1 rfl (lv_room (Nat.le_of_ble_eq_true rfl)) dL_law_653 ⟨(Nat.le_of_ble_eq_true rfl), (Nat.le_of_ble_eq_true rfl)⟩) hP hD hS hA (fun H locs hP hD hS => ?_)
        refine lv_icmp_eq (tgt := 724) hx hb dL_law_656 (by decide) (fun _ => ?_) (fun c_ => absurd rfl c_)
        exact hgo σ9 μ9 hI9 _ _ _ hP hD hS hl
      by_cases c_21 : x9 = (21 : Int32)
      · obtain ⟨r9, σ9, μ9, e1, e2, hI9⟩ := hI.2.2.2.2.2.2.2.2.2.2.2.2.2.2.2.2.2.2.2.2.2.1  σ μ hI0
        refine lv_tableIn (off := 629) (tgt := 661) hx hb dL_law_32 (by rw [c_21]; decide) (by rw [c_21]; decide) (by rw [c_21]; rfl) (by decide) ?_
        refine lv_aload_n hx hb dL_law_661 rfl (lv_at hl 1 rfl) ?_
        refine lxi (r := r9) (σ' := σ9) (va_runV (As := []) (rest := []) ⟨hx, hb, hml, hown, hts9⟩ (c_X6_clear l G  σ (r9, σ9) e1 _) (cwV 0 hts9 hL_X6_clear rfl rfl rfl (by decide +kernel) ⟨(Nat.le_of_ble_eq_true rfl), (Nat.le_of_ble_eq_true rfl)⟩) (pvx hK hP hD hS hA hX) rfl rfl hl.1 rfl (lv_room (Nat.le_of_ble_eq_true rfl)) dL_law_662 ⟨(Nat.le_of_ble_eq_true rfl), (Nat.le_of_ble_eq_true rfl)⟩) hP hD hS hA (fun H locs hP hD hS => ?_)
        refine lv_aload_n hx hb dL_law_665 rfl (lv_at hl 2 rfl) ?_
        refine lmi (r := r9) (μ' := μ9) (va_runV (As := []) (rest := [.int r9]) ⟨hx, hb, hml, hown, hts9⟩ (c_X7_clear l G  μ (r9, μ9) e2 _) (cwV 0 hts9 hL_X7_clear rfl rfl rfl (by decide +kernel) ⟨(Nat.le_of_ble_eq_true rfl), (Nat.le_of_ble_eq_true rfl)⟩) (pvm hK hP hD hS hA hX) rfl rfl hl.1 rfl (lv_room (Nat.le_of_ble_eq_true rfl)) dL_law_666 ⟨(Nat.le_of_ble_eq_true rfl), (Nat.le_of_ble_eq_true rfl)⟩) hP hD hS hA (fun H locs hP hD hS => ?_)
        refine lv_icmp_eq (tgt := 724) hx hb dL_law_669 (by decide) (fun _ => ?_) (fun c_ => absurd rfl c_)
        exact hgo σ9 μ9 hI9 _ _ _ hP hD hS hl
      by_cases c_22 : x9 = (22 : Int32)
      · obtain ⟨r9, σ9, μ9, e1, e2, hI9⟩ := hI.2.2.2.2.2.2.2.2.2.2.2.2.2.2.2.2.2.2.2.2.2.2.1  σ μ hI0
        refine lv_tableIn (off := 642) (tgt := 674) hx hb dL_law_32 (by rw [c_22]; decide) (by rw [c_22]; decide) (by rw [c_22]; rfl) (by decide) ?_
        refine lv_aload_n hx hb dL_law_674 rfl (lv_at hl 1 rfl) ?_
        refine lxi (r := r9) (σ' := σ9) (va_runV (As := []) (rest := []) ⟨hx, hb, hml, hown, hts9⟩ (c_X6_reads l G  σ (r9, σ9) e1 _) (cwV 0 hts9 hL_X6_reads rfl rfl rfl (by decide +kernel) ⟨(Nat.le_of_ble_eq_true rfl), (Nat.le_of_ble_eq_true rfl)⟩) (pvx hK hP hD hS hA hX) rfl rfl hl.1 rfl (lv_room (Nat.le_of_ble_eq_true rfl)) dL_law_675 ⟨(Nat.le_of_ble_eq_true rfl), (Nat.le_of_ble_eq_true rfl)⟩) hP hD hS hA (fun H locs hP hD hS => ?_)
        refine lv_aload_n hx hb dL_law_678 rfl (lv_at hl 2 rfl) ?_
        refine lmi (r := r9) (μ' := μ9) (va_runV (As := []) (rest := [.int r9]) ⟨hx, hb, hml, hown, hts9⟩ (c_X7_reads l G  μ (r9, μ9) e2 _) (cwV 0 hts9 hL_X7_reads rfl rfl rfl (by decide +kernel) ⟨(Nat.le_of_ble_eq_true rfl), (Nat.le_of_ble_eq_true rfl)⟩) (pvm hK hP hD hS hA hX) rfl rfl hl.1 rfl (lv_room (Nat.le_of_ble_eq_true rfl)) dL_law_679 ⟨(Nat.le_of_ble_eq_true rfl), (Nat.le_of_ble_eq_true rfl)⟩) hP hD hS hA (fun H locs hP hD hS => ?_)
        refine lv_icmp_eq (tgt := 724) hx hb dL_law_682 (by decide) (fun _ => ?_) (fun c_ => absurd rfl c_)
        exact hgo σ9 μ9 hI9 _ _ _ hP hD hS hl
      by_cases c_23 : x9 = (23 : Int32)
      · obtain ⟨r9, σ9, μ9, e1, e2, hI9⟩ := hI.2.2.2.2.2.2.2.2.2.2.2.2.2.2.2.2.2.2.2.2.2.2.2.1 (xs (nI i + (1 : Int32)).toNatClampNeg) σ μ hI0
        refine lv_tableIn (off := 655) (tgt := 687) hx hb dL_law_32 (by rw [c_23]; decide) (by rw [c_23]; decide) (by rw [c_23]; rfl) (by decide) ?_
        refine lv_aload_n hx hb dL_law_687 rfl (lv_at hl 1 rfl) ?_
        refine lv_aload_n hx hb dL_law_688 rfl (lv_at hl 0 rfl) ?_
        refine lv_iload_n hx hb dL_law_689 rfl (lv_at hl 3 rfl) ?_
        refine lv_iconst (v := (1 : Int32)) hx hb dL_law_690 (by decide) ?_
        refine lv_iadd hx hb dL_law_691 ?_
        refine va_sld hx hb hXs hbl hbA hS h_1 dL_law_692 ?_
        refine lxi (r := r9) (σ' := σ9) (va_runV (As := [.int (xs (nI i + (1 : Int32)).toNatClampNeg)]) (rest := []) ⟨hx, hb, hml, hown, hts9⟩ (c_X6_told l G (xs (nI i + (1 : Int32)).toNatClampNeg) σ (r9, σ9) e1 _) (cwV 1 hts9 hL_X6_told rfl rfl rfl (by decide +kernel) ⟨(Nat.le_of_ble_eq_true rfl), (Nat.le_of_ble_eq_true rfl)⟩) (pvx hK hP hD hS hA hX) rfl rfl hl.1 rfl (lv_room (Nat.le_of_ble_eq_true rfl)) dL_law_693 ⟨(Nat.le_of_ble_eq_true rfl), (Nat.le_of_ble_eq_true rfl)⟩) hP hD hS hA (fun H locs hP hD hS => ?_)
        refine lv_aload_n hx hb dL_law_696 rfl (lv_at hl 2 rfl) ?_
        refine lv_aload_n hx hb dL_law_697 rfl (lv_at hl 0 rfl) ?_
        refine lv_iload_n hx hb dL_law_698 rfl (lv_at hl 3 rfl) ?_
        refine lv_iconst (v := (1 : Int32)) hx hb dL_law_699 (by decide) ?_
        refine lv_iadd hx hb dL_law_700 ?_
        refine va_sld hx hb hXs hbl hbA hS h_1 dL_law_701 ?_
        refine lmi (r := r9) (μ' := μ9) (va_runV (As := [.int (xs (nI i + (1 : Int32)).toNatClampNeg)]) (rest := [.int r9]) ⟨hx, hb, hml, hown, hts9⟩ (c_X7_told l G (xs (nI i + (1 : Int32)).toNatClampNeg) μ (r9, μ9) e2 _) (cwV 1 hts9 hL_X7_told rfl rfl rfl (by decide +kernel) ⟨(Nat.le_of_ble_eq_true rfl), (Nat.le_of_ble_eq_true rfl)⟩) (pvm hK hP hD hS hA hX) rfl rfl hl.1 rfl (lv_room (Nat.le_of_ble_eq_true rfl)) dL_law_702 ⟨(Nat.le_of_ble_eq_true rfl), (Nat.le_of_ble_eq_true rfl)⟩) hP hD hS hA (fun H locs hP hD hS => ?_)
        refine lv_icmp_eq (tgt := 724) hx hb dL_law_705 (by decide) (fun _ => ?_) (fun c_ => absurd rfl c_)
        exact hgo σ9 μ9 hI9 _ _ _ hP hD hS hl
      by_cases c_24 : x9 = (24 : Int32)
      · obtain ⟨r9, σ9, μ9, e1, e2, hI9⟩ := hI.2.2.2.2.2.2.2.2.2.2.2.2.2.2.2.2.2.2.2.2.2.2.2.2  σ μ hI0
        refine lv_tableIn (off := 678) (tgt := 710) hx hb dL_law_32 (by rw [c_24]; decide) (by rw [c_24]; decide) (by rw [c_24]; rfl) (by decide) ?_
        refine lv_aload_n hx hb dL_law_710 rfl (lv_at hl 1 rfl) ?_
        refine lxl (r := r9) (σ' := σ9) (va_runV (As := []) (rest := []) ⟨hx, hb, hml, hown, hts9⟩ (c_X6_digest l G  σ (r9, σ9) e1 _) (cwV 0 hts9 hL_X6_digest rfl rfl rfl (by decide +kernel) ⟨(Nat.le_of_ble_eq_true rfl), (Nat.le_of_ble_eq_true rfl)⟩) (pvx hK hP hD hS hA hX) rfl rfl hl.1 rfl (lv_room (Nat.le_of_ble_eq_true rfl)) dL_law_711 ⟨(Nat.le_of_ble_eq_true rfl), (Nat.le_of_ble_eq_true rfl)⟩) hP hD hS hA (fun H locs hP hD hS => ?_)
        refine lv_aload_n hx hb dL_law_714 rfl (lv_at hl 2 rfl) ?_
        refine lml (r := r9) (μ' := μ9) (va_runV (As := []) (rest := [.long r9]) ⟨hx, hb, hml, hown, hts9⟩ (c_X7_digest l G  μ (r9, μ9) e2 _) (cwV 0 hts9 hL_X7_digest rfl rfl rfl (by decide +kernel) ⟨(Nat.le_of_ble_eq_true rfl), (Nat.le_of_ble_eq_true rfl)⟩) (pvm hK hP hD hS hA hX) rfl rfl hl.1 rfl (lv_room (Nat.le_of_ble_eq_true rfl)) dL_law_715 ⟨(Nat.le_of_ble_eq_true rfl), (Nat.le_of_ble_eq_true rfl)⟩) hP hD hS hA (fun H locs hP hD hS => ?_)
        refine W.lcmp hx hb dL_law_718 ?_
        refine lv_if_eq (tgt := 724) hx hb dL_law_719 (by decide) (fun _ => ?_) (fun c_ => absurd (by simp [lg_cmp]) c_)
        exact hgo σ9 μ9 hI9 _ _ _ hP hD hS hl
      refine lv_tableOut (tgt := 724) hx hb dL_law_32 (by have q0 := lv_neT (a := 0) c_0 (by decide); have q1 := lv_neT (a := 1) c_1 (by decide); have q2 := lv_neT (a := 2) c_2 (by decide); have q3 := lv_neT (a := 3) c_3 (by decide); have q4 := lv_neT (a := 4) c_4 (by decide); have q5 := lv_neT (a := 5) c_5 (by decide); have q6 := lv_neT (a := 6) c_6 (by decide); have q7 := lv_neT (a := 7) c_7 (by decide); have q8 := lv_neT (a := 8) c_8 (by decide); have q9 := lv_neT (a := 9) c_9 (by decide); have q10 := lv_neT (a := 10) c_10 (by decide); have q11 := lv_neT (a := 11) c_11 (by decide); have q12 := lv_neT (a := 12) c_12 (by decide); have q13 := lv_neT (a := 13) c_13 (by decide); have q14 := lv_neT (a := 14) c_14 (by decide); have q15 := lv_neT (a := 15) c_15 (by decide); have q16 := lv_neT (a := 16) c_16 (by decide); have q17 := lv_neT (a := 17) c_17 (by decide); have q18 := lv_neT (a := 18) c_18 (by decide); have q19 := lv_neT (a := 19) c_19 (by decide); have q20 := lv_neT (a := 20) c_20 (by decide); have q21 := lv_neT (a := 21) c_21 (by decide); have q22 := lv_neT (a := 22) c_22 (by decide); have q23 := lv_neT (a := 23) c_23 (by decide); have q24 := lv_neT (a := 24) c_24 (by decide); omega) (by decide) ?_
      exact hgo σ μ hI0 _ _ _ hP hD hS hl
set_option maxHeartbeats 4000000 in
set_option maxRecDepth 100000 in
theorem start_open (I : St → St → Prop) (hI : SimAll I) (hI0 : ∃ r0, f_X6_init_T sig00 = some r0 ∧ I r0 mu0) {p : Program} {e : Env} {s : State} {m : MethodId} {below : List Frame} {meth : Method} {c : Code} (l : Launch) {b L : Nat} {xs : Nat → Int32} (hL : L ≤ 2048) (C0 : lw_At p s m meth c b L xs) : W p l e room_1 s m #[Value.ref b] below meth c s.heap [] 0 0 (lw_Z below #[Value.ref b] s) (entryFrame m ([Value.ref b] : List Value).toArray 4) := by
  obtain ⟨hx, hb, hr, hml, hown, hts, hXs, hbl, hlocks, hgv⟩ := id C0
  obtain ⟨r0, hr0, hI1⟩ := hI0
  have hb : c.code = cL_law := hb
  have hown : s.vm.findClass RL = some m.cls := hown
  have hts9 : ∀ w ∈ lw_tbl, w.before #[Value.ref b] s = true := hts
  have hA : ∀ q : Nat, s.heap.size ≤ q → (fun q : Nat => s.heap.size ≤ q) q := fun _ h => h
  have hA2 : ∀ q : Nat, q < s.heap.size → ¬ (fun q : Nat => s.heap.size ≤ q) q := fun q h => Nat.not_le.mpr h
  have hbA : ¬ (fun q : Nat => s.heap.size ≤ q) b := Nat.not_le.mpr hbl
  obtain ⟨c0, iS0, hKn0⟩ := u_known (C := RX0) (T := TX0) (N := 5) (n := 5) hts9 wwsX00_in (hts9 (.instantiable RX0 5) mw_34)
  obtain ⟨c1, iS1, hKn1⟩ := u_known (C := RX1) (T := TX1) (N := 9) (n := 9) hts9 wwsX10_in (hts9 (.instantiable RX1 9) mw_13)
  obtain ⟨c2, iS2, hKn2⟩ := u_known (C := RX2) (T := TX2) (N := 3) (n := 3) hts9 wwsX20_in (hts9 (.instantiable RX2 3) mw_17)
  obtain ⟨c3, iS3, hKn3⟩ := u_known (C := RX3) (T := TX3) (N := 4) (n := 4) hts9 wwsX30_in (hts9 (.instantiable RX3 4) mw_42)
  obtain ⟨c4, iS4, hKn4⟩ := u_known (C := RX4) (T := TX4) (N := 2) (n := 2) hts9 wwsX40_in (hts9 (.instantiable RX4 2) mw_21)
  obtain ⟨c5, iS5, hKn5⟩ := u_known (C := RX5) (T := TX5) (N := 8) (n := 8) hts9 wwsX50_in (hts9 (.instantiable RX5 8) mw_38)
  obtain ⟨c6, iS6, hKn6⟩ := u_known (C := RX6) (T := TX6) (N := 7) (n := 7) hts9 wwsX60_in (hts9 (.instantiable RX6 7) mw_1)
  obtain ⟨c7, iS7, hKn7⟩ := u_known (C := RX7) (T := TX7) (N := 17) (n := 17) hts9 wwsX70_in (hts9 (.instantiable RX7 17) mw_4)
  obtain ⟨cI, kI, pI, fI, gI1, gI2⟩ := Cond.arrayClass_spec (hts9 (.arrayClass .int) mw_24)
  obtain ⟨cZ, kZ, pZ, fZ, gZ1, gZ2⟩ := Cond.arrayClass_spec (hts9 (.arrayClass .boolean) mw_48)
  obtain ⟨dC, dI, hKc⟩ : ∃ (dC : Nat → ClassId) (dI : Nat → Nat → Nat), ∀ (k : Nat) (q : vw_C), vwCl[k]? = some q → u_Kn s q.1 q.2.1 q.2.2 (dC k) (dI k) := by
    refine ⟨fun k => [c0, c1, c2, c3, c4, c5, c6, c7].getD k c0, fun k => [iS0, iS1, iS2, iS3, iS4, iS5, iS6, iS7].getD k iS0, ?_⟩
    intro k q hq
    match k, hq with
    | 0, hq => cases hq; exact hKn0
    | 1, hq => cases hq; exact hKn1
    | 2, hq => cases hq; exact hKn2
    | 3, hq => cases hq; exact hKn3
    | 4, hq => cases hq; exact hKn4
    | 5, hq => cases hq; exact hKn5
    | 6, hq => cases hq; exact hKn6
    | 7, hq => cases hq; exact hKn7
    | k + 8, hq => simp [vwCl] at hq
  have hs := flat_of_before _ hgv
  obtain ⟨t0, ht0, hT0⟩ := va_Tof (s := s) (args := #[Value.ref b]) (tm := (.static "FillCells" "SETTING_FIRST" "[I")) (ty := .int) (N := 8) (f := fun j => .int (svl 0 j)) (A := (fun q : Nat => s.heap.size ≤ q)) (by decide) (hs (.arrayOf (.static "FillCells" "SETTING_FIRST" "[I") .int) (by decide +kernel)) (va_eqt (z := Int32.ofNat 8) (hs (.eq (.length (.static "FillCells" "SETTING_FIRST" "[I")) (.int 8)) (by decide +kernel))) (fun j hj => by
    match j, hj with
    | 0, _ => exact va_eqt (hs (.eq (.elem (.static "FillCells" "SETTING_FIRST" "[I") (.int 0)) (.int 2)) (by decide +kernel))
    | 1, _ => exact va_eqt (hs (.eq (.elem (.static "FillCells" "SETTING_FIRST" "[I") (.int 1)) (.int 3)) (by decide +kernel))
    | 2, _ => exact va_eqt (hs (.eq (.elem (.static "FillCells" "SETTING_FIRST" "[I") (.int 2)) (.int 0)) (by decide +kernel))
    | 3, _ => exact va_eqt (hs (.eq (.elem (.static "FillCells" "SETTING_FIRST" "[I") (.int 3)) (.int 720)) (by decide +kernel))
    | 4, _ => exact va_eqt (hs (.eq (.elem (.static "FillCells" "SETTING_FIRST" "[I") (.int 4)) (.int 99)) (by decide +kernel))
    | 5, _ => exact va_eqt (hs (.eq (.elem (.static "FillCells" "SETTING_FIRST" "[I") (.int 5)) (.int 99)) (by decide +kernel))
    | 6, _ => exact va_eqt (hs (.eq (.elem (.static "FillCells" "SETTING_FIRST" "[I") (.int 6)) (.int 99)) (by decide +kernel))
    | 7, _ => exact va_eqt (hs (.eq (.elem (.static "FillCells" "SETTING_FIRST" "[I") (.int 7)) (.int 0)) (by decide +kernel))
    | j + 8, hj => omega) hA2
  have hZ0 := va_Zref (C := "FillCells") (n := "SETTING_FIRST") (d := "[I") (hts (.laysStatic "FillCells" "SETTING_FIRST" "[I") (by decide +kernel)) (hts (.initialized "FillCells") (by decide +kernel)) ht0 hA2
  obtain ⟨t1, ht1, hT1⟩ := va_Tof (s := s) (args := #[Value.ref b]) (tm := (.static "FillCells" "SETTING_LEAST" "[I")) (ty := .int) (N := 8) (f := fun j => .int (svl 1 j)) (A := (fun q : Nat => s.heap.size ≤ q)) (by decide) (hs (.arrayOf (.static "FillCells" "SETTING_LEAST" "[I") .int) (by decide +kernel)) (va_eqt (z := Int32.ofNat 8) (hs (.eq (.length (.static "FillCells" "SETTING_LEAST" "[I")) (.int 8)) (by decide +kernel))) (fun j hj => by
    match j, hj with
    | 0, _ => exact va_eqt (hs (.eq (.elem (.static "FillCells" "SETTING_LEAST" "[I") (.int 0)) (.int 1)) (by decide +kernel))
    | 1, _ => exact va_eqt (hs (.eq (.elem (.static "FillCells" "SETTING_LEAST" "[I") (.int 1)) (.int 1)) (by decide +kernel))
    | 2, _ => exact va_eqt (hs (.eq (.elem (.static "FillCells" "SETTING_LEAST" "[I") (.int 2)) (.int 0)) (by decide +kernel))
    | 3, _ => exact va_eqt (hs (.eq (.elem (.static "FillCells" "SETTING_LEAST" "[I") (.int 3)) (.int 0)) (by decide +kernel))
    | 4, _ => exact va_eqt (hs (.eq (.elem (.static "FillCells" "SETTING_LEAST" "[I") (.int 4)) (.int 0)) (by decide +kernel))
    | 5, _ => exact va_eqt (hs (.eq (.elem (.static "FillCells" "SETTING_LEAST" "[I") (.int 5)) (.int 0)) (by decide +kernel))
    | 6, _ => exact va_eqt (hs (.eq (.elem (.static "FillCells" "SETTING_LEAST" "[I") (.int 6)) (.int 0)) (by decide +kernel))
    | 7, _ => exact va_eqt (hs (.eq (.elem (.static "FillCells" "SETTING_LEAST" "[I") (.int 7)) (.int 0)) (by decide +kernel))
    | j + 8, hj => omega) hA2
  have hZ1 := va_Zref (C := "FillCells") (n := "SETTING_LEAST") (d := "[I") (hts (.laysStatic "FillCells" "SETTING_LEAST" "[I") (by decide +kernel)) (hts (.initialized "FillCells") (by decide +kernel)) ht1 hA2
  obtain ⟨t2, ht2, hT2⟩ := va_Tof (s := s) (args := #[Value.ref b]) (tm := (.static "FillCells" "SETTING_MOST" "[I")) (ty := .int) (N := 8) (f := fun j => .int (svl 2 j)) (A := (fun q : Nat => s.heap.size ≤ q)) (by decide) (hs (.arrayOf (.static "FillCells" "SETTING_MOST" "[I") .int) (by decide +kernel)) (va_eqt (z := Int32.ofNat 8) (hs (.eq (.length (.static "FillCells" "SETTING_MOST" "[I")) (.int 8)) (by decide +kernel))) (fun j hj => by
    match j, hj with
    | 0, _ => exact va_eqt (hs (.eq (.elem (.static "FillCells" "SETTING_MOST" "[I") (.int 0)) (.int 8)) (by decide +kernel))
    | 1, _ => exact va_eqt (hs (.eq (.elem (.static "FillCells" "SETTING_MOST" "[I") (.int 1)) (.int 10)) (by decide +kernel))
    | 2, _ => exact va_eqt (hs (.eq (.elem (.static "FillCells" "SETTING_MOST" "[I") (.int 2)) (.int 720)) (by decide +kernel))
    | 3, _ => exact va_eqt (hs (.eq (.elem (.static "FillCells" "SETTING_MOST" "[I") (.int 3)) (.int 720)) (by decide +kernel))
    | 4, _ => exact va_eqt (hs (.eq (.elem (.static "FillCells" "SETTING_MOST" "[I") (.int 4)) (.int 99)) (by decide +kernel))
    | 5, _ => exact va_eqt (hs (.eq (.elem (.static "FillCells" "SETTING_MOST" "[I") (.int 5)) (.int 99)) (by decide +kernel))
    | 6, _ => exact va_eqt (hs (.eq (.elem (.static "FillCells" "SETTING_MOST" "[I") (.int 6)) (.int 99)) (by decide +kernel))
    | 7, _ => exact va_eqt (hs (.eq (.elem (.static "FillCells" "SETTING_MOST" "[I") (.int 7)) (.int 4)) (by decide +kernel))
    | j + 8, hj => omega) hA2
  have hZ2 := va_Zref (C := "FillCells") (n := "SETTING_MOST") (d := "[I") (hts (.laysStatic "FillCells" "SETTING_MOST" "[I") (by decide +kernel)) (hts (.initialized "FillCells") (by decide +kernel)) ht2 hA2
  obtain ⟨t3, ht3, hT3⟩ := va_Tof (s := s) (args := #[Value.ref b]) (tm := (.static "FillCells" "PART_MOST" "[I")) (ty := .int) (N := 4) (f := fun j => .int (svl 3 j)) (A := (fun q : Nat => s.heap.size ≤ q)) (by decide) (hs (.arrayOf (.static "FillCells" "PART_MOST" "[I") .int) (by decide +kernel)) (va_eqt (z := Int32.ofNat 4) (hs (.eq (.length (.static "FillCells" "PART_MOST" "[I")) (.int 4)) (by decide +kernel))) (fun j hj => by
    match j, hj with
    | 0, _ => exact va_eqt (hs (.eq (.elem (.static "FillCells" "PART_MOST" "[I") (.int 0)) (.int 9)) (by decide +kernel))
    | 1, _ => exact va_eqt (hs (.eq (.elem (.static "FillCells" "PART_MOST" "[I") (.int 1)) (.int 1)) (by decide +kernel))
    | 2, _ => exact va_eqt (hs (.eq (.elem (.static "FillCells" "PART_MOST" "[I") (.int 2)) (.int 3)) (by decide +kernel))
    | 3, _ => exact va_eqt (hs (.eq (.elem (.static "FillCells" "PART_MOST" "[I") (.int 3)) (.int 3)) (by decide +kernel))
    | j + 4, hj => omega) hA2
  have hZ3 := va_Zref (C := "FillCells") (n := "PART_MOST") (d := "[I") (hts (.laysStatic "FillCells" "PART_MOST" "[I") (by decide +kernel)) (hts (.initialized "FillCells") (by decide +kernel)) ht3 hA2
  obtain ⟨G0, hG0⟩ : ∃ G0 : EV, G0 = ((dC, dI), (cI, cZ), (fun _ => 0), (fun k => [t0, t1, t2, t3].getD k 0)) := ⟨_, rfl⟩
  have hK : va_K G0.1 vwCl (tyW G0) s := by
    subst hG0
    refine ⟨hKc, fun k q h => ?_⟩
    match k, h with
    | 0, h => cases h; exact ⟨fun n z => ⟨fun k h => (by cases h), kI, gI1, pI, gI2⟩, fI⟩
    | 1, h => cases h; exact ⟨fun n z => ⟨fun k h => (by cases h), kZ, gZ1, pZ, gZ2⟩, fZ⟩
    | k + 2, h => simp at h
  have hX : XX G0 (fun q : Nat => s.heap.size ≤ q) s s.heap := by
    subst hG0
    refine ⟨fun w hw => ?_, fun k hk => ?_⟩
    · simp only [nestW, List.mem_cons, List.not_mem_nil, or_false] at hw
      rcases hw with rfl | rfl | rfl | rfl | rfl | rfl | rfl | rfl
      · exact va_Nw.of rfl (hts (.methodLinkNest RX6 9 yX1_init RX6) (by decide +kernel))
      · exact va_Nw.of rfl (hts (.methodLinkNest RX6 18 yX2_init RX6) (by decide +kernel))
      · exact va_Nw.of rfl (hts (.methodLinkNest RX6 25 yX4_init RX6) (by decide +kernel))
      · exact va_Nw.of rfl (hts (.methodLinkNest RX1 11 yX0_init RX6) (by decide +kernel))
      · exact va_Nw.of rfl (hts (.methodLinkNest RX1 20 yX5_init RX6) (by decide +kernel))
      · exact va_Nw.of rfl (hts (.methodLinkNest RX1 27 yX3_init RX6) (by decide +kernel))
      · exact va_Nw.of rfl (hts (.methodLinkNest RX1 132 yX6_total RX6) (by decide +kernel))
      · exact va_Nw.of rfl (hts (.methodLinkNest RX4 27 yX6_isCell RX6) (by decide +kernel))
    · match k, hk with
      | 0, _ => exact ⟨hZ0, hT0⟩
      | 1, _ => exact ⟨hZ1, hT1⟩
      | 2, _ => exact ⟨hZ2, hT2⟩
      | 3, _ => exact ⟨hZ3, hT3⟩
      | k + 4, hk => omega
  clear hG0
  have hS : va_S (fun q : Nat => s.heap.size ≤ q) s.heap s.heap [] := va_S.rf
  have hP : va_P G0.1 vwCl [] s.heap := fun k q h => by simp at h
  have hD : va_D (fun q : Nat => s.heap.size ≤ q) [] := ⟨fun i j p q h => by simp at h, fun k q h => by simp at h⟩
  have hl := lv_entry ([.ref b]) (n := 4) (Nat.le_of_ble_eq_true rfl)
  rw [lg_entry_eq]
  generalize (lg_sl ([.ref b]) ++ List.replicate (4 - (lg_sl ([.ref b])).length) Slot.unset).toArray = ls at hl ⊢
  have hl : lv_has ls 4 [(0, .ref b)] := hl
  refine va_new (ci := 6) (fs := [.null, .null, .null, .null, .int 0, .int 0, .int 0]) (C := RX6) (T := TX6) (N := 7) hx hb hts9 wwsX60_in tyX6 tyX6_ok hown (hts9 (.classLink RL 7 RX6) mw_0) (hts9 (.instantiable RX6 7) mw_1) (hts9 (.initialized RX6) mw_2) hK hP hD hS hA rfl (fun j hj => by rcases (show j = 0 ∨ j = 1 ∨ j = 2 ∨ j = 3 ∨ j = 4 ∨ j = 5 ∨ j = 6 by omega) with rfl | rfl | rfl | rfl | rfl | rfl | rfl <;> rfl) (Nat.le_of_ble_eq_true rfl) (Nat.le_of_ble_eq_true rfl) dL_law_0 (fun q0 H hP hD hS => ?_)
  have hP : va_P G0.1 vwCl [(q0, .inr (6, [.null, .null, .null, .null, .int 0, .int 0, .int 0]))] H := hP
  have hD : va_D (fun q : Nat => s.heap.size ≤ q) [(q0, .inr (6, [.null, .null, .null, .null, .int 0, .int 0, .int 0]))] := hD
  refine W.widen (k := 1) (n := 7) (Nat.le_of_ble_eq_true rfl) (Nat.le_of_ble_eq_true rfl) ?_
  refine lv_dup hx hb dL_law_3 rfl ?_
  have hPc := hP.sub (ws' := [(q0, .inr (6, [.null, .null, .null, .null, .int 0, .int 0, .int 0]))]) [0] rfl
  have hDc := hD.sub (ws' := [(q0, .inr (6, [.null, .null, .null, .null, .int 0, .int 0, .int 0]))]) [0] (by decide) rfl
  have hFc := va_free (wc := [(q0, .inr (6, [.null, .null, .null, .null, .int 0, .int 0, .int 0]))]) hD hS hA [0] rfl
  refine cn (va_runI (As := []) (rest := [.ref q0]) ⟨hx, hb, hml, hown, hts9⟩ (c_X6_init l G0 q0 r0 hr0 _) (cwI 0 hts9 hL_X6_init rfl rfl rfl (hts9 (.initialized RX6) mw_2) (hts9 (.methodLink RL 9 yX6_init) mw_6) (hts9 (.instanceMethod yX6_init) mw_7) rfl (by decide +kernel) ⟨(Nat.le_of_ble_eq_true rfl), (Nat.le_of_ble_eq_true rfl)⟩) (preSub hK hPc hDc hS hFc hX) rfl rfl hl.1 rfl (lv_room (Nat.le_of_ble_eq_true rfl)) dL_law_4 ⟨(Nat.le_of_ble_eq_true rfl), (Nat.le_of_ble_eq_true rfl)⟩) hP hD hS hA [0] [] (wr := []) rfl rfl (by decide) (by decide) (fun u H locs hP hD hS => ?_)
  have hP : va_P G0.1 vwCl (wI_X6 G0 q0 r0 u) H := hP
  have hD : va_D (fun q : Nat => s.heap.size ≤ q) (wI_X6 G0 q0 r0 u) := hD
  refine W.widen (k := 26) (n := 2044) (Nat.le_of_ble_eq_true rfl) (Nat.le_of_ble_eq_true rfl) ?_
  refine lv_astore_n (lv' := [(1, .ref q0), (0, .ref b)]) hx hb dL_law_7 rfl hl (by decide) rfl (fun ls hl => ?_)
  refine va_new (ci := 7) (fs := [.null, .null, .int 0, .null, .null, .null, .null, .int 0, .int 0, .null, .null, .null, .null, .int 0, .null, .null, .null]) (C := RX7) (T := TX7) (N := 17) hx hb hts9 wwsX70_in tyX7 tyX7_ok hown (hts9 (.classLink RL 10 RX7) mw_3) (hts9 (.instantiable RX7 17) mw_4) (hts9 (.initialized RX7) mw_5) hK hP hD hS hA rfl (fun j hj => by rcases (show j = 0 ∨ j = 1 ∨ j = 2 ∨ j = 3 ∨ j = 4 ∨ j = 5 ∨ j = 6 ∨ j = 7 ∨ j = 8 ∨ j = 9 ∨ j = 10 ∨ j = 11 ∨ j = 12 ∨ j = 13 ∨ j = 14 ∨ j = 15 ∨ j = 16 by omega) with rfl | rfl | rfl | rfl | rfl | rfl | rfl | rfl | rfl | rfl | rfl | rfl | rfl | rfl | rfl | rfl | rfl <;> rfl) (Nat.le_of_ble_eq_true rfl) (Nat.le_of_ble_eq_true rfl) dL_law_8 (fun q1 H hP hD hS => ?_)
  refine W.widen (k := 27) (n := 2061) (Nat.le_of_ble_eq_true rfl) (Nat.le_of_ble_eq_true rfl) ?_
  refine lv_dup hx hb dL_law_11 rfl ?_
  have hPc := hP.sub (ws' := [(q1, .inr (7, [.null, .null, .int 0, .null, .null, .null, .null, .int 0, .int 0, .null, .null, .null, .null, .int 0, .null, .null, .null]))]) [26] rfl
  have hDc := hD.sub (ws' := [(q1, .inr (7, [.null, .null, .int 0, .null, .null, .null, .null, .int 0, .int 0, .null, .null, .null, .null, .int 0, .null, .null, .null]))]) [26] (by decide) rfl
  have hFc := va_free (wc := [(q1, .inr (7, [.null, .null, .int 0, .null, .null, .null, .null, .int 0, .int 0, .null, .null, .null, .null, .int 0, .null, .null, .null]))]) hD hS hA [26] rfl
  refine cn (va_runI (As := []) (rest := [.ref q1]) ⟨hx, hb, hml, hown, hts9⟩ (c_X7_init l G0 q1  _) (cwI 0 hts9 hL_X7_init rfl rfl rfl (hts9 (.initialized RX7) mw_5) (hts9 (.methodLink RL 12 yX7_init) mw_152) (hts9 (.instanceMethod yX7_init) mw_153) rfl (by decide +kernel) ⟨(Nat.le_of_ble_eq_true rfl), (Nat.le_of_ble_eq_true rfl)⟩) (preSub hK hPc hDc hS hFc hX) rfl rfl hl.1 rfl (lv_room (Nat.le_of_ble_eq_true rfl)) dL_law_12 ⟨(Nat.le_of_ble_eq_true rfl), (Nat.le_of_ble_eq_true rfl)⟩) hP hD hS hA [26] [0, 1, 2, 3, 4, 5, 6, 7, 8, 9, 10, 11, 12, 13, 14, 15, 16, 17, 18, 19, 20, 21, 22, 23, 24, 25] (wr := wI_X6 G0 q0 r0 u) rfl rfl (by decide) (by decide) (fun v H locs hP hD hS => ?_)
  refine W.widen (k := 40) (n := 6535) (Nat.le_of_ble_eq_true rfl) (Nat.le_of_ble_eq_true rfl) ?_
  refine lv_astore_n (lv' := [(2, .ref q1), (1, .ref q0), (0, .ref b)]) hx hb dL_law_15 rfl hl (by decide) rfl (fun ls hl => ?_)
  refine lv_iconst (v := (0 : Int32)) hx hb dL_law_16 (by decide) ?_
  refine lv_istore_n (lv' := [(3, .int (0 : Int32)), (2, .ref q1), (1, .ref q0), (0, .ref b)]) hx hb dL_law_17 rfl hl (by decide) rfl (fun ls hl => ?_)
  have hh := law_loop l I hI (G0.1, G0.2.1, (fun k => bif Nat.ble 30 k then (bif Nat.beq k 43 then q1 else v k) else (bif Nat.beq k 25 then q0 else u k)), G0.2.2.2) (e := e) (below := below) hL C0 hK hX (L + 8) 0 r0 mu0 (by omega) (by omega) hI1 _ _ ls hP hD hS (lv_sub hl [3, 2, 1, 0] rfl)
  exact hh

/-! ===== THE BASE: pure words; the worlds of the class and of the reference; contracts that keep a whole world; calls ===== -/
/-- a state: arrays by their numbers, whole-number fields by theirs -/
abbrev St : Type := (Nat → Nat → Int32) × (Nat → Int32)
abbrev rd (σ : St) (k : Nat) (i : Int32) : Int32 := σ.1 k i.toNatClampNeg
abbrev gI (σ : St) (k : Nat) : Int32 := σ.2 k
def sAA (σ : St) (k : Nat) (g : Nat → Int32) : St := (fun j => bif Nat.beq j k then g else σ.1 j, σ.2)
def sA (σ : St) (k : Nat) (i x : Int32) : St := sAA σ k (upd (σ.1 k) i.toNatClampNeg x)
def sI (σ : St) (k : Nat) (x : Int32) : St := (σ.1, fun j => bif Nat.beq j k then x else σ.2 j)
abbrev jrem (x y : Int32) : Int32 := x - x / y * y
abbrev jlrem (x y : Int64) : Int64 := x - x / y * y
def gd {α : Type} (i : Int32) (n : Nat) (e : Option α) : Option α := if i < 0 ∨ n ≤ i.toNatClampNeg then none else e
theorem gd_some {α : Type} {i : Int32} {n : Nat} {e : Option α} {r : α} (h : gd i n e = some r) : vp_in i n ∧ e = some r := by
  unfold gd at h
  split at h
  · cases h
  · rename_i h1
    exact ⟨h1, h⟩
def dz {α : Type} (y : Int32) (e : Option α) : Option α := if y = 0 then none else e
theorem dz_some {α : Type} {y : Int32} {e : Option α} {r : α} (h : dz y e = some r) : (¬ y = 0) ∧ e = some r := by
  unfold dz at h
  split at h
  · cases h
  · rename_i h1
    exact ⟨h1, h⟩
def dzl {α : Type} (y : Int64) (e : Option α) : Option α := if y = 0 then none else e
theorem dzl_some {α : Type} {y : Int64} {e : Option α} {r : α} (h : dzl y e = some r) : (¬ y = 0) ∧ e = some r := by
  unfold dzl at h
  split at h
  · cases h
  · rename_i h1
    exact ⟨h1, h⟩
/-- an answer that is true or false -/
def gb {α : Type} (v : Int32) (e : Option α) : Option α := if v &&& 1 = v then e else none
theorem gb_some {α : Type} {v : Int32} {e : Option α} {r : α} (h : gb v e = some r) : narrow .boolean (.int v) = .int v ∧ e = some r := by
  unfold gb at h
  split at h
  · rename_i h1
    exact ⟨by simp [narrow, h1], h⟩
  · cases h
/-- any other thing that must hold -/
def gq {α : Type} (c : Prop) [Decidable c] (e : Option α) : Option α := if c then e else none
theorem gq_some {α : Type} {c : Prop} [Decidable c] {e : Option α} {r : α} (h : gq c e = some r) : c ∧ e = some r := by
  unfold gq at h
  split at h
  · rename_i h1
    exact ⟨h1, h⟩
  · cases h
def bnd {α β : Type} (o : Option α) (k : α → Option β) : Option β := match o with
  | none => none
  | some x => k x
theorem bnd_some {α β : Type} {o : Option α} {k : α → Option β} {r : β} (h : bnd o k = some r) : ∃ x, o = some x ∧ k x = some r := by
  cases o with
  | none => cases h
  | some x => exact ⟨x, rfl, h⟩
theorem ip {α : Type} {c : Prop} {d : Decidable c} {a b : α} {r : α} (h : c) (hE : @ite α c d a b = r) : a = r := by rw [if_pos h] at hE; exact hE
theorem im {α : Type} {c : Prop} {d : Decidable c} {a b : α} {r : α} (h : ¬ c) (hE : @ite α c d a b = r) : b = r := by rw [if_neg h] at hE; exact hE
def loopN {V Y : Type} (body : V → Option (Y ⊕ V)) : Nat → V → Option Y
  | 0, _ => none
  | n + 1, v => match body v with
    | none => none
    | some (.inl y) => some y
    | some (.inr v') => loopN body n v'
theorem loop_W {V Y : Type} {body : V → Option (Y ⊕ V)} {y : Y} {P : V → Prop} (hs : ∀ v t, body v = some t → (∀ v', t = .inr v' → P v') → (∀ y', t = .inl y' → y' = y) → P v) : ∀ n v, loopN body n v = some y → P v := by
  intro n
  induction n with
  | zero => intro v h; cases h
  | succ n ih =>
    intro v h
    unfold loopN at h
    cases hb : body v with
    | none => rw [hb] at h; cases h
    | some t =>
      rw [hb] at h
      refine hs v t hb ?_ ?_
      · intro v' e
        subst e
        exact ih v' h
      · intro y' e
        subst e
        exact Option.some.inj h
/-- an early answer out of a loop -/
def ear {R X T : Type} (inj : R → T) (y : R ⊕ X) (k : X → Option T) : Option T := match y with
  | .inl r => some (inj r)
  | .inr x => k x
theorem ear_l {R X T : Type} {inj : R → T} {y : R ⊕ X} {k : X → Option T} {r : T} (r' : R) (he : Sum.inl r' = y) (h : ear inj y k = some r) : some (inj r') = some r := by
  subst he; exact h
theorem ear_r {R X T : Type} {inj : R → T} {y : R ⊕ X} {k : X → Option T} {r : T} (x : X) (he : Sum.inr x = y) (h : ear inj y k = some r) : k x = some r := by
  subst he; exact h
abbrev jmin (x y : Int32) : Int32 := if y < x then y else x
abbrev jmax (x y : Int32) : Int32 := if x < y then y else x
/-! ===== the worlds ===== -/
/-- the class tables' numbers, the array classes of int and boolean, the addresses of the cells, of the static rows -/
abbrev EV : Type := va_G × (ClassId × ClassId) × (Nat → Nat) × (Nat → Nat)
abbrev aD (G : EV) (k : Nat) : Nat := G.2.2.1 k
abbrev tD (G : EV) (k : Nat) : Nat := G.2.2.2 k
abbrev tyW (G : EV) : List (ClassId × FieldType) := [(G.2.1.1, .int), (G.2.1.2, .boolean)]
def lnC (k : Nat) : Nat := match k with
  | 8 => 320
  | 9 => 4
  | 10 => 4
  | 12 => 16
  | 14 => 10
  | 15 => 720
  | 16 => 120
  | 17 => 8
  | _ => 80
def lnM (k : Nat) : Nat := match k with
  | 0 => 400
  | 1 => 3200
  | 2 => 400
  | 3 => 8
  | 4 => 3
  | 5 => 120
  | 10 => 4
  | 11 => 4
  | 12 => 15
  | _ => 80
/-- the class's world: 18 rows of ints, a row of booleans, 7 objects -/
abbrev wC (G : EV) (σ : St) : va_W := [
  (aD G 0, .inl (G.2.1.1, 80, .inl (σ.1 0))), (aD G 1, .inl (G.2.1.1, 80, .inl (σ.1 1))), (aD G 2, .inl (G.2.1.1, 80, .inl (σ.1 2))), (aD G 3, .inl (G.2.1.1, 80, .inl (σ.1 3))), (aD G 4, .inl (G.2.1.1, 80, .inl (σ.1 4))),
  (aD G 5, .inl (G.2.1.1, 80, .inl (σ.1 5))), (aD G 6, .inl (G.2.1.1, 80, .inl (σ.1 6))), (aD G 7, .inl (G.2.1.1, 80, .inl (σ.1 7))), (aD G 8, .inl (G.2.1.1, 320, .inl (σ.1 8))),
  (aD G 9, .inl (G.2.1.1, 4, .inl (σ.1 9))), (aD G 10, .inl (G.2.1.1, 4, .inl (σ.1 10))), (aD G 11, .inl (G.2.1.1, 80, .inl (σ.1 11))), (aD G 12, .inl (G.2.1.1, 16, .inl (σ.1 12))),
  (aD G 13, .inl (G.2.1.1, 80, .inl (σ.1 13))), (aD G 14, .inl (G.2.1.1, 10, .inl (σ.1 14))), (aD G 15, .inl (G.2.1.1, 720, .inl (σ.1 15))), (aD G 16, .inl (G.2.1.1, 120, .inl (σ.1 16))), (aD G 17, .inl (G.2.1.1, 8, .inl (σ.1 17))),
  (aD G 18, .inl (G.2.1.2, 4, .inl (σ.1 18))),
  (aD G 19, .inr (0, [.ref (aD G 0), .ref (aD G 1), .ref (aD G 2), .ref (aD G 3), .ref (aD G 4)])),
  (aD G 20, .inr (5, [.int (σ.2 6), .int (σ.2 7), .int (σ.2 8), .int (σ.2 9), .ref (aD G 5), .ref (aD G 6), .ref (aD G 7), .ref (aD G 8)])),
  (aD G 21, .inr (3, [.ref (aD G 9), .ref (aD G 10), .ref (aD G 11), .ref (aD G 12)])),
  (aD G 22, .inr (1, [.ref (aD G 19), .ref (aD G 20), .ref (aD G 21), .int (σ.2 0), .int (σ.2 1), .int (σ.2 2), .ref (aD G 18), .ref (aD G 13), .ref (aD G 14)])),
  (aD G 23, .inr (2, [.int (σ.2 3), .int (σ.2 4), .ref (aD G 15)])),
  (aD G 24, .inr (4, [.int (σ.2 5), .ref (aD G 16)])),
  (aD G 25, .inr (6, [.ref (aD G 22), .ref (aD G 23), .ref (aD G 24), .ref (aD G 17), .int (σ.2 10), .int (σ.2 11), .int (σ.2 12)]))]
/-- the reference's world: 13 rows of ints, one object -/
abbrev wM (G : EV) (σ : St) : va_W := [
  (aD G 30, .inl (G.2.1.1, 400, .inl (σ.1 0))), (aD G 31, .inl (G.2.1.1, 3200, .inl (σ.1 1))), (aD G 32, .inl (G.2.1.1, 400, .inl (σ.1 2))), (aD G 33, .inl (G.2.1.1, 8, .inl (σ.1 3))), (aD G 34, .inl (G.2.1.1, 3, .inl (σ.1 4))),
  (aD G 35, .inl (G.2.1.1, 120, .inl (σ.1 5))), (aD G 36, .inl (G.2.1.1, 80, .inl (σ.1 6))), (aD G 37, .inl (G.2.1.1, 80, .inl (σ.1 7))), (aD G 38, .inl (G.2.1.1, 80, .inl (σ.1 8))), (aD G 39, .inl (G.2.1.1, 80, .inl (σ.1 9))),
  (aD G 40, .inl (G.2.1.1, 4, .inl (σ.1 10))), (aD G 41, .inl (G.2.1.1, 4, .inl (σ.1 11))), (aD G 42, .inl (G.2.1.1, 15, .inl (σ.1 12))),
  (aD G 43, .inr (7, [.ref (aD G 30), .ref (aD G 31), .int (σ.2 0), .ref (aD G 32), .ref (aD G 33), .ref (aD G 34), .ref (aD G 35), .int (σ.2 1), .int (σ.2 2), .ref (aD G 36), .ref (aD G 37), .ref (aD G 38), .ref (aD G 39), .int (σ.2 3), .ref (aD G 40), .ref (aD G 41), .ref (aD G 42)]))]
theorem wC_at (G : EV) (σ : St) : ∀ k, k < 18 → (wC G σ)[k]? = some (aD G k, .inl (G.2.1.1, lnC k, .inl (σ.1 k))) := by
  intro k h
  match k, h with
  | 0, _ => rfl
  | 1, _ => rfl
  | 2, _ => rfl
  | 3, _ => rfl
  | 4, _ => rfl
  | 5, _ => rfl
  | 6, _ => rfl
  | 7, _ => rfl
  | 8, _ => rfl
  | 9, _ => rfl
  | 10, _ => rfl
  | 11, _ => rfl
  | 12, _ => rfl
  | 13, _ => rfl
  | 14, _ => rfl
  | 15, _ => rfl
  | 16, _ => rfl
  | 17, _ => rfl
  | k + 18, h => omega
theorem wC_set (G : EV) (σ : St) (g : Nat → Int32) : ∀ k, k < 18 → (wC G σ).set k (aD G k, .inl (G.2.1.1, lnC k, .inl g)) = wC G (sAA σ k g) := by
  intro k h
  match k, h with
  | 0, _ => rfl
  | 1, _ => rfl
  | 2, _ => rfl
  | 3, _ => rfl
  | 4, _ => rfl
  | 5, _ => rfl
  | 6, _ => rfl
  | 7, _ => rfl
  | 8, _ => rfl
  | 9, _ => rfl
  | 10, _ => rfl
  | 11, _ => rfl
  | 12, _ => rfl
  | 13, _ => rfl
  | 14, _ => rfl
  | 15, _ => rfl
  | 16, _ => rfl
  | 17, _ => rfl
  | k + 18, h => omega
theorem wM_at (G : EV) (σ : St) : ∀ k, k < 13 → (wM G σ)[k]? = some (aD G (30 + k), .inl (G.2.1.1, lnM k, .inl (σ.1 k))) := by
  intro k h
  match k, h with
  | 0, _ => rfl
  | 1, _ => rfl
  | 2, _ => rfl
  | 3, _ => rfl
  | 4, _ => rfl
  | 5, _ => rfl
  | 6, _ => rfl
  | 7, _ => rfl
  | 8, _ => rfl
  | 9, _ => rfl
  | 10, _ => rfl
  | 11, _ => rfl
  | 12, _ => rfl
  | k + 13, h => omega
theorem wM_set (G : EV) (σ : St) (g : Nat → Int32) : ∀ k, k < 13 → (wM G σ).set k (aD G (30 + k), .inl (G.2.1.1, lnM k, .inl g)) = wM G (sAA σ k g) := by
  intro k h
  match k, h with
  | 0, _ => rfl
  | 1, _ => rfl
  | 2, _ => rfl
  | 3, _ => rfl
  | 4, _ => rfl
  | 5, _ => rfl
  | 6, _ => rfl
  | 7, _ => rfl
  | 8, _ => rfl
  | 9, _ => rfl
  | 10, _ => rfl
  | 11, _ => rfl
  | 12, _ => rfl
  | k + 13, h => omega
/-- the static rows of the class, and the words of the private members of nest mates -/
def snm (k : Nat) : String := match k with
  | 0 => "SETTING_FIRST"
  | 1 => "SETTING_LEAST"
  | 2 => "SETTING_MOST"
  | _ => "PART_MOST"
def sln (k : Nat) : Nat := match k with
  | 3 => 4
  | _ => 8
def svl (k j : Nat) : Int32 := match k with
  | 0 => ([2, 3, 0, 720, 99, 99, 99, 0] : List Int32).getD j 0
  | 1 => ([1, 1, 0, 0, 0, 0, 0, 0] : List Int32).getD j 0
  | 2 => ([8, 10, 720, 720, 99, 99, 99, 4] : List Int32).getD j 0
  | _ => ([9, 1, 3, 3] : List Int32).getD j 0
def nestW : List (String × Nat × MethodName × String) := [(RX6, 9, yX1_init, RX6), (RX6, 18, yX2_init, RX6), (RX6, 25, yX4_init, RX6), (RX1, 11, yX0_init, RX6), (RX1, 20, yX5_init, RX6), (RX1, 27, yX3_init, RX6), (RX1, 132, yX6_total, RX6), (RX4, 27, yX6_isCell, RX6)]
def XX (G : EV) (A : Nat → Prop) (U : State) (H : Heap) : Prop := (∀ w ∈ nestW, va_Nw (.methodLinkNest w.1 w.2.1 w.2.2.1 w.2.2.2) U) ∧ ∀ k, k < 4 → va_Z "FillCells" (snm k) "[I" (.ref (tD G k)) A U H ∧ va_T .int (tD G k) (sln k) (fun j => .int (svl k j)) A U H
theorem XX.go {G : EV} {A B : Nat → Prop} {s U : State} {H : Heap} {locs : List Loc} (h : XX G A s s.heap) (hW : s.WarmedH U.vm) (hS : va_S A s.heap H locs) (hAB : ∀ q, B q → A q) : XX G B U H := by
  refine ⟨fun w hw => va_Nw.warmM hW (h.1 w hw), fun k hk => ⟨?_, ?_⟩⟩
  · exact va_Z.moved hW.alike (((h.2 k hk).1.kept (fun a h1 h2 => hS.2.1 a h1 h2)).narrow hAB)
  · exact va_T.moved hW.alike (((h.2 k hk).2.kept (fun a h1 h2 => hS.2.1 a h1 h2)).narrow hAB)
theorem XX.call {G : EV} {A : Nat → Prop} {U : State} {H : Heap} {g : JFrame} {mk : MethodId} {a : Array Value} (h : XX G A U H) : XX G A (U.calling g mk a) H :=
  ⟨fun w hw => va_Nw.same rfl rfl (h.1 w hw), fun k hk => ⟨va_Z.moved (u := U) (U := U.calling g mk a) (Vm.Alike.refl U.vm) (h.2 k hk).1, va_T.moved (u := U) (U := U.calling g mk a) (Vm.Alike.refl U.vm) (h.2 k hk).2⟩⟩
/-! ===== contracts over a whole world ===== -/
def PreW (G : EV) (av : List Value) (sz : Nat) (w : va_W) : Array Value → State → Prop := va_Pc av (fun U => U.heap.size = sz ∧ va_P G.1 vwCl w U.heap ∧ va_K G.1 vwCl (tyW G) U ∧ va_D (fun _ => True) w ∧ XX G (va_A w sz) U U.heap)
def BW (G : EV) (w : va_W) (A : Nat → Prop) (t : State) : Prop := va_P G.1 vwCl w t.heap ∧ va_K G.1 vwCl (tyW G) t ∧ va_D A w
def PI (G : EV) (r : Int32) (w : va_W) (A : Nat → Prop) : Array Value → State → Outcome → State → Prop := va_Qi (fun v (_ : Unit) => v = r) (fun _ t => BW G w A t) A
def PL (G : EV) (r : Int64) (w : va_W) (A : Nat → Prop) : Array Value → State → Outcome → State → Prop := va_Ql (fun v (_ : Unit) => v = r) (fun _ t => BW G w A t) A
def PV (G : EV) (w : va_W) (A : Nat → Prop) : Array Value → State → Outcome → State → Prop := va_Qv (fun (_ : Unit) => True) (fun _ t => BW G w A t) A
def PR (G : EV) (r : Nat) (w : va_W) (A : Nat → Prop) : Array Value → State → Outcome → State → Prop := va_Qr (fun (_ : Unit) => True) (fun _ a t => a = r ∧ BW G w A t) A
def MetI (l : Launch) (G : EV) (y : MethodName) (ws : List Cond) (rm : Room) (av : List Value) (w : va_W) (r : Int32) (w' : va_W) : Prop := ∀ sz, Met l y ws rm (PreW G av sz w) (PI G r w' (va_A w sz)) 0 0 (va_A w sz)
def MetL (l : Launch) (G : EV) (y : MethodName) (ws : List Cond) (rm : Room) (av : List Value) (w : va_W) (r : Int64) (w' : va_W) : Prop := ∀ sz, Met l y ws rm (PreW G av sz w) (PL G r w' (va_A w sz)) 0 0 (va_A w sz)
def MetV (l : Launch) (G : EV) (y : MethodName) (ws : List Cond) (rm : Room) (av : List Value) (w w' : va_W) : Prop := ∀ sz, Met l y ws rm (PreW G av sz w) (PV G w' (va_A w sz)) 0 0 (va_A w sz)
def MetR (l : Launch) (G : EV) (y : MethodName) (ws : List Cond) (rm : Room) (av : List Value) (w : va_W) (r : Nat) (w' : va_W) : Prop := ∀ sz, Met l y ws rm (PreW G av sz w) (PR G r w' (va_A w sz)) 0 0 (va_A w sz)
/-- a method's body, from its entry, with all that its contract's start gives -/
theorem Met.of0 {l : Launch} {G : EV} {y : MethodName} {ws ws' : List Cond} {rm : Room} {av : List Value} {w : va_W} {cc : ByteArray} {maxL : Nat} {ret : Option FieldType} {Qf : (Nat → Prop) → Array Value → State → Outcome → State → Prop}
    (hy : plainName y.cls = true) (hw : ws = Cond.code y cc maxL ret :: ws') (hav : (lg_sl av).length ≤ maxL)
    (body : ∀ (p : Program) (e : Env) (s : State) (m : MethodId) (below : List Frame) (meth : Method) (c : Code) (args : Array Value) (A : Nat → Prop), p.tables.exec = Jvm.exec → c.code = cc → meth.sig.returnType = ret → (∀ w ∈ ws, w.before args s = true) → s.vm.findClass y.cls = some m.cls → meth.locks = false → c.maxLocals = maxL → meth.name = y.name →
      (∀ q : Nat, s.heap.size ≤ q → A q) → va_S A s.heap s.heap [] → va_P G.1 vwCl w s.heap → va_K G.1 vwCl (tyW G) s → va_D A w → XX G A s s.heap → ∀ ls : Array Slot, lv_has ls maxL (lv_args 0 av) →
      W p l e rm s m args below meth c s.heap [] 0 0 (MQ below (Qf A) args s 0 0 A) (F0 m 0 ls [])) : ∀ sz, Met l y ws rm (PreW G av sz w) (Qf (va_A w sz)) 0 0 (va_A w sz) := by
  intro sz
  refine Met.ofW (cc := cc) (maxL := maxL) (ret := ret) hy hw ?_
  intro p e s m args below meth c s₁ B hml hv
  obtain ⟨rfl, hsz, hP, hK, hD0, hX⟩ := hv
  subst hsz
  have hts := atoms_spec (ws := ws) B.pre
  have hl := lv_entry av (n := maxL) hav
  rw [lg_entry_eq]
  exact body p e s m below meth c av.toArray (va_A w s.heap.size) B.exec B.bytes B.returns hts (findClass_of_methodNamed B.named) B.notSynchronized hml (name_of_methodNamed B.named B.method).1 (fun q h => Or.inr h) va_S.rf hP hK hD0.self hX _ hl
section RET
variable {p : Program} {l : Launch} {e : Env} {R : Room} {s : State} {m : MethodId} {args : Array Value} {below : List Frame} {meth : Method} {c : Code} {H : Heap} {locs : List Loc} {cells slots : Nat} {cc : ByteArray} {pc : Nat} {ls : Array Slot} {G : EV} {A : Nat → Prop} {w : va_W}
theorem ri (hx : p.tables.exec = Jvm.exec) (hb : c.code = cc) (hr : meth.sig.returnType = some .int) (hlocks : meth.locks = false) (hK : va_K G.1 vwCl (tyW G) s) (hP : va_P G.1 vwCl w H) (hD : va_D A w) (hS : va_S A s.heap H locs) {v : Int32} (hdg : decode cc pc = .ok (.ireturn, 1)) : W p l e R s m args below meth c H locs cells slots (MQ below (PI G v w A) args s cells slots A) (F0 m pc ls [.int v]) :=
  W.iret hx hb hr (fun t ht hW => ⟨⟨v, (), rfl, rfl, by rw [ht]; exact hP, va_K.moved hW.alike hK, hD⟩, hS.F ht⟩) hS.2.2 hdg hlocks
theorem rz (hx : p.tables.exec = Jvm.exec) (hb : c.code = cc) (hr : meth.sig.returnType = some .boolean) (hlocks : meth.locks = false) (hK : va_K G.1 vwCl (tyW G) s) (hP : va_P G.1 vwCl w H) (hD : va_D A w) (hS : va_S A s.heap H locs) {v : Int32} (hn : narrow .boolean (.int v) = .int v) (hdg : decode cc pc = .ok (.ireturn, 1)) : W p l e R s m args below meth c H locs cells slots (MQ below (PI G v w A) args s cells slots A) (F0 m pc ls [.int v]) :=
  W.zret hx hb hr hn (fun t ht hW => ⟨⟨v, (), rfl, rfl, by rw [ht]; exact hP, va_K.moved hW.alike hK, hD⟩, hS.F ht⟩) hS.2.2 hdg hlocks
theorem rl (hx : p.tables.exec = Jvm.exec) (hb : c.code = cc) (hr : meth.sig.returnType = some .long) (hlocks : meth.locks = false) (hK : va_K G.1 vwCl (tyW G) s) (hP : va_P G.1 vwCl w H) (hD : va_D A w) (hS : va_S A s.heap H locs) {v : Int64} (hdg : decode cc pc = .ok (.lreturn, 1)) : W p l e R s m args below meth c H locs cells slots (MQ below (PL G v w A) args s cells slots A) (F0 m pc ls [.long v]) :=
  W.lret hx hb hr (fun t ht hW => ⟨⟨v, (), rfl, rfl, by rw [ht]; exact hP, va_K.moved hW.alike hK, hD⟩, hS.F ht⟩) hS.2.2 hdg hlocks
theorem rv (hx : p.tables.exec = Jvm.exec) (hb : c.code = cc) (hr : meth.sig.returnType = none) (hlocks : meth.locks = false) (hK : va_K G.1 vwCl (tyW G) s) (hP : va_P G.1 vwCl w H) (hD : va_D A w) (hS : va_S A s.heap H locs) (hdg : decode cc pc = .ok (.return_, 1)) : W p l e R s m args below meth c H locs cells slots (MQ below (PV G w A) args s cells slots A) (F0 m pc ls []) :=
  W.vret hx hb hr (fun t ht hW => ⟨⟨(), rfl, trivial, by rw [ht]; exact hP, va_K.moved hW.alike hK, hD⟩, hS.F ht⟩) hS.2.2 hdg hlocks
theorem ra (hx : p.tables.exec = Jvm.exec) (hb : c.code = cc) {t0 : FieldType} (hr : meth.sig.returnType = some (.array t0)) (hlocks : meth.locks = false) (hK : va_K G.1 vwCl (tyW G) s) (hP : va_P G.1 vwCl w H) (hD : va_D A w) (hS : va_S A s.heap H locs) {v : Nat} (hdg : decode cc pc = .ok (.areturn, 1)) : W p l e R s m args below meth c H locs cells slots (MQ below (PR G v w A) args s cells slots A) (F0 m pc ls [.ref v]) :=
  W.aret hx hb hr (Or.inr ⟨_, rfl⟩) (Or.inr ⟨_, rfl⟩) (fun t ht hW => ⟨⟨(), v, rfl, trivial, rfl, by rw [ht]; exact hP, va_K.moved hW.alike hK, hD⟩, hS.F ht⟩) hS.2.2 hdg hlocks
end RET
section CLL
variable {p : Program} {l : Launch} {e : Env} {R : Room} {s : State} {m : MethodId} {args : Array Value} {below : List Frame} {meth : Method} {c : Code} {H : Heap} {locs : List Loc} {cells slots : Nat} {Q : State → Prop} {pc : Nat} {ls : Array Slot} {rest st0 : List Value} {a : Array Value} {G : EV} {A : Nat → Prop} {w w' : va_W}
theorem freeW (hD : va_D A w) (hS : va_S A s.heap H locs) (hA : ∀ q : Nat, s.heap.size ≤ q → A q) : ∀ q, va_A w H.size q → A q := by
  intro q h
  rcases h with ⟨k, e, h⟩ | h
  · exact hD.2 k (q, e) h
  · exact hA q (Nat.le_trans hS.1 h)
theorem blindW {av : List Value} {sz : Nat} : FrameBlind (PreW G av sz w) := fun a U g mk q => by
  obtain ⟨q0, q1, qP, qK, qD, qX⟩ := q
  exact ⟨q0, q1, qP, va_K.moved (u := U) (U := U.calling g mk a) (Vm.Alike.refl U.vm) qK, qD, qX.call⟩
theorem preAt {av : List Value} (hK : va_K G.1 vwCl (tyW G) s) (hP : va_P G.1 vwCl w H) (hD : va_D A w) (hS : va_S A s.heap H locs) (hA : ∀ q : Nat, s.heap.size ≤ q → A q) (hX : XX G A s s.heap) : ∀ U : State, U.heap = H → s.WarmedH U.vm → PreW G av H.size w av.toArray U := fun U hU hW => by
  refine ⟨rfl, by rw [hU], by rw [hU]; exact hP, va_K.moved hW.alike hK, hD.weaken (fun _ _ _ _ => trivial), ?_⟩
  rw [hU]
  exact hX.go hW hS (freeW hD hS hA)
theorem preV {C : String} {b : Addr} {As : List Value} (hK : va_K G.1 vwCl (tyW G) s) (hP : va_P G.1 vwCl w H) (hD : va_D A w) (hS : va_S A s.heap H locs) (hA : ∀ q : Nat, s.heap.size ≤ q → A q) (hX : XX G A s s.heap) (hrv : ∃ cellB : Cell, H[b]? = some cellB ∧ cellB.vm.isStatics = false ∧ s.vm.findClass C = some cellB.cls) : PreV s H C b (PreW G (.ref b :: As) H.size w) As :=
  ⟨blindW, hrv, preAt hK hP hD hS hA hX⟩
theorem preS {As : List Value} (hK : va_K G.1 vwCl (tyW G) s) (hP : va_P G.1 vwCl w H) (hD : va_D A w) (hS : va_S A s.heap H locs) (hA : ∀ q : Nat, s.heap.size ≤ q → A q) (hX : XX G A s s.heap) : PreS s H (PreW G As H.size w) As :=
  ⟨blindW, preAt hK hP hD hS hA hX⟩
theorem ci {r : Int32} (hr : va_Run p l e R s m args below meth c H locs cells slots 0 0 (F0 m pc ls st0) rest (PI G r w' (va_A w H.size) a) (va_A w H.size)) (hD : va_D A w) (hS : va_S A s.heap H locs) (hA : ∀ q : Nat, s.heap.size ≤ q → A q)
    (kk : ∀ (H1 : Heap) (locs1 : List Loc), va_P G.1 vwCl w' H1 → va_D A w' → va_S A s.heap H1 locs1 → W p l e R s m args below meth c H1 locs1 cells slots Q (F0 m (pc + 3) ls (.int r :: rest))) : W p l e R s m args below meth c H locs cells slots Q (F0 m pc ls st0) := by
  have hF := freeW hD hS hA
  refine va_calli hr hS (fun q _ h => hF q h) hF (fun r1 u t H1 locs1 ht hvm hw hB hz1 hk1 hS1 => ?_)
  obtain ⟨hP1, hK1, hD1⟩ := hB
  rw [ht] at hP1
  subst hw
  exact kk H1 locs1 hP1 (hD1.weaken (fun k q _ h => hF q.1 h)) hS1
theorem cl {r : Int64} (hr : va_Run p l e R s m args below meth c H locs cells slots 0 0 (F0 m pc ls st0) rest (PL G r w' (va_A w H.size) a) (va_A w H.size)) (hD : va_D A w) (hS : va_S A s.heap H locs) (hA : ∀ q : Nat, s.heap.size ≤ q → A q)
    (kk : ∀ (H1 : Heap) (locs1 : List Loc), va_P G.1 vwCl w' H1 → va_D A w' → va_S A s.heap H1 locs1 → W p l e R s m args below meth c H1 locs1 cells slots Q (F0 m (pc + 3) ls (.long r :: rest))) : W p l e R s m args below meth c H locs cells slots Q (F0 m pc ls st0) := by
  have hF := freeW hD hS hA
  refine va_calll hr hS (fun q _ h => hF q h) hF (fun r1 u t H1 locs1 ht hvm hw hB hz1 hk1 hS1 => ?_)
  obtain ⟨hP1, hK1, hD1⟩ := hB
  rw [ht] at hP1
  subst hw
  exact kk H1 locs1 hP1 (hD1.weaken (fun k q _ h => hF q.1 h)) hS1
theorem cv (hr : va_Run p l e R s m args below meth c H locs cells slots 0 0 (F0 m pc ls st0) rest (PV G w' (va_A w H.size) a) (va_A w H.size)) (hD : va_D A w) (hS : va_S A s.heap H locs) (hA : ∀ q : Nat, s.heap.size ≤ q → A q)
    (kk : ∀ (H1 : Heap) (locs1 : List Loc), va_P G.1 vwCl w' H1 → va_D A w' → va_S A s.heap H1 locs1 → W p l e R s m args below meth c H1 locs1 cells slots Q (F0 m (pc + 3) ls rest)) : W p l e R s m args below meth c H locs cells slots Q (F0 m pc ls st0) := by
  have hF := freeW hD hS hA
  refine va_callv hr hS (fun q _ h => hF q h) hF (fun u t H1 locs1 ht hvm hw hB hz1 hk1 hS1 => ?_)
  obtain ⟨hP1, hK1, hD1⟩ := hB
  rw [ht] at hP1
  exact kk H1 locs1 hP1 (hD1.weaken (fun k q _ h => hF q.1 h)) hS1
theorem cr {r : Nat} (hr : va_Run p l e R s m args below meth c H locs cells slots 0 0 (F0 m pc ls st0) rest (PR G r w' (va_A w H.size) a) (va_A w H.size)) (hD : va_D A w) (hS : va_S A s.heap H locs) (hA : ∀ q : Nat, s.heap.size ≤ q → A q)
    (kk : ∀ (H1 : Heap) (locs1 : List Loc), va_P G.1 vwCl w' H1 → va_D A w' → va_S A s.heap H1 locs1 → W p l e R s m args below meth c H1 locs1 cells slots Q (F0 m (pc + 3) ls (.ref r :: rest))) : W p l e R s m args below meth c H locs cells slots Q (F0 m pc ls st0) := by
  have hF := freeW hD hS hA
  refine va_callr hr hS (fun q _ h => hF q h) hF (fun u ra t H1 locs1 ht hvm hw hB hz1 hk1 hS1 => ?_)
  obtain ⟨hra, hP1, hK1, hD1⟩ := hB
  rw [ht] at hP1
  subst hra
  exact kk H1 locs1 hP1 (hD1.weaken (fun k q _ h => hF q.1 h)) hS1
end CLL
section ARR
variable {p : Program} {l : Launch} {e : Env} {R : Room} {s : State} {m : MethodId} {args : Array Value} {below : List Frame} {meth : Method} {c : Code} {H : Heap} {locs : List Loc} {cells slots : Nat} {Q : State → Prop} {cc : ByteArray} {pc : Nat} {ls : Array Slot} {rest : List Value} {G : EV} {A : Nat → Prop} {H0 : Heap} {σ : St}
/-- loads and stores of the class's rows of ints, by their numbers; and of the reference's -/
theorem ldC (hx : p.tables.exec = Jvm.exec) (hb : c.code = cc) (hK : va_K G.1 vwCl (tyW G) s) (hP : va_P G.1 vwCl (wC G σ) H) (k : Nat) (hk : k < 18) {i : Int32} (hin : vp_in i (lnC k)) (hdg : decode cc pc = .ok (.iaload, 1))
    (kk : W p l e R s m args below meth c H locs cells slots Q (F0 m (pc + 1) ls (.int (rd σ k i) :: rest))) : W p l e R s m args below meth c H locs cells slots Q (F0 m pc ls (.int i :: .ref (aD G k) :: rest)) :=
  va_iald hx hb hK hP k 0 (wC_at G σ k hk) rfl hin hdg kk
theorem stC (hx : p.tables.exec = Jvm.exec) (hb : c.code = cc) (hK : va_K G.1 vwCl (tyW G) s) (hP : va_P G.1 vwCl (wC G σ) H) (hD : va_D A (wC G σ)) (hS : va_S A H0 H locs) (k : Nat) (hk : k < 18) {i x : Int32} (hin : vp_in i (lnC k)) (hdg : decode cc pc = .ok (.iastore, 1))
    (kk : ∀ (H1 : Heap) (locs1 : List Loc), va_P G.1 vwCl (wC G (sA σ k i x)) H1 → va_D A (wC G (sA σ k i x)) → va_S A H0 H1 locs1 → W p l e R s m args below meth c H1 locs1 cells slots Q (F0 m (pc + 1) ls rest)) : W p l e R s m args below meth c H locs cells slots Q (F0 m pc ls (.int x :: .int i :: .ref (aD G k) :: rest)) := by
  refine va_iast hx hb hK hP hD hS k 0 (wC_at G σ k hk) rfl hin hdg (fun H1 locs1 h1 h2 h3 => ?_)
  rw [wC_set G σ _ k hk] at h1 h2
  exact kk H1 locs1 h1 h2 h3
theorem ldM (hx : p.tables.exec = Jvm.exec) (hb : c.code = cc) (hK : va_K G.1 vwCl (tyW G) s) (hP : va_P G.1 vwCl (wM G σ) H) (k : Nat) (hk : k < 13) {i : Int32} (hin : vp_in i (lnM k)) (hdg : decode cc pc = .ok (.iaload, 1))
    (kk : W p l e R s m args below meth c H locs cells slots Q (F0 m (pc + 1) ls (.int (rd σ k i) :: rest))) : W p l e R s m args below meth c H locs cells slots Q (F0 m pc ls (.int i :: .ref (aD G (30 + k)) :: rest)) :=
  va_iald hx hb hK hP k 0 (wM_at G σ k hk) rfl hin hdg kk
theorem stM (hx : p.tables.exec = Jvm.exec) (hb : c.code = cc) (hK : va_K G.1 vwCl (tyW G) s) (hP : va_P G.1 vwCl (wM G σ) H) (hD : va_D A (wM G σ)) (hS : va_S A H0 H locs) (k : Nat) (hk : k < 13) {i x : Int32} (hin : vp_in i (lnM k)) (hdg : decode cc pc = .ok (.iastore, 1))
    (kk : ∀ (H1 : Heap) (locs1 : List Loc), va_P G.1 vwCl (wM G (sA σ k i x)) H1 → va_D A (wM G (sA σ k i x)) → va_S A H0 H1 locs1 → W p l e R s m args below meth c H1 locs1 cells slots Q (F0 m (pc + 1) ls rest)) : W p l e R s m args below meth c H locs cells slots Q (F0 m pc ls (.int x :: .int i :: .ref (aD G (30 + k)) :: rest)) := by
  refine va_iast hx hb hK hP hD hS k 0 (wM_at G σ k hk) rfl hin hdg (fun H1 locs1 h1 h2 h3 => ?_)
  rw [wM_set G σ _ k hk] at h1 h2
  exact kk H1 locs1 h1 h2 h3
end ARR

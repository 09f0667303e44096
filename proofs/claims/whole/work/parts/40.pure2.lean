/-! ===== PURE 2: loops by invariants; numbers; sums ===== -/
theorem loop_inv {V Y : Type} {body : V → Option (Y ⊕ V)} {Post : Y → Prop} (Inv : Nat → V → Prop) (b : Nat)
    (hs : ∀ i v, i < b → Inv i v → (∃ v', body v = some (.inr v') ∧ Inv (i + 1) v') ∨ (∃ y, body v = some (.inl y) ∧ Post y))
    (he : ∀ v, Inv b v → ∃ y, body v = some (.inl y) ∧ Post y) {fuel : Nat} (hf : b < fuel) {v0 : V} (h0 : Inv 0 v0) : ∃ y, loopN body fuel v0 = some y ∧ Post y := by
  have key : ∀ (n i : Nat) (v : V), i ≤ b → b - i < n → Inv i v → ∃ y, loopN body n v = some y ∧ Post y := by
    intro n
    induction n with
    | zero => intro i v _ h; omega
    | succ n ih =>
      intro i v hi hn hv
      unfold loopN
      rcases Nat.lt_or_ge i b with h | h
      · rcases hs i v h hv with ⟨v', e, hv'⟩ | ⟨y, e, hy⟩
        · rw [e]
          exact ih (i + 1) v' (by omega) (by omega) hv'
        · rw [e]
          exact ⟨y, rfl, hy⟩
      · have e : i = b := by omega
        subst e
        obtain ⟨y, e, hy⟩ := he v hv
        rw [e]
        exact ⟨y, rfl, hy⟩
  exact key fuel 0 v0 (by omega) (by omega) h0
/-- a counting loop that never leaves early -/
theorem loop_for {V Y : Type} {body : V → Option (Y ⊕ V)} (Inv : Nat → V → Prop) (b : Nat) {Post : Y → Prop}
    (hs : ∀ i v, i < b → Inv i v → ∃ v', body v = some (.inr v') ∧ Inv (i + 1) v')
    (he : ∀ v, Inv b v → ∃ y, body v = some (.inl y) ∧ Post y) {fuel : Nat} (hf : b < fuel) {v0 : V} (h0 : Inv 0 v0) : ∃ y, loopN body fuel v0 = some y ∧ Post y :=
  loop_inv Inv b (fun i v h1 h2 => Or.inl (hs i v h1 h2)) he hf h0
theorem bnd_ex {α β : Type} {o : Option α} {k : α → Option β} {P : α → Prop} {R : β → Prop} (h : ∃ x, o = some x ∧ P x) (hk : ∀ x, P x → ∃ y, k x = some y ∧ R y) : ∃ y, bnd o k = some y ∧ R y := by
  obtain ⟨x, e, hp⟩ := h
  subst e
  exact hk x hp
/-! numbers: the written ones are nI of a number -/
theorem nle_t {a b : Nat} (h : a ≤ b) (hb : b < 2 ^ 31) {x y : Int32} (hx : x = nI a) (hy : y = nI b) : x ≤ y := by subst hx; subst hy; exact nI_le h hb
theorem nle_f {a b : Nat} (h : b < a) (hb : a < 2 ^ 31) {x y : Int32} (hx : x = nI a) (hy : y = nI b) : ¬ x ≤ y := by subst hx; subst hy; exact nI_ge h hb
theorem nlt_t {a b : Nat} (h : a < b) (hb : b < 2 ^ 31) {x y : Int32} (hx : x = nI a) (hy : y = nI b) : x < y := by subst hx; subst hy; exact nI_lt h hb
theorem nlt_f {a b : Nat} (h : b ≤ a) (hb : a < 2 ^ 31) {x y : Int32} (hx : x = nI a) (hy : y = nI b) : ¬ x < y := by subst hx; subst hy; exact nI_nlt h hb
theorem neq_f {a b : Nat} (h : a ≠ b) (ha : a < 2 ^ 31) (hb : b < 2 ^ 31) {x y : Int32} (hx : x = nI a) (hy : y = nI b) : ¬ x = y := by subst hx; subst hy; rw [nI_eq ha hb]; exact h
theorem m1_ne {a : Nat} (ha : a < 2 ^ 31) : ¬ nI a = -nI 1 := by
  intro h
  have h1 := congrArg Int32.toInt h
  rw [nI_toInt ha] at h1
  have h2 : (-nI 1).toInt = -1 := by decide
  omega
theorem m1_lt {a : Nat} (ha : a < 2 ^ 31) : -nI 1 < nI a := by
  rw [Int32.lt_iff_toInt_lt, nI_toInt ha]
  have h2 : (-nI 1).toInt = -1 := by decide
  omega
theorem m1_le {a : Nat} (ha : a < 2 ^ 31) : -nI 1 ≤ nI a := by
  rw [Int32.le_iff_toInt_le, nI_toInt ha]
  have h2 : (-nI 1).toInt = -1 := by decide
  omega
theorem m1_ge {a : Nat} (ha : a < 2 ^ 31) : ¬ nI a ≤ -nI 1 := by
  rw [Int32.le_iff_toInt_le, nI_toInt ha]
  have h2 : (-nI 1).toInt = -1 := by decide
  omega
theorem m1_ngt {a : Nat} (ha : a < 2 ^ 31) : ¬ nI a < -nI 1 := by
  rw [Int32.lt_iff_toInt_lt, nI_toInt ha]
  have h2 : (-nI 1).toInt = -1 := by decide
  omega
theorem ofN (n : Nat) : Int32.ofNat n = nI n := rfl
/-! sums -/
def sumZ (f : Nat → Nat) : Nat → Nat
  | 0 => 0
  | n + 1 => sumZ f n + f n
theorem sumZ_congr {f g : Nat → Nat} {n : Nat} (h : ∀ i, i < n → f i = g i) : sumZ f n = sumZ g n := by
  induction n with
  | zero => rfl
  | succ n ih => unfold sumZ; rw [ih (fun i hi => h i (by omega)), h n (by omega)]
theorem sumZ_le {f : Nat → Nat} {b n : Nat} (h : ∀ i, i < n → f i ≤ b) : sumZ f n ≤ b * n := by
  induction n with
  | zero => exact Nat.zero_le _
  | succ n ih =>
    unfold sumZ
    have h1 := ih (fun i hi => h i (by omega))
    have h2 := h n (by omega)
    rw [Nat.mul_succ]
    omega
theorem sumZ_add {f g : Nat → Nat} {n : Nat} : sumZ (fun i => f i + g i) n = sumZ f n + sumZ g n := by
  induction n with
  | zero => rfl
  | succ n ih => unfold sumZ; rw [ih]; omega
theorem sumZ_zero {n : Nat} : sumZ (fun _ => 0) n = 0 := by
  induction n with
  | zero => rfl
  | succ n ih => unfold sumZ; rw [ih]
theorem sumZ_mul {f : Nat → Nat} {k n : Nat} : sumZ (fun i => k * f i) n = k * sumZ f n := by
  induction n with
  | zero => rfl
  | succ n ih => unfold sumZ; rw [ih, Nat.mul_add]
theorem sumZ_mono {f g : Nat → Nat} {n : Nat} (h : ∀ i, i < n → f i ≤ g i) : sumZ f n ≤ sumZ g n := by
  induction n with
  | zero => exact Nat.le_refl _
  | succ n ih =>
    unfold sumZ
    have h1 := ih (fun i hi => h i (by omega))
    have h2 := h n (by omega)
    omega
theorem sumZ_swap {f : Nat → Nat → Nat} {n m : Nat} : sumZ (fun i => sumZ (f i) m) n = sumZ (fun j => sumZ (fun i => f i j) n) m := by
  induction n with
  | zero => show 0 = _; rw [show (fun j => sumZ (fun i => f i j) 0) = fun _ => 0 from rfl, sumZ_zero]
  | succ n ih =>
    show sumZ _ n + sumZ (f n) m = _
    rw [ih, ← sumZ_add]
    rfl
theorem sumZ_one {n k : Nat} (hk : k < n) (v : Nat) : sumZ (fun i => if i = k then v else 0) n = v := by
  induction n with
  | zero => omega
  | succ n ih =>
    unfold sumZ
    rcases Nat.lt_or_ge k n with h | h
    · rw [ih h, if_neg (by omega)]; rfl
    · have e : k = n := by omega
      subst e
      rw [if_pos rfl]
      rw [sumZ_congr (g := fun _ => 0) (fun i hi => if_neg (by omega)), sumZ_zero]
      omega
/-- a thing of a row that holds so many -/
def cntZ (p : Nat → Bool) (n : Nat) : Nat := sumZ (fun i => if p i then 1 else 0) n
theorem cntZ_le {p : Nat → Bool} {n : Nat} : cntZ p n ≤ n := by
  have h := sumZ_le (f := fun i => if p i = true then 1 else 0) (b := 1) (n := n) (fun i _ => by show (if p i = true then 1 else 0) ≤ 1; split <;> omega)
  unfold cntZ
  omega
theorem cntZ_congr {p q : Nat → Bool} {n : Nat} (h : ∀ i, i < n → p i = q i) : cntZ p n = cntZ q n := sumZ_congr (fun i hi => by rw [h i hi])
/-! the smallest methods -/
theorem isIn_eq (x a b : Int32) : f_X6_isIn x a b = some (if a ≤ x ∧ x ≤ b then 1 else 0) := by
  unfold f_X6_isIn
  by_cases h1 : x < a
  · rw [if_pos h1, if_neg]
    intro h
    rw [Int32.lt_iff_toInt_lt] at h1
    rw [Int32.le_iff_toInt_le] at h
    omega
  · rw [if_neg h1]
    by_cases h2 : b < x
    · rw [if_pos h2, if_neg]
      intro h
      have h3 := h.2
      rw [Int32.lt_iff_toInt_lt] at h2
      rw [Int32.le_iff_toInt_le] at h3
      omega
    · rw [if_neg h2, if_pos]
      rw [Int32.lt_iff_toInt_lt] at h1 h2
      exact ⟨by rw [Int32.le_iff_toInt_le]; omega, by rw [Int32.le_iff_toInt_le]; omega⟩
theorem in_eq (x a b : Int32) : f_X7_in x a b = some (if a ≤ x ∧ x ≤ b then 1 else 0) := isIn_eq x a b
theorem isCell_eq (x : Int32) : f_X6_isCell x = some (if 0 ≤ x ∧ x ≤ 79 then 1 else 0) := by
  unfold f_X6_isCell
  rw [bnd_of (isIn_eq _ _ _)]
  split
  · exact gb_1
  · exact gb_0
theorem isCell7_eq (x : Int32) : f_X7_isCell x = some (if 0 ≤ x ∧ x ≤ 79 then 1 else 0) := isCell_eq x
/-- a number between 0 and a written one is nI of one -/
theorem in_nI {x : Int32} {b : Nat} (hb : b < 2 ^ 31) (h : 0 ≤ x ∧ x ≤ nI b) : ∃ j, j ≤ b ∧ x = nI j := by
  obtain ⟨h0, h1⟩ := h
  rw [Int32.le_iff_toInt_le] at h0 h1
  rw [nI_toInt hb] at h1
  have h2 : (0 : Int32).toInt = 0 := by decide
  obtain ⟨j, hj, e⟩ := nI_of (x := x) (by rw [Int32.lt_iff_toInt_lt]; omega)
  refine ⟨j, ?_, e⟩
  rw [e, nI_toInt hj] at h1
  omega
/-- the sum of a row of the class -/
theorem total_eq (σ : St) (k : Nat) (hk : lnC k = 80) (g : Nat → Nat) (hg : ∀ c, c < 80 → σ.1 k c = nI (g c)) : f_X6_total k σ = some (nI (sumZ g 80)) := by
  rw [e_X6_total, e_X6_total_J10, hk, ofN]
  have e : loopN (f_X6_total_L10 k (nI 80) σ) 4096 (nI 0, nI 0) = some (nI (sumZ g 80)) := by
    refine loopN_run (tr := fun i => (nI (sumZ g i), nI i)) 80 (nI (sumZ g 80)) ?_ ?_ (by decide)
    · intro i hi
      rw [e_X6_total_L10, if_neg (nI_ge hi (by decide)), hk, gd_nI hi (by decide), rd_nI σ k (by omega), hg i hi, nI_add, nI_add]
      rfl
    · rw [e_X6_total_L10, if_pos (nI_le (Nat.le_refl 80) (by decide))]
  rw [bnd_of e]
theorem upd_id (r : Nat → Int32) (i : Nat) : upd r i (r i) = r := by
  funext j
  unfold upd
  split
  · rename_i h; rw [h]
  · rfl
/-- a loop that lays one place of a row in each turn, place by place -/
theorem loop_store {σ : St} {k off N : Nat} {new : Nat → Int32} {body : Int32 × St → Option (St ⊕ (Int32 × St))} {fuel : Nat} (hf : N < fuel)
    (hs : ∀ i r, i < N → (∀ c, c < i → r (off + c) = new c) → (∀ c, (c < off ∨ off + i ≤ c) → r c = σ.1 k c) → body (nI i, sAA σ k r) = some (.inr (nI (i + 1), sAA σ k (upd r (off + i) (new i)))))
    (he : ∀ r, body (nI N, sAA σ k r) = some (.inl (sAA σ k r))) :
    ∃ r, loopN body fuel (nI 0, σ) = some (sAA σ k r) ∧ (∀ c, c < N → r (off + c) = new c) ∧ ∀ c, (c < off ∨ off + N ≤ c) → r c = σ.1 k c := by
  have hmain : ∃ y, loopN body fuel (nI 0, σ) = some y ∧ ∃ r, y = sAA σ k r ∧ (∀ c, c < N → r (off + c) = new c) ∧ ∀ c, (c < off ∨ off + N ≤ c) → r c = σ.1 k c := by
    refine loop_for (Inv := fun i v => v.1 = nI i ∧ ∃ r, v.2 = sAA σ k r ∧ (∀ c, c < i → r (off + c) = new c) ∧ ∀ c, (c < off ∨ off + i ≤ c) → r c = σ.1 k c) N ?_ ?_ hf ⟨rfl, σ.1 k, (sAA_id σ k).symm, fun c h => by omega, fun c _ => rfl⟩
    · rintro i ⟨a, b⟩ hi ⟨h1, r, h2, h3, h4⟩
      dsimp only at h1 h2
      subst h1 h2
      refine ⟨_, hs i r hi h3 h4, rfl, _, rfl, ?_, ?_⟩
      · intro c hc
        unfold upd
        by_cases h : c = i
        · subst h; rw [if_pos rfl]
        · rw [if_neg (by omega)]; exact h3 c (by omega)
      · intro c hc
        unfold upd
        rw [if_neg (by omega)]
        exact h4 c (by omega)
    · rintro ⟨a, b⟩ ⟨h1, r, h2, h3, h4⟩
      dsimp only at h1 h2
      subst h1 h2
      exact ⟨_, he r, r, rfl, h3, h4⟩
  obtain ⟨y, e, r, rfl, h1, h2⟩ := hmain
  exact ⟨r, e, h1, h2⟩
theorem loop_r {V Y : Type} {body : V → Option (Y ⊕ V)} {n : Nat} {v v' : V} (h : body v = some (.inr v')) : loopN body (n + 1) v = loopN body n v' := by
  conv => lhs; unfold loopN
  rw [h]
theorem loop_l {V Y : Type} {body : V → Option (Y ⊕ V)} {n : Nat} {v : V} {y : Y} (h : body v = some (.inl y)) : loopN body (n + 1) v = some y := by
  conv => lhs; unfold loopN
  rw [h]
theorem bF {α : Type} {x y : α} : (if false = true then x else y) = y := rfl
theorem bT {α : Type} {x y : α} : (if true = true then x else y) = x := rfl

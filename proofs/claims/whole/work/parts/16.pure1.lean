/-! ===== PURE 1: loops that run, guards that hold, numbers ===== -/
theorem loopN_run {V Y : Type} {body : V → Option (Y ⊕ V)} (tr : Nat → V) (k : Nat) (y : Y) (hs : ∀ i, i < k → body (tr i) = some (.inr (tr (i + 1)))) (he : body (tr k) = some (.inl y)) {fuel : Nat} (hf : k < fuel) : loopN body fuel (tr 0) = some y := by
  have key : ∀ (n i : Nat), i ≤ k → k - i < n → loopN body n (tr i) = some y := by
    intro n
    induction n with
    | zero => intro i _ h; omega
    | succ n ih =>
      intro i hi hn
      unfold loopN
      rcases Nat.lt_or_ge i k with h | h
      · rw [hs i h]
        exact ih (i + 1) (by omega) (by omega)
      · have e : i = k := by omega
        subst e
        rw [he]
  exact key fuel 0 (by omega) (by omega)
theorem gd_in {α : Type} {i : Int32} {n : Nat} {e : Option α} (h : vp_in i n) : gd i n e = e := by
  unfold gd
  exact if_neg h
theorem gd_nI {α : Type} {j n : Nat} {e : Option α} (h : j < n) (hn : n < 2 ^ 31) : gd (nI j) n e = e := gd_in (vp_in_nI h hn)
theorem gb_0 {α : Type} {e : Option α} : gb 0 e = e := if_pos (by decide)
theorem gb_1 {α : Type} {e : Option α} : gb 1 e = e := if_pos (by decide)
theorem dz_ne {α : Type} {y : Int32} {e : Option α} (h : ¬ y = 0) : dz y e = e := if_neg h
theorem gq_ok {α : Type} {c : Prop} [Decidable c] {e : Option α} (h : c) : gq c e = e := if_pos h
theorem bnd_of {α β : Type} {o : Option α} {k : α → Option β} {x : α} (h : o = some x) : bnd o k = k x := by subst h; rfl
theorem rd_nI (σ : St) (k : Nat) {j : Nat} (h : j < 2 ^ 31) : rd σ k (nI j) = σ.1 k j := by
  show σ.1 k _ = _
  rw [nI_clamp h]
theorem sA_nI (σ : St) (k : Nat) {j : Nat} (x : Int32) (h : j < 2 ^ 31) : sA σ k (nI j) x = sAA σ k (upd (σ.1 k) j x) := by
  unfold sA
  rw [nI_clamp h]
theorem sAA_self (σ : St) (k : Nat) (g : Nat → Int32) : (sAA σ k g).1 k = g := by
  show (bif Nat.beq k k then g else σ.1 k) = g
  rw [Nat.beq_refl]; rfl
theorem sAA_ne (σ : St) {k j : Nat} (g : Nat → Int32) (h : j ≠ k) : (sAA σ k g).1 j = σ.1 j := by
  show (bif Nat.beq j k then g else σ.1 j) = σ.1 j
  rw [show Nat.beq j k = false from by cases hb : Nat.beq j k with | false => rfl | true => exact absurd (Nat.eq_of_beq_eq_true hb) h]; rfl
theorem sAA_2 (σ : St) (k : Nat) (g : Nat → Int32) : (sAA σ k g).2 = σ.2 := rfl
theorem sI_1 (σ : St) (k : Nat) (x : Int32) : (sI σ k x).1 = σ.1 := rfl
theorem sI_self (σ : St) (k : Nat) (x : Int32) : (sI σ k x).2 k = x := by
  show (bif Nat.beq k k then x else σ.2 k) = x
  rw [Nat.beq_refl]; rfl
theorem sI_ne (σ : St) {k j : Nat} (x : Int32) (h : j ≠ k) : (sI σ k x).2 j = σ.2 j := by
  show (bif Nat.beq j k then x else σ.2 j) = σ.2 j
  rw [show Nat.beq j k = false from by cases hb : Nat.beq j k with | false => rfl | true => exact absurd (Nat.eq_of_beq_eq_true hb) h]; rfl
theorem sAA_sAA (σ : St) (k : Nat) (g h : Nat → Int32) : sAA (sAA σ k g) k h = sAA σ k h := by
  unfold sAA
  refine Prod.ext (funext fun j => ?_) rfl
  dsimp only
  cases Nat.beq j k <;> rfl
theorem sAA_id (σ : St) (k : Nat) : sAA σ k (σ.1 k) = σ := by
  unfold sAA
  refine Prod.ext (funext fun j => ?_) rfl
  dsimp only
  cases h : Nat.beq j k
  · rfl
  · rw [Nat.beq_eq] at h; subst h; rfl

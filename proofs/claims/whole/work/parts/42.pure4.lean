/-! ===== PURE 4: rows filled, settled ===== -/
theorem fill_ok (σ : St) (k : Nat) (x : Int32) (N : Nat) (hN : lnC k = N) (hlt : N < 4096) : ∃ g, f_J7_fill_53178 k x σ = some (sAA σ k g) ∧ ∀ c, c < N → g c = x := by
  rw [e_J7_fill_53178, e_J7_fill_53178_J5, hN, ofN]
  have hm := loop_store (σ := σ) (k := k) (off := 0) (N := N) (new := fun _ => x) (body := f_J7_fill_53178_L5 k x (nI N)) hlt (fun i r hi h3 h4 => by
    rw [e_J7_fill_53178_L5, if_neg (nI_ge hi (by omega)), hN, gd_nI hi (by omega), sA_nI _ _ _ (by omega), sAA_self, sAA_sAA, Nat.zero_add]
    rw [nI_add]) (fun r => by
    rw [e_J7_fill_53178_L5, if_pos (nI_le (Nat.le_refl _) (by omega))])
  obtain ⟨r, e, h1, -⟩ := hm
  refine ⟨r, by rw [bnd_of e], fun c hc => ?_⟩
  have := h1 c hc
  rw [Nat.zero_add] at this
  exact this
/-- the most fill of a cell by itself -/
def roomN (F : FF) (c : Nat) : Nat := if F 1 c = 0 then 9 - F 0 c else 0
theorem room_eq {σ : St} {F : FF} (h0 : ∀ c, c < 80 → σ.1 0 c = nI (F 0 c)) (h1 : ∀ c, c < 80 → σ.1 1 c = nI (F 1 c)) (hs : ∀ c, c < 80 → F 0 c ≤ 9 ∧ F 1 c ≤ 1) {c : Nat} (hc : c < 80) : f_X0_room (nI c) σ = some (nI (roomN F c)) := by
  rw [e_X0_room, gd_nI hc (by decide), rd_nI σ 1 (by omega), h1 c hc]
  unfold roomN
  by_cases h2 : F 1 c = 0
  · rw [if_pos (by rw [h2]), if_pos h2, gd_nI hc (by decide), rd_nI σ 0 (by omega), h0 c hc]
    rw [pk_sub (hs c hc).1]
  · rw [if_neg (neq_f (b := 0) h2 (by have := hs c hc; omega) (by decide) rfl rfl), if_neg h2]
/-- the least fill of twins, 9 at most -/
def leastN (f t : Nat → Nat) (g : Nat) : Nat → Nat
  | 0 => 9
  | n + 1 => if t n = g then min (leastN f t g n) (f n) else leastN f t g n
theorem leastN_succ (f t : Nat → Nat) (g n : Nat) : leastN f t g (n + 1) = if t n = g then min (leastN f t g n) (f n) else leastN f t g n := rfl
theorem leastN_le (f t : Nat → Nat) (g n : Nat) : leastN f t g n ≤ 9 := by
  induction n with
  | zero => exact Nat.le_refl _
  | succ n ih => unfold leastN; split <;> omega
/-- fill as it is once what is too much has gone: first each cell by itself, then twins alike -/
def settle1 (F : FF) (c : Nat) : Nat := min (F 4 c) (roomN F c)
def alikeZ (f t : Nat → Nat) (g : Nat) (c : Nat) : Nat := if t c = g then leastN f t g 80 else f c
def settle4 (F : FF) : Nat → Nat := alikeZ (alikeZ (alikeZ (settle1 F) (F 3) 1) (F 3) 2) (F 3) 3
def withFill (F : FF) (f : Nat → Nat) : FF := fun k => if k = 4 then f else F k
theorem jmin_nI {a b : Nat} (ha : a < 2 ^ 31) (hb : b < 2 ^ 31) : jmin (nI a) (nI b) = nI (min a b) := by
  unfold jmin
  by_cases h : b < a
  · rw [if_pos (nI_lt h ha), Nat.min_eq_right (by omega)]
  · rw [if_neg (nI_nlt (by omega) hb), Nat.min_eq_left (by omega)]
/-- makeAlike: the fill of twins g becomes their least -/
theorem makeAlike_ok (σ : St) (t f : Nat → Nat) (g : Nat) (hg : g < 4) (ht : ∀ c, c < 80 → σ.1 3 c = nI (t c)) (ht3 : ∀ c, c < 80 → t c ≤ 3) (hf : ∀ c, c < 80 → σ.1 4 c = nI (f c)) (hf9 : ∀ c, c < 80 → f c ≤ 9) :
    ∃ r, f_X0_makeAlike (nI g) σ = some (sAA σ 4 r) ∧ ∀ c, c < 80 → r c = nI (alikeZ f t g c) := by
  rw [e_X0_makeAlike, e_X0_makeAlike_J5]
  have e1 : loopN (f_X0_makeAlike_L5 (nI g) σ) 4096 (nI 9, nI 0) = some (nI (leastN f t g 80)) := by
    refine loopN_run (tr := fun i => (nI (leastN f t g i), nI i)) 80 _ ?_ ?_ (by decide)
    · intro i hi
      rw [e_X0_makeAlike_L5, if_neg (nI_ge hi (by decide)), gd_nI hi (by decide), rd_nI σ 3 (by omega), ht i hi, gd_nI hi (by decide), rd_nI σ 4 (by omega), hf i hi]
      by_cases h : t i = g
      · rw [if_pos (by rw [h]), jmin_nI (by have := leastN_le f t g i; omega) (by have := hf9 i hi; omega)]
        rw [nI_add, leastN_succ, if_pos h]
      · rw [if_neg (neq_f h (by have := ht3 i hi; omega) (by omega) rfl rfl)]
        rw [nI_add, leastN_succ, if_neg h]
    · rw [e_X0_makeAlike_L5, if_pos (nI_le (Nat.le_refl _) (by decide))]
  rw [bnd_of e1]
  rw [e_X0_makeAlike_J38, e_X0_makeAlike_J40]
  have hm9 := loop_store (σ := σ) (k := 4) (off := 0) (N := 80) (new := fun c => nI (alikeZ f t g c)) (body := f_X0_makeAlike_L40 (nI g) (nI (leastN f t g 80))) (fuel := 4096) (by decide) (fun i r hi h3 h4 => by
    rw [e_X0_makeAlike_L40, if_neg (nI_ge hi (by decide)), gd_nI hi (by decide), rd_nI _ 3 (by omega), sAA_ne σ r (by decide : (3 : Nat) ≠ 4), ht i hi, Nat.zero_add]
    by_cases h : t i = g
    · have ea : alikeZ f t g i = leastN f t g 80 := if_pos h
      rw [if_pos (by rw [h]), ea, gd_nI hi (by decide), sA_nI _ _ _ (by omega), sAA_self, sAA_sAA, nI_add]
    · have ea : alikeZ f t g i = f i := if_neg h
      rw [if_neg (neq_f h (by have := ht3 i hi; omega) (by omega) rfl rfl), ea, ← hf i hi, ← h4 i (by omega), upd_id, nI_add]) (fun r => by
    rw [e_X0_makeAlike_L40, if_pos (nI_le (Nat.le_refl 80) (by decide))])
  obtain ⟨r, e, hr, -⟩ := hm9
  refine ⟨r, by rw [bnd_of e], fun c hc => ?_⟩
  have := hr c hc
  rw [Nat.zero_add] at this
  exact this
theorem alikeZ_le {f t : Nat → Nat} {g : Nat} (hf : ∀ c, c < 80 → f c ≤ 9) : ∀ c, c < 80 → alikeZ f t g c ≤ 9 := by
  intro c hc
  unfold alikeZ
  split
  · exact leastN_le f t g 80
  · exact hf c hc
/-- settle: fill that is too much goes -/
theorem settle_ok (σ : St) (F : FF) (h : CF σ F) (hs : ∀ c, c < 80 → F 0 c ≤ 9 ∧ F 1 c ≤ 1 ∧ F 2 c ≤ 3 ∧ F 3 c ≤ 3 ∧ F 4 c ≤ 9) : ∃ r, f_X0_settle σ = some (sAA σ 4 r) ∧ ∀ c, c < 80 → r c = nI (settle4 F c) := by
  rw [e_X0_settle, e_X0_settle_J2]
  have hs1 : ∀ c, c < 80 → settle1 F c ≤ 9 := fun c hc => by
    have := hs c hc
    unfold settle1
    omega
  have hm := loop_store (σ := σ) (k := 4) (off := 0) (N := 80) (new := fun c => nI (settle1 F c)) (body := f_X0_settle_L2) (fuel := 4096) (by decide) ?_ ?_
  · obtain ⟨r1, e1, h1, -⟩ := hm
    rw [bnd_of e1]
    rw [e_X0_settle_J34, e_X0_settle_J36]
    have t0 : ∀ c, c < 80 → (sAA σ 4 r1).1 3 c = nI (F 3 c) := fun c hc => h.2.2.2.1 c hc
    have t3 : ∀ c, c < 80 → F 3 c ≤ 3 := fun c hc => (hs c hc).2.2.2.1
    have q1 : ∀ c, c < 80 → (sAA σ 4 r1).1 4 c = nI (settle1 F c) := fun c hc => by
      have := h1 c hc
      rw [Nat.zero_add] at this
      exact this
    obtain ⟨r2, e2, h2⟩ := makeAlike_ok (sAA σ 4 r1) (F 3) (settle1 F) 1 (by decide) t0 t3 q1 hs1
    rw [sAA_sAA] at e2
    obtain ⟨r3, e3, h3⟩ := makeAlike_ok (sAA σ 4 r2) (F 3) (alikeZ (settle1 F) (F 3) 1) 2 (by decide) (fun c hc => h.2.2.2.1 c hc) t3 (fun c hc => h2 c hc) (alikeZ_le hs1)
    rw [sAA_sAA] at e3
    obtain ⟨r4, e4, h4⟩ := makeAlike_ok (sAA σ 4 r3) (F 3) (alikeZ (alikeZ (settle1 F) (F 3) 1) (F 3) 2) 3 (by decide) (fun c hc => h.2.2.2.1 c hc) t3 (fun c hc => h3 c hc) (alikeZ_le (alikeZ_le hs1))
    rw [sAA_sAA] at e4
    refine ⟨r4, ?_, h4⟩
    have s1 : f_X0_settle_L36 (nI 1, sAA σ 4 r1) = some (.inr (nI 2, sAA σ 4 r2)) := by
      rw [e_X0_settle_L36, if_neg (by decide), bnd_of e2]; rfl
    have s2 : f_X0_settle_L36 (nI 2, sAA σ 4 r2) = some (.inr (nI 3, sAA σ 4 r3)) := by
      rw [e_X0_settle_L36, if_neg (by decide), bnd_of e3]; rfl
    have s3 : f_X0_settle_L36 (nI 3, sAA σ 4 r3) = some (.inr (nI 4, sAA σ 4 r4)) := by
      rw [e_X0_settle_L36, if_neg (by decide), bnd_of e4]; rfl
    have s4 : f_X0_settle_L36 (nI 4, sAA σ 4 r4) = some (.inl (sAA σ 4 r4)) := by
      rw [e_X0_settle_L36, if_pos (by decide)]
    rw [bnd_of (x := sAA σ 4 r4) ((loop_r (n := 4095) s1).trans ((loop_r (n := 4094) s2).trans ((loop_r (n := 4093) s3).trans (loop_l (n := 4092) s4))))]
  · intro i r hi h3 h4
    rw [e_X0_settle_L2, if_neg (nI_ge hi (by decide)), gd_nI hi (by decide), bnd_of (room_eq (σ := sAA σ 4 r) (F := F) h.1 h.2.1 (fun c hc => ⟨(hs c hc).1, (hs c hc).2.1⟩) hi), gd_nI hi (by decide), rd_nI _ 4 (by omega), sAA_self, h4 i (by omega), h.2.2.2.2 i hi, jmin_nI (by have := hs i hi; omega) (by unfold roomN; have := hs i hi; split <;> omega), sA_nI _ _ _ (by omega), sAA_self, sAA_sAA, Nat.zero_add]
    rw [nI_add]
    rfl
  · intro r
    rw [e_X0_settle_L2, if_pos (nI_le (Nat.le_refl _) (by decide))]

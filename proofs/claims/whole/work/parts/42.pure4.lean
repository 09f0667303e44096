/-! ===== PURE 4: rows filled, settled ===== -/
theorem fill_ok (σ : St) (k : Nat) (x : Int32) (N : Nat) (hN : lnC k = N) (hlt : N < 4096) : ∃ g, f_J7_fill_53178 k x σ = some (sAA σ k g) ∧ ∀ c, c < N → g c = x := by
  unfold f_J7_fill_53178 f_J7_fill_53178_J5
  rw [hN]
  obtain ⟨y, e, g, rfl, hg⟩ := loop_for (body := f_J7_fill_53178_L5 k x (Int32.ofNat N)) (Post := fun y => ∃ g, y = sAA σ k g ∧ ∀ c, c < N → g c = x) (Inv := fun i v => v.1 = nI i ∧ ∃ g, v.2 = sAA σ k g ∧ ∀ c, c < i → g c = x) N ?_ ?_ hlt (v0 := ((0 : Int32), σ)) ⟨rfl, σ.1 k, (sAA_id σ k).symm, fun c h => by omega⟩
  · refine ⟨g, ?_, hg⟩
    rw [bnd_of e]
  · rintro i ⟨a, b⟩ hi ⟨h1, g, h2, h3⟩
    dsimp only at h1 h2
    subst h1 h2
    refine ⟨(nI (i + 1), sAA σ k (upd g i x)), ?_, rfl, _, rfl, ?_⟩
    · unfold f_J7_fill_53178_L5
      dsimp only
      rw [if_neg (nle_f (a := N) (b := i) hi (by omega) rfl rfl), hN, gd_nI hi (by omega), sA_nI _ _ _ (by omega), sAA_self, sAA_sAA]
      exact congrArg _ (congrArg _ (Prod.ext (nI_1 i) rfl))
    · intro c hc
      unfold upd
      split
      · rfl
      · exact h3 c (by omega)
  · rintro ⟨a, b⟩ ⟨h1, g, h2, h3⟩
    dsimp only at h1 h2
    subst h1 h2
    refine ⟨_, ?_, g, rfl, h3⟩
    unfold f_J7_fill_53178_L5
    dsimp only
    rw [if_pos (nle_t (a := N) (b := N) (Nat.le_refl _) (by omega) rfl rfl)]
/-- the most fill of a cell by itself -/
def roomN (F : Fd) (c : Nat) : Nat := if F 1 c = 0 then 9 - F 0 c else 0
theorem room_eq {σ : St} {F : Fd} (h0 : ∀ c, c < 80 → σ.1 0 c = nI (F 0 c)) (h1 : ∀ c, c < 80 → σ.1 1 c = nI (F 1 c)) (hs : ∀ c, c < 80 → F 0 c ≤ 9 ∧ F 1 c ≤ 1) {c : Nat} (hc : c < 80) : f_X0_room (nI c) σ = some (nI (roomN F c)) := by
  unfold f_X0_room
  rw [gd_nI hc (by decide), rd_nI σ 1 (by omega), h1 c hc]
  unfold roomN
  by_cases h2 : F 1 c = 0
  · rw [if_pos (by rw [h2]; rfl), if_pos h2, gd_nI hc (by decide), rd_nI σ 0 (by omega), h0 c hc]
    exact congrArg _ (pk_sub (hs c hc).1)
  · rw [if_neg (neq_f (b := 0) h2 (by have := hs c hc; omega) (by decide) rfl rfl), if_neg h2]
    rfl
/-- the least fill of twins, 9 at most -/
def leastN (f t : Nat → Nat) (g : Nat) : Nat → Nat
  | 0 => 9
  | n + 1 => if t n = g then min (leastN f t g n) (f n) else leastN f t g n
theorem leastN_le (f t : Nat → Nat) (g n : Nat) : leastN f t g n ≤ 9 := by
  induction n with
  | zero => exact Nat.le_refl _
  | succ n ih => unfold leastN; split <;> omega
/-- fill as it is once what is too much has gone: first each cell by itself, then twins alike -/
def settle1 (F : Fd) (c : Nat) : Nat := min (F 4 c) (roomN F c)
def alikeN (f t : Nat → Nat) (g : Nat) (c : Nat) : Nat := if t c = g then leastN f t g 80 else f c
def settle4 (F : Fd) : Nat → Nat := alikeN (alikeN (alikeN (settle1 F) (F 3) 1) (F 3) 2) (F 3) 3
def withFill (F : Fd) (f : Nat → Nat) : Fd := fun k => if k = 4 then f else F k
theorem jmin_nI {a b : Nat} (ha : a < 2 ^ 31) (hb : b < 2 ^ 31) : jmin (nI a) (nI b) = nI (min a b) := by
  unfold jmin
  by_cases h : b < a
  · rw [if_pos (nI_lt h ha), Nat.min_eq_right (by omega)]
  · rw [if_neg (nI_nlt (by omega) hb), Nat.min_eq_left (by omega)]
/-- makeAlike: the fill of twins g becomes their least -/
theorem makeAlike_ok (σ : St) (t f : Nat → Nat) (g : Nat) (hg : g < 4) (ht : ∀ c, c < 80 → σ.1 3 c = nI (t c)) (ht3 : ∀ c, c < 80 → t c ≤ 3) (hf : ∀ c, c < 80 → σ.1 4 c = nI (f c)) (hf9 : ∀ c, c < 80 → f c ≤ 9) :
    ∃ r, f_X0_makeAlike (nI g) σ = some (sAA σ 4 r) ∧ ∀ c, c < 80 → r c = nI (alikeN f t g c) := by
  unfold f_X0_makeAlike f_X0_makeAlike_J5
  have e1 : loopN (f_X0_makeAlike_L5 (nI g) σ) 4096 ((9 : Int32), (0 : Int32)) = some (nI (leastN f t g 80)) := by
    refine loopN_run (tr := fun i => (nI (leastN f t g i), nI i)) 80 _ ?_ ?_ (by decide)
    · intro i hi
      unfold f_X0_makeAlike_L5
      dsimp only
      rw [if_neg (nle_f (a := 80) (b := i) hi (by decide) rfl rfl), gd_nI hi (by decide), rd_nI σ 3 (by omega), ht i hi, gd_nI hi (by decide), rd_nI σ 4 (by omega), hf i hi]
      by_cases h : t i = g
      · rw [if_pos (by rw [h]), jmin_nI (by have := leastN_le f t g i; omega) (by have := hf9 i hi; omega)]
        refine congrArg _ (congrArg _ (Prod.ext ?_ (nI_1 i)))
        show nI _ = nI (leastN f t g (i + 1))
        conv => rhs; unfold leastN
        rw [if_pos h]
      · rw [if_neg (neq_f h (by have := ht3 i hi; omega) (by omega) rfl rfl)]
        refine congrArg _ (congrArg _ (Prod.ext ?_ (nI_1 i)))
        show nI _ = nI (leastN f t g (i + 1))
        conv => rhs; unfold leastN
        rw [if_neg h]
    · unfold f_X0_makeAlike_L5
      dsimp only
      rw [if_pos (nle_t (a := 80) (b := 80) (Nat.le_refl _) (by decide) rfl rfl)]
  rw [bnd_of e1]
  unfold f_X0_makeAlike_J38 f_X0_makeAlike_J40
  generalize leastN f t g 80 = m at *
  obtain ⟨y, e, r, rfl, hr⟩ := loop_for (body := f_X0_makeAlike_L40 (nI g) (nI m)) (Post := fun y => ∃ r, y = sAA σ 4 r ∧ ∀ c, c < 80 → r c = nI (if t c = g then m else f c)) (Inv := fun i v => v.1 = nI i ∧ ∃ r, v.2 = sAA σ 4 r ∧ (∀ c, c < i → r c = nI (if t c = g then m else f c)) ∧ ∀ c, i ≤ c → r c = σ.1 4 c) 80 ?_ ?_ (fuel := 4096) (by decide) (v0 := ((0 : Int32), σ)) ⟨rfl, σ.1 4, (sAA_id σ 4).symm, fun c h => by omega, fun c _ => rfl⟩
  · refine ⟨r, ?_, hr⟩
    rw [bnd_of e]
  · rintro i ⟨a, b⟩ hi ⟨h1, r, h2, h3, h4⟩
    dsimp only at h1 h2
    subst h1 h2
    by_cases h : t i = g
    · refine ⟨(nI (i + 1), sAA σ 4 (upd r i (nI m))), ?_, rfl, _, rfl, ?_, ?_⟩
      · unfold f_X0_makeAlike_L40
        dsimp only
        rw [if_neg (nle_f (a := 80) (b := i) hi (by decide) rfl rfl), gd_nI hi (by decide), rd_nI _ 3 (by omega), sAA_ne σ r (by decide : (3 : Nat) ≠ 4), ht i hi, if_pos (by rw [h]), gd_nI hi (by decide), sA_nI _ _ _ (by omega), sAA_self, sAA_sAA]
        exact congrArg _ (congrArg _ (Prod.ext (nI_1 i) rfl))
      · intro c hc
        unfold upd
        split
        · rename_i hh; subst hh; rw [if_pos h]
        · exact h3 c (by omega)
      · intro c hc
        unfold upd
        rw [if_neg (by omega)]
        exact h4 c (by omega)
    · refine ⟨(nI (i + 1), sAA σ 4 r), ?_, rfl, _, rfl, ?_, ?_⟩
      · unfold f_X0_makeAlike_L40
        dsimp only
        rw [if_neg (nle_f (a := 80) (b := i) hi (by decide) rfl rfl), gd_nI hi (by decide), rd_nI _ 3 (by omega), sAA_ne σ r (by decide : (3 : Nat) ≠ 4), ht i hi, if_neg (neq_f h (by have := ht3 i hi; omega) (by omega) rfl rfl)]
        exact congrArg _ (congrArg _ (Prod.ext (nI_1 i) rfl))
      · intro c hc
        rcases Nat.lt_or_ge c i with hh | hh
        · exact h3 c hh
        · have e : c = i := by omega
          subst e
          rw [h4 c (Nat.le_refl _), hf c hi, if_neg h]
      · exact fun c hc => h4 c (by omega)
  · rintro ⟨a, b⟩ ⟨h1, r, h2, h3, h4⟩
    dsimp only at h1 h2
    subst h1 h2
    refine ⟨_, ?_, r, rfl, h3⟩
    unfold f_X0_makeAlike_L40
    dsimp only
    rw [if_pos (nle_t (a := 80) (b := 80) (Nat.le_refl _) (by decide) rfl rfl)]
theorem alikeN_le {f t : Nat → Nat} {g : Nat} (hf : ∀ c, c < 80 → f c ≤ 9) : ∀ c, c < 80 → alikeN f t g c ≤ 9 := by
  intro c hc
  unfold alikeN
  split
  · exact leastN_le f t g 80
  · exact hf c hc
/-- settle: fill that is too much goes -/
theorem settle_ok (σ : St) (F : Fd) (h : CF σ F) (hs : ∀ c, c < 80 → F 0 c ≤ 9 ∧ F 1 c ≤ 1 ∧ F 2 c ≤ 3 ∧ F 3 c ≤ 3 ∧ F 4 c ≤ 9) : ∃ r, f_X0_settle σ = some (sAA σ 4 r) ∧ ∀ c, c < 80 → r c = nI (settle4 F c) := by
  unfold f_X0_settle f_X0_settle_J2
  have hs1 : ∀ c, c < 80 → settle1 F c ≤ 9 := fun c hc => by
    have := hs c hc
    unfold settle1
    omega
  obtain ⟨r1, e1, h1, -⟩ := loop_store (σ := σ) (k := 4) (off := 0) (N := 80) (new := fun c => nI (settle1 F c)) (body := f_X0_settle_L2) (fuel := 4096) (by decide) ?_ ?_
  · rw [bnd_of e1]
    unfold f_X0_settle_J34 f_X0_settle_J36
    have t0 : ∀ c, c < 80 → (sAA σ 4 r1).1 3 c = nI (F 3 c) := fun c hc => h.2.2.2.1 c hc
    have t3 : ∀ c, c < 80 → F 3 c ≤ 3 := fun c hc => (hs c hc).2.2.2.1
    have q1 : ∀ c, c < 80 → (sAA σ 4 r1).1 4 c = nI (settle1 F c) := fun c hc => by
      have := h1 c hc
      rw [Nat.zero_add] at this
      exact this
    obtain ⟨r2, e2, h2⟩ := makeAlike_ok (sAA σ 4 r1) (F 3) (settle1 F) 1 (by decide) t0 t3 q1 hs1
    rw [sAA_sAA] at e2
    obtain ⟨r3, e3, h3⟩ := makeAlike_ok (sAA σ 4 r2) (F 3) (alikeN (settle1 F) (F 3) 1) 2 (by decide) (fun c hc => h.2.2.2.1 c hc) t3 (fun c hc => h2 c hc) (alikeN_le hs1)
    rw [sAA_sAA] at e3
    obtain ⟨r4, e4, h4⟩ := makeAlike_ok (sAA σ 4 r3) (F 3) (alikeN (alikeN (settle1 F) (F 3) 1) (F 3) 2) 3 (by decide) (fun c hc => h.2.2.2.1 c hc) t3 (fun c hc => h3 c hc) (alikeN_le (alikeN_le hs1))
    rw [sAA_sAA] at e4
    refine ⟨r4, ?_, h4⟩
    rw [bnd_of (x := sAA σ 4 r4)]
    refine loopN_run (tr := fun i => (nI (1 + i), match i with | 0 => sAA σ 4 r1 | 1 => sAA σ 4 r2 | 2 => sAA σ 4 r3 | _ => sAA σ 4 r4)) 3 _ ?_ ?_ (by decide)
    · intro i hi
      unfold f_X0_settle_L36
      match i, hi with
      | 0, _ =>
        dsimp only
        rw [if_neg (by decide), show nI (1 + 0) = nI 1 from rfl, bnd_of e2]
        rfl
      | 1, _ =>
        dsimp only
        rw [if_neg (by decide), show nI (1 + 1) = nI 2 from rfl, bnd_of e3]
        rfl
      | 2, _ =>
        dsimp only
        rw [if_neg (by decide), show nI (1 + 2) = nI 3 from rfl, bnd_of e4]
        rfl
      | i + 3, hi => omega
    · unfold f_X0_settle_L36
      dsimp only
      rw [if_pos (by decide)]
  · intro i r hi h3 h4
    unfold f_X0_settle_L2
    dsimp only
    rw [if_neg (nle_f (a := 80) (b := i) hi (by decide) rfl rfl), gd_nI hi (by decide), bnd_of (room_eq (σ := sAA σ 4 r) (F := F) h.1 h.2.1 (fun c hc => ⟨(hs c hc).1, (hs c hc).2.1⟩) hi), gd_nI hi (by decide), rd_nI _ 4 (by omega), sAA_self, h4 i (by omega), h.2.2.2.2 i hi, jmin_nI (by have := hs i hi; omega) (by unfold roomN; have := hs i hi; split <;> omega), sA_nI _ _ _ (by omega), sAA_self, sAA_sAA, Nat.zero_add]
    exact congrArg _ (congrArg _ (Prod.ext (nI_1 i) rfl))
  · intro r
    unfold f_X0_settle_L2
    dsimp only
    rw [if_pos (nle_t (a := 80) (b := 80) (Nat.le_refl _) (by decide) rfl rfl)]

/-! ===== PURE 5: what can be undone ===== -/
theorem sI_sI (σ : St) (k : Nat) (x y : Int32) : sI (sI σ k x) k y = sI σ k y := by
  unfold sI
  refine Prod.ext rfl (funext fun j => ?_)
  dsimp only
  cases Nat.beq j k <;> rfl
theorem jrem_nI {a d : Nat} (ha : a < 2 ^ 31) (h0 : 0 < d) (hd : d < 2 ^ 31) : jrem (nI a) (nI d) = nI (a % d) := pk_rem ha h0 hd
theorem or_addZ {x y k : Nat} (h : x < 2 ^ k) : x ||| (y * 2 ^ k) = x + y * 2 ^ k := by
  rw [Nat.or_comm, Nat.mul_comm, ← Nat.two_pow_add_eq_or_of_lt h, Nat.add_comm]
theorem MFd.uni {μ : St} {F : FF} (h : MFd μ F) : ∀ k c, k < 5 → c < 80 → μ.1 0 (80 * k + c) = nI (F k c) := by
  intro k c hk hc
  obtain ⟨h0, h1, h2, h3, h4⟩ := h
  match k, hk with
  | 0, _ => rw [show 80 * 0 + c = c from by omega]; exact h0 c hc
  | 1, _ => exact h1 c hc
  | 2, _ => exact h2 c hc
  | 3, _ => exact h3 c hc
  | 4, _ => exact h4 c hc
  | k + 5, hk => omega
theorem MFd.ofU {μ : St} {F : FF} (h : ∀ k c, k < 5 → c < 80 → μ.1 0 (80 * k + c) = nI (F k c)) : MFd μ F := by
  refine ⟨fun c hc => ?_, fun c hc => h 1 c (by decide) hc, fun c hc => h 2 c (by decide) hc, fun c hc => h 3 c (by decide) hc, fun c hc => h 4 c (by decide) hc⟩
  have := h 0 c (by decide) hc
  rw [show 80 * 0 + c = c from by omega] at this
  exact this
theorem aside_ok (μ : St) : ∃ r, f_X7_aside μ = some (sAA μ 2 r) ∧ ∀ c, c < 400 → r c = μ.1 0 c := by
  rw [e_X7_aside, e_X7_aside_J2]
  have hm := loop_store (σ := μ) (k := 2) (off := 0) (N := 400) (new := fun c => μ.1 0 c) (body := f_X7_aside_L2) (fuel := 4096) (by decide) (fun i r hi h3 h4 => by
    rw [e_X7_aside_L2, if_neg (nI_ge hi (by decide)), gd_nI hi (by decide), gd_nI hi (by decide), rd_nI _ 0 (by omega), sA_nI _ _ _ (by omega), sAA_self, sAA_sAA, sAA_ne μ r (by decide : (0 : Nat) ≠ 2), nI_add, Nat.zero_add]) (fun r => by
    rw [e_X7_aside_L2, if_pos (nI_le (Nat.le_refl 400) (by decide))])
  obtain ⟨r, e, h1, -⟩ := hm
  refine ⟨r, by rw [bnd_of e], fun c hc => ?_⟩
  have := h1 c hc
  rw [Nat.zero_add] at this
  exact this
theorem back_ok (μ : St) : ∃ r, f_X7_back μ = some (sAA μ 0 r) ∧ ∀ c, c < 400 → r c = μ.1 2 c := by
  rw [e_X7_back, e_X7_back_J2]
  have hm := loop_store (σ := μ) (k := 0) (off := 0) (N := 400) (new := fun c => μ.1 2 c) (body := f_X7_back_L2) (fuel := 4096) (by decide) (fun i r hi h3 h4 => by
    rw [e_X7_back_L2, if_neg (nI_ge hi (by decide)), gd_nI hi (by decide), gd_nI hi (by decide), rd_nI _ 2 (by omega), sA_nI _ _ _ (by omega), sAA_self, sAA_sAA, sAA_ne μ r (by decide : (2 : Nat) ≠ 0), nI_add, Nat.zero_add]) (fun r => by
    rw [e_X7_back_L2, if_pos (nI_le (Nat.le_refl 400) (by decide))])
  obtain ⟨r, e, h1, -⟩ := hm
  refine ⟨r, by rw [bnd_of e], fun c hc => ?_⟩
  have := h1 c hc
  rw [Nat.zero_add] at this
  exact this
/-- the last part of keeps: what was put aside comes behind what is known -/
theorem keepsTail (μ : St) (n : Nat) (hn : n < 8) (h : μ.2 0 = nI n) : ∃ r, f_X7_keeps_J50 μ = some (sI (sAA μ 1 r) 0 (nI (n + 1))) ∧ (∀ c, c < 400 → r (400 * n + c) = μ.1 2 c) ∧ ∀ c, (c < 400 * n ∨ 400 * n + 400 ≤ c) → r c = μ.1 1 c := by
  rw [e_X7_keeps_J50, e_X7_keeps_J52]
  have hm := loop_store (σ := μ) (k := 1) (off := 400 * n) (N := 400) (new := fun c => μ.1 2 c) (body := f_X7_keeps_L52) (fuel := 4096) (by decide) (fun i r hi h3 h4 => by
    have hg : gI (sAA μ 1 r) 0 = nI n := h
    rw [e_X7_keeps_L52, hg, if_neg (nI_ge hi (by decide)), gd_nI hi (by decide), pk_mul, nI_add, gd_nI (by omega) (by decide), rd_nI _ 2 (by omega), sA_nI _ _ _ (by omega), sAA_self, sAA_sAA, sAA_ne μ r (by decide : (2 : Nat) ≠ 1), nI_add]) (fun r => by
    rw [e_X7_keeps_L52, if_pos (nI_le (Nat.le_refl 400) (by decide))])
  obtain ⟨r, e, h1, h2⟩ := hm
  refine ⟨r, ?_, h1, h2⟩
  rw [bnd_of e, e_X7_keeps_J86]
  have hg : gI (sAA μ 1 r) 0 = nI n := h
  rw [hg, nI_add]
def pushP (P : Nat → FF) (n : Nat) (F : FF) (a : Nat) : FF := if n < 8 then (if a = n then F else P a) else (if a = 7 then F else P (a + 1))
theorem keeps_ok (μ : St) (n : Nat) (hn : n ≤ 8) (h : μ.2 0 = nI n) (P : Nat → FF) (F : FF) (hP : ∀ a k c, a < n → k < 5 → c < 80 → μ.1 1 (400 * a + 80 * k + c) = nI (P a k c)) (hF : ∀ k c, k < 5 → c < 80 → μ.1 2 (80 * k + c) = nI (F k c)) :
    ∃ r, f_X7_keeps μ = some (sI (sAA μ 1 r) 0 (nI (min (n + 1) 8))) ∧ ∀ a k c, a < min (n + 1) 8 → k < 5 → c < 80 → r (400 * a + 80 * k + c) = nI (pushP P n F a k c) := by
  rw [e_X7_keeps]
  have hg : gI μ 0 = nI n := h
  rw [hg]
  rcases Nat.lt_or_ge n 8 with h8 | h8
  · rw [if_neg (neq_f (b := 8) (by omega) (by omega) (by decide) rfl rfl)]
    obtain ⟨r, e, h1, h2⟩ := keepsTail μ n h8 h
    refine ⟨r, ?_, ?_⟩
    · rw [e, Nat.min_eq_left (by omega)]
    · intro a k c ha hk hc
      unfold pushP
      rw [if_pos h8]
      by_cases q : a = n
      · subst q
        rw [if_pos rfl, Nat.add_assoc, h1 (80 * k + c) (by omega), hF k c hk hc]
      · rw [if_neg q, h2 _ (by omega), hP a k c (by omega) hk hc]
  · have e8 : n = 8 := by omega
    subst e8
    rw [if_pos rfl, e_X7_keeps_J11]
    have hm := loop_store (σ := μ) (k := 1) (off := 0) (N := 2800) (new := fun c => μ.1 1 (c + 400)) (body := f_X7_keeps_L11) (fuel := 4096) (by decide) (fun i r hi h3 h4 => by
      rw [e_X7_keeps_L11, if_neg (nI_ge hi (by decide)), nI_add, gd_nI (by omega) (by decide), gd_nI (by omega) (by decide), rd_nI _ 1 (by omega), sA_nI _ _ _ (by omega), sAA_self, sAA_sAA, nI_add, h4 (i + 400) (by omega), Nat.zero_add]) (fun r => by
      rw [e_X7_keeps_L11, if_pos (nI_le (Nat.le_refl 2800) (by decide))])
    obtain ⟨r1, e1, h1, h2⟩ := hm
    rw [bnd_of e1, e_X7_keeps_J40]
    have hg1 : gI (sAA μ 1 r1) 0 = nI 8 := h
    rw [hg1, pk_sub (by decide)]
    obtain ⟨r, e, h3, h4⟩ := keepsTail (sI (sAA μ 1 r1) 0 (nI (8 - 1))) 7 (by decide) rfl
    refine ⟨r, ?_, ?_⟩
    · rw [e]
      have q1 : sAA (sI (sAA μ 1 r1) 0 (nI (8 - 1))) 1 r = sI (sAA μ 1 r) 0 (nI (8 - 1)) := by
        have := sAA_sAA μ 1 r1 r
        show sI (sAA (sAA μ 1 r1) 1 r) 0 _ = _
        rw [this]
      rw [q1, sI_sI]
      rfl
    · intro a k c ha hk hc
      unfold pushP
      rw [if_neg (by decide)]
      by_cases q : a = 7
      · subst q
        rw [if_pos rfl, Nat.add_assoc, h3 (80 * k + c) (by omega)]
        exact hF k c hk hc
      · rw [if_neg q, h4 _ (by omega)]
        show r1 _ = _
        have := h1 (400 * a + 80 * k + c) (by omega)
        rw [Nat.zero_add] at this
        rw [this, ← hP (a + 1) k c (by omega) hk hc]
        exact congrArg _ (by omega)
/-- a cell packed into one number -/
theorem packed_eq {σ : St} {F : FF} (h : CF σ F) (hs : ∀ c, c < 80 → F 0 c ≤ 9 ∧ F 1 c ≤ 1 ∧ F 2 c ≤ 3 ∧ F 3 c ≤ 3 ∧ F 4 c ≤ 9) {c : Nat} (hc : c < 80) : f_X0_packed (nI c) σ = some (nI (packZ F c)) := by
  have q := hs c hc
  rw [e_X0_packed, gd_nI hc (by decide), gd_nI hc (by decide), gd_nI hc (by decide), gd_nI hc (by decide), gd_nI hc (by decide), rd_nI _ 0 (by omega), rd_nI _ 1 (by omega), rd_nI _ 2 (by omega), rd_nI _ 3 (by omega), rd_nI _ 4 (by omega), h.1 c hc, h.2.1 c hc, h.2.2.1 c hc, h.2.2.2.1 c hc, h.2.2.2.2 c hc]
  rw [pk_shlN (n := F 4 c) (nI 4 &&& nI 31) 4 (by decide) (by omega), pk_shlN (n := F 1 c) (nI 8 &&& nI 31) 8 (by decide) (by omega), pk_shlN (n := F 2 c) (nI 9 &&& nI 31) 9 (by decide) (by omega), pk_shlN (n := F 3 c) (nI 11 &&& nI 31) 11 (by decide) (by omega)]
  rw [fa_or, fa_or, fa_or, fa_or, or_addZ (x := F 0 c) (y := F 4 c) (k := 4) (by omega), or_addZ (x := F 0 c + F 4 c * 2 ^ 4) (y := F 1 c) (k := 8) (by omega), or_addZ (x := F 0 c + F 4 c * 2 ^ 4 + F 1 c * 2 ^ 8) (y := F 2 c) (k := 9) (by omega), or_addZ (x := F 0 c + F 4 c * 2 ^ 4 + F 1 c * 2 ^ 8 + F 2 c * 2 ^ 9) (y := F 3 c) (k := 11) (by omega)]
  unfold packZ
  refine congrArg some (congrArg nI ?_)
  omega
theorem start_eq {σ : St} {o n : Nat} (ho : σ.2 4 = nI o) (h1 : o < 9) (hn : n ≤ 8) : f_X2_start (nI n) σ = some (nI ((o + n) % 9 * 80)) := by
  have hg : gI σ 4 = nI o := ho
  rw [e_X2_start, hg, nI_add, jrem_nI (by omega) (by decide) (by decide), pk_mul]
theorem note_ok {σ : St} {F : FF} {o n : Nat} (h : CF σ F) (hs : ∀ c, c < 80 → F 0 c ≤ 9 ∧ F 1 c ≤ 1 ∧ F 2 c ≤ 3 ∧ F 3 c ≤ 3 ∧ F 4 c ≤ 9) (ho : σ.2 4 = nI o) (h1 : o < 9) (hk : σ.2 3 = nI n) (hn : n ≤ 8) :
    ∃ r, f_X2_note σ = some (sAA σ 15 r) ∧ (∀ c, c < 80 → r (80 * ((o + n) % 9) + c) = nI (packZ F c)) ∧ ∀ c, (c < 80 * ((o + n) % 9) ∨ 80 * ((o + n) % 9) + 80 ≤ c) → r c = σ.1 15 c := by
  have hg : gI σ 3 = nI n := hk
  rw [e_X2_note, hg, bnd_of (start_eq ho h1 hn), e_X2_note_J11]
  have hlt : (o + n) % 9 < 9 := Nat.mod_lt _ (by decide)
  generalize (o + n) % 9 = q at hlt ⊢
  have hm := loop_store (σ := σ) (k := 15) (off := 80 * q) (N := 80) (new := fun c => nI (packZ F c)) (body := f_X2_note_L11 (nI (q * 80))) (fuel := 4096) (by decide) (fun i r hi h3 h4 => by
    rw [e_X2_note_L11, if_neg (nI_ge hi (by decide)), bnd_of (packed_eq (σ := sAA σ 15 r) (F := F) h hs hi), nI_add, gd_nI (by omega) (by decide), sA_nI _ _ _ (by omega), sAA_self, sAA_sAA, nI_add, Nat.mul_comm q 80]) (fun r => by
    rw [e_X2_note_L11, if_pos (nI_le (Nat.le_refl 80) (by decide))])
  obtain ⟨r, e, h2, h3⟩ := hm
  exact ⟨r, by rw [bnd_of e], h2, h3⟩
theorem keep_eq {σ : St} {o n : Nat} (ho : σ.2 4 = nI o) (h1 : o < 9) (hk : σ.2 3 = nI n) (hn : n ≤ 8) : f_X2_keep σ = some (if n < 8 then sI σ 3 (nI (n + 1)) else sI σ 4 (nI ((o + 1) % 9))) := by
  have hg : gI σ 3 = nI n := hk
  have hg4 : gI σ 4 = nI o := ho
  rw [e_X2_keep, hg, hg4]
  by_cases h8 : n < 8
  · rw [if_neg (nI_ge h8 (by decide)), if_pos h8, nI_add]
  · rw [if_pos (nI_le (by omega) (by omega)), if_neg h8, nI_add, jrem_nI (by omega) (by decide) (by decide)]
/-- noted, then kept: both sides hold one field more -/
theorem push_hst {σ σ1 σ2 μ μ2 : St} {F : FF} {n o : Nat} {P : Nat → FF} (hF : FfOk F) (h : Hst σ μ n o P) (r : Nat → Int32) (hr : ∀ c, c < 80 → r (80 * ((o + n) % 9) + c) = nI (packZ F c)) (hr2 : ∀ c, (c < 80 * ((o + n) % 9) ∨ 80 * ((o + n) % 9) + 80 ≤ c) → r c = σ.1 15 c)
    (e1 : σ1.1 15 = r) (e2 : σ1.2 3 = σ.2 3) (e3 : σ1.2 4 = σ.2 4) (ek : f_X2_keep σ1 = some σ2)
    (m1 : μ2.2 0 = nI (min (n + 1) 8)) (m2 : ∀ a k c, a < min (n + 1) 8 → k < 5 → c < 80 → μ2.1 1 (400 * a + 80 * k + c) = nI (pushP P n F a k c)) :
    Hst σ2 μ2 (min (n + 1) 8) (if n < 8 then o else (o + 1) % 9) (pushP P n F) := by
  obtain ⟨hn, ho, h3, h4, h5, h6, h7, h8⟩ := h
  rw [keep_eq (e3.trans h5) ho (e2.trans h3) hn] at ek
  have ek := Option.some.inj ek
  have hmod : ∀ x, x % 9 < 9 := fun x => Nat.mod_lt _ (by decide)
  refine ⟨by omega, ?_, ?_, m1, ?_, ?_, m2, ?_⟩
  · split
    · exact ho
    · exact hmod _
  · rw [← ek]
    split
    · rw [sI_self, Nat.min_eq_left (by omega)]
    · show σ1.2 3 = _
      rw [e2, h3]
      exact congrArg nI (by omega)
  · rw [← ek]
    split
    · show σ1.2 4 = _
      rw [e3, h5]
    · rw [sI_self]
  · intro a ha
    unfold pushP
    split
    · split
      · exact hF
      · exact h6 a (by omega)
    · split
      · exact hF
      · exact h6 (a + 1) (by omega)
  · intro a c ha hc
    have e15 : σ2.1 15 = r := by
      rw [← ek]
      split
      · exact e1
      · exact e1
    rw [e15]
    unfold pushP
    by_cases q8 : n < 8
    · rw [if_pos q8, if_pos q8]
      by_cases q : a = n
      · subst q
        rw [if_pos rfl]
        exact hr c hc
      · rw [if_neg q, hr2 _ (by have := hmod (o + a); have := hmod (o + n); omega), h8 a c (by omega) hc]
    · rw [if_neg q8, if_neg q8]
      have e8 : n = 8 := by omega
      subst e8
      by_cases q : a = 7
      · subst q
        rw [if_pos rfl, ← hr c hc]
        exact congrArg r (by omega)
      · rw [if_neg q]
        rw [show ((o + 1) % 9 + a) % 9 = (o + (a + 1)) % 9 from by omega]
        rw [hr2 _ (by have := hmod (o + (a + 1)); have := hmod (o + 8); omega), h8 (a + 1) c (by omega) hc]

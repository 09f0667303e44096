/-! ===== PURE 25: sums that change at one place; windows shifted; a family changed, on both sides ===== -/
theorem sumZ_upd {f f' : Nat → Nat} {n k : Nat} (hk : k < n) (h : ∀ i, i < n → i ≠ k → f' i = f i) : sumZ f' n + f k = sumZ f n + f' k := by
  have key : ∀ g : Nat → Nat, sumZ g n = sumZ (fun i => if i = k then 0 else g i) n + g k := by
    intro g
    rw [← sumZ_one (n := n) (k := k) hk (g k), ← sumZ_add]
    refine sumZ_congr fun i hi => ?_
    by_cases q : i = k
    · rw [if_pos q, if_pos q, q]; omega
    · rw [if_neg q, if_neg q]; omega
  rw [key f, key f']
  rw [sumZ_congr (f := fun i => if i = k then 0 else f' i) (g := fun i => if i = k then 0 else f i) (fun i hi => by
    by_cases q : i = k
    · rw [if_pos q, if_pos q]
    · rw [if_neg q, if_neg q, h i hi q])]
  omega
theorem cntZ_upd {p p' : Nat → Bool} {n k : Nat} (hk : k < n) (h : ∀ i, i < n → i ≠ k → p' i = p i) : cntZ p' n + (if p k then 1 else 0) = cntZ p n + (if p' k then 1 else 0) :=
  sumZ_upd (f := fun i => if p i then 1 else 0) (f' := fun i => if p' i then 1 else 0) hk (fun i hi q => by
    show (if p' i = true then 1 else 0) = if p i = true then 1 else 0
    rw [h i hi q])
theorem nI_prdQ {x y : Nat} (h : y + 1 = x) : nI x + -nI 1 = nI y := by
  subst h
  rw [← nI_add, Int32.add_assoc, Int32.add_right_neg]
  exact Int32.add_zero _
/-- so much more (or less), told by numbers -/
theorem byzQ {x y u v : Nat} {d : Int32} (h : nI u + d = nI v) (e : y + u = x + v) : nI x + d = nI y := by
  refine (Int32.add_left_inj (nI u)).mp ?_
  rw [Int32.add_assoc, Int32.add_comm d, h, nI_add, nI_add, e]
theorem jmaxQ {a b : Nat} (ha : a < 2 ^ 29) (hb : b < 2 ^ 29) : jmax (nI 0) ((nI a - nI b) + nI 1) = nI (a + 1 - b) := by
  have e : (nI a - nI b) + nI 1 = nI (a + 1) - nI b := by
    rw [← nI_add, Int32.sub_eq_add_neg, Int32.sub_eq_add_neg, Int32.add_assoc, Int32.add_comm (-nI b), ← Int32.add_assoc]
  unfold jmax
  rw [e]
  by_cases q : b ≤ a + 1
  · rw [pk_sub q]
    by_cases z : 0 < a + 1 - b
    · rw [if_pos (nI_lt z (by omega))]
    · rw [if_neg (nI_nlt (by omega) (by omega)), show a + 1 - b = 0 from by omega]
  · rw [if_neg, show a + 1 - b = 0 from by omega]
    rw [Int32.lt_iff_toInt_lt, pk_sub_toInt (by omega) (by omega), nI_toInt (by decide)]
    omega
theorem CW.congrS {σ : St} {Q s t : Nat → Nat} (h : CW σ Q s) (e : ∀ a, a < 80 → lies Q a = true → s a = t a) : CW σ Q t := by
  have e1 : ∀ a, a < 80 → smOf Q s a = smOf Q t a := fun a ha => by
    cases hl : lies Q a
    · rw [sm_n hl, sm_n hl]
    · rw [sm_y hl, sm_y hl, e a ha hl]
  have e2 : ∀ a, a < 80 → thinB Q s a = thinB Q t a := fun a ha => by
    unfold thinB
    cases hl : lies Q a
    · rfl
    · rw [e a ha hl]
  have e3 : ∀ a, a < 80 → fullB Q s a = fullB Q t a := fun a ha => by
    unfold fullB
    cases hl : lies Q a
    · rfl
    · rw [e a ha hl]
  refine ⟨fun a ha => (h.1 a ha).trans (e1 a ha), fun c hc => ?_, fun c hc => ?_⟩
  · rw [h.2.1 c hc]
    exact congrArg nI (cntZ_congr (p := fun a => thinB Q s a && inW Q a c) (q := fun a => thinB Q t a && inW Q a c) (n := 80) (fun a ha => by rw [e2 a ha]))
  · rw [h.2.2 c hc]
    exact congrArg nI (cntZ_congr (p := fun a => fullB Q s a && inW Q a c) (q := fun a => fullB Q t a && inW Q a c) (n := 80) (fun a ha => by rw [e3 a ha]))
theorem shiftOne_ok (σ : St) (Q s s' : Nat → Nat) (hC : CQ σ Q) (hQ : QOk Q) (hW : CW σ Q s) {a : Nat} (ha : a < 80) (hl : lies Q a = true) (hs : s a < 2 ^ 30) (hs' : s' a < 2 ^ 30) (d : Int32) (hd : nI (s a) + d = nI (s' a)) (he : ∀ x, x < 80 → x ≠ a → s' x = s x) :
    ∃ σ', f_X5_shiftOne (nI a) d σ = some σ' ∧ FmZ [5, 6, 7] [] σ σ' ∧ CW σ' Q s' := by
  obtain ⟨-, h6, h7, h8, h9, -⟩ := hC
  obtain ⟨qa, qb, qc, qd, qe, qf, -⟩ := hQ
  have kt : ∀ c, thinOver Q s' c + (if thinB Q s a && inW Q a c then 1 else 0) = thinOver Q s c + (if thinB Q s' a && inW Q a c then 1 else 0) := fun c => cntZ_upd (p := fun x => thinB Q s x && inW Q x c) (p' := fun x => thinB Q s' x && inW Q x c) ha (fun x hx q => by
    show (thinB Q s' x && inW Q x c) = (thinB Q s x && inW Q x c)
    unfold thinB
    rw [he x hx q])
  have kf : ∀ c, fullOver Q s' c + (if fullB Q s a && inW Q a c then 1 else 0) = fullOver Q s c + (if fullB Q s' a && inW Q a c then 1 else 0) := fun c => cntZ_upd (p := fun x => fullB Q s x && inW Q x c) (p' := fun x => fullB Q s' x && inW Q x c) ha (fun x hx q => by
    show (fullB Q s' x && inW Q x c) = (fullB Q s x && inW Q x c)
    unfold fullB
    rw [he x hx q])
  have e5 : sA σ 5 (nI a) (nI (s' a)) = sAA σ 5 (upd (σ.1 5) a (nI (s' a))) := sA_nI _ _ _ (by omega)
  rw [e_X5_shiftOne, bnd_of (isThin_eq ha (hW.1 a ha) h8 qe hs), bnd_of (isFull_eq ha (hW.1 a ha) h9 qf hs), gd_nI ha (by decide), gd_nI ha (by decide), rd_nI _ 5 (by omega), hW.1 a ha, sm_y hl, hd, e5]
  have hu : ∀ x, x < 80 → upd (σ.1 5) a (nI (s' a)) x = smOf Q s' x := by
    intro x hx
    unfold upd
    by_cases q : x = a
    · rw [if_pos q, q, sm_y hl]
    · rw [if_neg q, hW.1 x hx]
      unfold smOf
      rw [he x hx q]
  generalize hu5 : upd (σ.1 5) a (nI (s' a)) = u5 at hu ⊢
  rw [bnd_of (isThin_eq (σ := sAA σ 5 u5) ha (hu a ha) h8 qe hs')]
  -- thin windows
  have thinp : ∀ x4 : Int32, ∃ r, (if (if thinB Q s a then nI 1 else nI 0) = (if thinB Q s' a then nI 1 else nI 0) then f_X5_shiftOne_J50 (nI a) x4 (sAA σ 5 u5) else (if (if thinB Q s a then nI 1 else nI 0) = nI 0 then f_X5_shiftOne_J47 (nI a) x4 (nI 1) (nI a) (sAA σ 5 u5) else f_X5_shiftOne_J47 (nI a) x4 (-nI 1) (nI a) (sAA σ 5 u5))) = f_X5_shiftOne_J50 (nI a) x4 (sAA (sAA σ 5 u5) 6 r) ∧ ∀ c, c < 80 → r c = nI (thinOver Q s' c) := by
    intro x4
    cases t1 : thinB Q s a <;> cases t2 : thinB Q s' a
    · rw [bF, if_pos rfl]
      refine ⟨(sAA σ 5 u5).1 6, by rw [sAA_id], fun c hc => ?_⟩
      have k := kt c
      rw [t1, t2] at k
      have k : thinOver Q s' c + 0 = thinOver Q s c + 0 := k
      show σ.1 6 c = _
      rw [hW.2.1 c hc]
      exact congrArg nI (by omega)
    · rw [bF, bT, if_neg (by decide), if_pos rfl, e_X5_shiftOne_J47]
      obtain ⟨r, e, hr⟩ := spread_ok (sAA σ 5 u5) 6 rfl Q h6 h7 ⟨qb, qd⟩ ha hl (nI 1)
      refine ⟨r, by rw [bnd_of e], fun c hc => ?_⟩
      rw [hr c hc]
      show (if inW Q a c = true then σ.1 6 c + nI 1 else σ.1 6 c) = _
      rw [hW.2.1 c hc]
      have k := kt c
      rw [t1, t2] at k
      cases i : inW Q a c
      · rw [i] at k
        have k : thinOver Q s' c + 0 = thinOver Q s c + 0 := k
        rw [bF]
        exact congrArg nI (by omega)
      · rw [i] at k
        have k : thinOver Q s' c + 0 = thinOver Q s c + 1 := k
        rw [bT, nI_add]
        exact congrArg nI (by omega)
    · rw [bT, bF, if_neg (by decide), if_neg (by decide), e_X5_shiftOne_J47]
      obtain ⟨r, e, hr⟩ := spread_ok (sAA σ 5 u5) 6 rfl Q h6 h7 ⟨qb, qd⟩ ha hl (-nI 1)
      refine ⟨r, by rw [bnd_of e], fun c hc => ?_⟩
      rw [hr c hc]
      show (if inW Q a c = true then σ.1 6 c + -nI 1 else σ.1 6 c) = _
      rw [hW.2.1 c hc]
      have k := kt c
      rw [t1, t2] at k
      cases i : inW Q a c
      · rw [i] at k
        have k : thinOver Q s' c + 0 = thinOver Q s c + 0 := k
        rw [bF]
        exact congrArg nI (by omega)
      · rw [i] at k
        have k : thinOver Q s' c + 1 = thinOver Q s c + 0 := k
        rw [bT]
        exact nI_prdQ (by omega)
    · rw [bT, if_pos rfl]
      refine ⟨(sAA σ 5 u5).1 6, by rw [sAA_id], fun c hc => ?_⟩
      have k := kt c
      rw [t1, t2] at k
      have k : thinOver Q s' c = thinOver Q s c := Nat.add_right_cancel k
      show σ.1 6 c = _
      rw [hW.2.1 c hc]
      exact congrArg nI (by omega)
  obtain ⟨r6, e6, hr6⟩ := thinp (if fullB Q s a then nI 1 else nI 0)
  rw [e6, e_X5_shiftOne_J50, bnd_of (isFull_eq (σ := sAA (sAA σ 5 u5) 6 r6) ha (hu a ha) h9 qf hs')]
  -- full windows
  have fullp : ∃ r, (if (if fullB Q s a then nI 1 else nI 0) = (if fullB Q s' a then nI 1 else nI 0) then some (sAA (sAA σ 5 u5) 6 r6) else (if (if fullB Q s a then nI 1 else nI 0) = nI 0 then f_X5_shiftOne_J76 (nI 1) (nI a) (sAA (sAA σ 5 u5) 6 r6) else f_X5_shiftOne_J76 (-nI 1) (nI a) (sAA (sAA σ 5 u5) 6 r6))) = some (sAA (sAA (sAA σ 5 u5) 6 r6) 7 r) ∧ ∀ c, c < 80 → r c = nI (fullOver Q s' c) := by
    cases t1 : fullB Q s a <;> cases t2 : fullB Q s' a
    · rw [bF, if_pos rfl]
      refine ⟨(sAA (sAA σ 5 u5) 6 r6).1 7, by rw [sAA_id], fun c hc => ?_⟩
      have k := kf c
      rw [t1, t2] at k
      have k : fullOver Q s' c + 0 = fullOver Q s c + 0 := k
      show σ.1 7 c = _
      rw [hW.2.2 c hc]
      exact congrArg nI (by omega)
    · rw [bF, bT, if_neg (by decide), if_pos rfl, e_X5_shiftOne_J76]
      obtain ⟨r, e, hr⟩ := spread_ok (sAA (sAA σ 5 u5) 6 r6) 7 rfl Q h6 h7 ⟨qb, qd⟩ ha hl (nI 1)
      refine ⟨r, by rw [bnd_of e], fun c hc => ?_⟩
      rw [hr c hc]
      show (if inW Q a c = true then σ.1 7 c + nI 1 else σ.1 7 c) = _
      rw [hW.2.2 c hc]
      have k := kf c
      rw [t1, t2] at k
      cases i : inW Q a c
      · rw [i] at k
        have k : fullOver Q s' c + 0 = fullOver Q s c + 0 := k
        rw [bF]
        exact congrArg nI (by omega)
      · rw [i] at k
        have k : fullOver Q s' c + 0 = fullOver Q s c + 1 := k
        rw [bT, nI_add]
        exact congrArg nI (by omega)
    · rw [bT, bF, if_neg (by decide), if_neg (by decide), e_X5_shiftOne_J76]
      obtain ⟨r, e, hr⟩ := spread_ok (sAA (sAA σ 5 u5) 6 r6) 7 rfl Q h6 h7 ⟨qb, qd⟩ ha hl (-nI 1)
      refine ⟨r, by rw [bnd_of e], fun c hc => ?_⟩
      rw [hr c hc]
      show (if inW Q a c = true then σ.1 7 c + -nI 1 else σ.1 7 c) = _
      rw [hW.2.2 c hc]
      have k := kf c
      rw [t1, t2] at k
      cases i : inW Q a c
      · rw [i] at k
        have k : fullOver Q s' c + 0 = fullOver Q s c + 0 := k
        rw [bF]
        exact congrArg nI (by omega)
      · rw [i] at k
        have k : fullOver Q s' c + 1 = fullOver Q s c + 0 := k
        rw [bT]
        exact nI_prdQ (by omega)
    · rw [bT, if_pos rfl]
      refine ⟨(sAA (sAA σ 5 u5) 6 r6).1 7, by rw [sAA_id], fun c hc => ?_⟩
      have k := kf c
      rw [t1, t2] at k
      have k : fullOver Q s' c = fullOver Q s c := Nat.add_right_cancel k
      show σ.1 7 c = _
      rw [hW.2.2 c hc]
      exact congrArg nI (by omega)
  obtain ⟨r7, e7, hr7⟩ := fullp
  exact ⟨_, e7, FmZ.sAA (FmZ.sAA (FmZ.sAA FmZ.rfl' (by decide) _) (by decide) _) (by decide) _, hu, hr6, hr7⟩
theorem CQ.fm {L LI : List Nat} {σ σ' : St} {Q : Nat → Nat} (h : CQ σ Q) (hf : FmZ L LI σ σ') (h9 : 9 ∉ L) (h17 : 17 ∉ L) (i6 : 6 ∉ LI) (i7 : 7 ∉ LI) (i8 : 8 ∉ LI) (i9 : 9 ∉ LI) : CQ σ' Q := by
  unfold CQ at h ⊢
  rw [hf.1 9 h9, hf.1 17 h17, hf.2 6 i6, hf.2 7 i7, hf.2 8 i8, hf.2 9 i9]
  exact h
/-- sums that are another's up to a place -/
def mixS (s s' : Nat → Nat) (k a : Nat) : Nat := if a < k then s' a else s a
theorem mixS_lt {s s' : Nat → Nat} {k a b : Nat} (h : s a < b) (h' : s' a < b) : mixS s s' k a < b := by
  unfold mixS
  split
  · exact h'
  · exact h
theorem wshift_ok (σ : St) (Q s s' : Nat → Nat) (hC : CQ σ Q) (hQ : QOk Q) (hW : CW σ Q s) {one : Nat} (h1 : one < 80) (hs : ∀ a, s a < 2 ^ 30) (hs' : ∀ a, s' a < 2 ^ 30) (d : Int32) (hd : ∀ a, a < 80 → lies Q a = true → inW Q a one = true → nI (s a) + d = nI (s' a)) (he : ∀ a, a < 80 → lies Q a = true → inW Q a one = false → s' a = s a) :
    ∃ σ', f_X5_shift (nI one) d σ = some σ' ∧ FmZ [5, 6, 7] [] σ σ' ∧ CW σ' Q s' := by
  obtain ⟨qa, qb, qc, qd, qe, qf, -⟩ := id hQ
  have g6 : ∀ σ', FmZ [5, 6, 7] [] σ σ' → gI σ' 6 = nI (Q 0) := fun σ' hf => by show σ'.2 6 = _; rw [hf.2 6 (by decide)]; exact hC.2.1
  have g7 : ∀ σ', FmZ [5, 6, 7] [] σ σ' → gI σ' 7 = nI (Q 1) := fun σ' hf => by show σ'.2 7 = _; rw [hf.2 7 (by decide)]; exact hC.2.2.1
  obtain ⟨t0, ht0⟩ : ∃ t0, t0 = one / 10 + 1 - Q 0 := ⟨_, rfl⟩
  obtain ⟨l0, hl0⟩ : ∃ l0, l0 = one % 10 + 1 - Q 1 := ⟨_, rfl⟩
  obtain ⟨tm, htm⟩ : ∃ tm, tm = min (one / 10) (8 - Q 0) := ⟨_, rfl⟩
  obtain ⟨lm, hlm⟩ : ∃ lm, lm = min (one % 10) (10 - Q 1) := ⟨_, rfl⟩
  have out : ∀ x k k', k ≤ k' → CW x Q (mixS s s' k) → (∀ a, a < 80 → k ≤ a → a < k' → lies Q a = true → inW Q a one = false) → CW x Q (mixS s s' k') := by
    intro x k k' hk h0 hz
    refine h0.congrS (fun a ha la => ?_)
    unfold mixS
    by_cases z1 : a < k
    · rw [if_pos z1, if_pos (by omega)]
    · rw [if_neg z1]
      by_cases z2 : a < k'
      · rw [if_pos z2, he a ha la (hz a ha (by omega) z2 la)]
      · rw [if_neg z2]
  rw [e_X5_shift, g6 σ FmZ.rfl', g7 σ FmZ.rfl', jrem_nI (by omega) (by decide) (by decide), pk_div (by omega) (by decide) (by decide), pk_sub (by omega), pk_sub (by omega), jmin_nI (by omega) (by omega), jmin_nI (by omega) (by omega), jmaxQ (by omega) (by omega), ← ht0, ← htm, ← hlm, e_X5_shift_J52]
  have hm : ∃ y, loopN (f_X5_shift_L52 d (nI (one % 10)) (nI tm) (nI lm)) 4096 (nI t0, σ) = some y ∧ FmZ [5, 6, 7] [] σ y ∧ CW y Q (mixS s s' (10 * (tm + 1))) := by
    refine loop_for (Inv := fun i v => v.1 = nI (t0 + i) ∧ FmZ [5, 6, 7] [] σ v.2 ∧ CW v.2 Q (mixS s s' (10 * (t0 + i)))) (tm + 1 - t0) ?_ ?_ (by omega) ⟨rfl, FmZ.rfl', ?_⟩
    · rintro i ⟨b, st⟩ hi ⟨q1, q2, q3⟩
      dsimp only at q1 q2 q3
      subst q1
      have hin : ∃ y, loopN (f_X5_shift_L74 d (nI (one % 10)) (nI tm) (nI lm) (nI (t0 + i))) 4096 (nI l0, st) = some y ∧ FmZ [5, 6, 7] [] σ y ∧ CW y Q (mixS s s' (10 * (t0 + i) + (lm + 1))) := by
        refine loop_for (Inv := fun j v => v.1 = nI (l0 + j) ∧ FmZ [5, 6, 7] [] σ v.2 ∧ CW v.2 Q (mixS s s' (10 * (t0 + i) + (l0 + j)))) (lm + 1 - l0) ?_ ?_ (by omega) ⟨rfl, q2, ?_⟩
        · rintro j ⟨b, su⟩ hj ⟨w1, w2, w3⟩
          dsimp only at w1 w2 w3
          subst w1
          have la : lies Q (10 * (t0 + i) + (l0 + j)) = true := lies_iff.mpr ⟨by omega, by omega⟩
          have ia : inW Q (10 * (t0 + i) + (l0 + j)) one = true := inW_iff.mpr ⟨⟨by omega, by omega⟩, by omega, by omega⟩
          have a80 : 10 * (t0 + i) + (l0 + j) < 80 := by omega
          obtain ⟨sv, e, f1, f2⟩ := shiftOne_ok su Q (mixS s s' (10 * (t0 + i) + (l0 + j))) (mixS s s' (10 * (t0 + i) + (l0 + (j + 1)))) (hC.fm w2 (by decide) (by decide) (by decide) (by decide) (by decide) (by decide)) hQ w3 a80 la (mixS_lt (hs _) (hs' _)) (mixS_lt (hs _) (hs' _)) d (by
              unfold mixS
              rw [if_neg (by omega), if_pos (by omega)]
              exact hd _ a80 la ia) (fun x hx q => by
              unfold mixS
              by_cases z : x < 10 * (t0 + i) + (l0 + j)
              · rw [if_pos z, if_pos (by omega)]
              · rw [if_neg z, if_neg (by omega)])
          refine ⟨(nI (l0 + (j + 1)), sv), ?_, rfl, w2.trans f1, f2⟩
          rw [e_X5_shift_L74, if_neg (nI_nlt (by omega) (by omega)), pk_mul, nI_add, bnd_of e, nI_add]
          rfl
        · rintro ⟨b, su⟩ ⟨w1, w2, w3⟩
          dsimp only at w1 w2 w3
          subst w1
          refine ⟨su, ?_, w2, ?_⟩
          · rw [e_X5_shift_L74, if_pos (nI_lt (by omega) (by omega))]
          · rw [show l0 + (lm + 1 - l0) = lm + 1 from by omega] at w3
            exact w3
        · refine out st _ _ (by omega) q3 (fun a ha z1 z2 la => ?_)
          cases hi2 : inW Q a one
          · rfl
          · have := inW_iff.mp hi2
            omega
      obtain ⟨y, e, f1, f2⟩ := hin
      refine ⟨(nI (t0 + (i + 1)), y), ?_, rfl, f1, ?_⟩
      · rw [e_X5_shift_L52, if_neg (nI_nlt (by omega) (by omega)), g7 st q2, jmaxQ (by omega) (by omega), ← hl0, e_X5_shift_J74, bnd_of e, e_X5_shift_J100, nI_add]
        rfl
      · refine out y _ _ (by omega) f2 (fun a ha z1 z2 la => ?_)
        have l2 := lies_iff.mp la
        cases hi2 : inW Q a one
        · rfl
        · have := inW_iff.mp hi2
          omega
    · rintro ⟨b, st⟩ ⟨q1, q2, q3⟩
      dsimp only at q1 q2 q3
      subst q1
      refine ⟨st, ?_, q2, ?_⟩
      · rw [e_X5_shift_L52, if_pos (nI_lt (by omega) (by omega))]
      · rw [show t0 + (tm + 1 - t0) = tm + 1 from by omega] at q3
        exact q3
    · refine out σ 0 _ (by omega) (hW.congrS (fun a ha la => by unfold mixS; rw [if_neg (by omega)])) (fun a ha z1 z2 la => ?_)
      cases hi2 : inW Q a one
      · rfl
      · have := inW_iff.mp hi2
        omega
  obtain ⟨y, e, f1, f2⟩ := hm
  refine ⟨y, by rw [bnd_of e], f1, ?_⟩
  refine (out y _ 80 (by omega) f2 (fun a ha z1 z2 la => ?_)).congrS (fun a ha la => by unfold mixS; rw [if_pos ha])
  have l2 := lies_iff.mp la
  cases hi2 : inW Q a one
  · rfl
  · have := inW_iff.mp hi2
    omega

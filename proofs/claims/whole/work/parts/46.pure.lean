/-! ===== PURE 8: nets measured ===== -/
def nbMask (F : FF) (c : Nat) : Nat := (((if 10 ≤ c then 2 ^ F 2 (c - 10) else 0) ||| (if c + 10 < 80 then 2 ^ F 2 (c + 10) else 0)) ||| (if 0 < c % 10 then 2 ^ F 2 (c - 1) else 0)) ||| (if c % 10 + 1 < 10 then 2 ^ F 2 (c + 1) else 0)
theorem bit1 : ∀ n, n < 4 → nI 1 <<< (nI n &&& nI 31) = nI (2 ^ n) := by decide +kernel
theorem p2_lt {n : Nat} (h : n ≤ 3) : 2 ^ n < 16 := by
  match n, h with
  | 0, _ => decide
  | 1, _ => decide
  | 2, _ => decide
  | 3, _ => decide
  | n + 4, h => omega
theorem or_lt16 {a b : Nat} (ha : a < 16) (hb : b < 16) : a ||| b < 16 := Nat.or_lt_two_pow (n := 4) ha hb
theorem nbMask_lt {F : FF} (h : ∀ c, c < 80 → F 2 c ≤ 3) {c : Nat} (hc : c < 80) : nbMask F c < 16 := by
  unfold nbMask
  refine or_lt16 (or_lt16 (or_lt16 ?_ ?_) ?_) ?_
  · split
    · exact p2_lt (h _ (by omega))
    · decide
  · split
    · exact p2_lt (h _ (by omega))
    · decide
  · split
    · exact p2_lt (h _ (by omega))
    · decide
  · split
    · exact p2_lt (h _ (by omega))
    · decide
theorem netsBeside_eq {σ : St} {F : FF} (h : ∀ c, c < 80 → σ.1 2 c = nI (F 2 c)) (h3 : ∀ c, c < 80 → F 2 c ≤ 3) {c : Nat} (hc : c < 80) : f_X3_netsBeside (nI c) σ = some (nI (nbMask F c)) := by
  have j67 : ∀ m, f_X3_netsBeside_J67 (nI c) (nI (c % 10)) (nI m) σ = some (nI (m ||| (if c % 10 + 1 < 10 then 2 ^ F 2 (c + 1) else 0))) := by
    intro m
    rw [e_X3_netsBeside_J67, nI_add, nI_add]
    by_cases q : c % 10 + 1 < 10
    · rw [if_neg (nI_ge q (by decide)), if_pos q, gd_nI (by omega) (by decide), rd_nI _ 2 (by omega), h _ (by omega), bit1 _ (by have := h3 (c + 1) (by omega); omega), fa_or]
    · rw [if_pos (nI_le (by omega) (by omega)), if_neg q, Nat.or_zero]
  have j50 : ∀ m, f_X3_netsBeside_J50 (nI c) (nI (c % 10)) (nI m) σ = some (nI ((m ||| (if 0 < c % 10 then 2 ^ F 2 (c - 1) else 0)) ||| (if c % 10 + 1 < 10 then 2 ^ F 2 (c + 1) else 0))) := by
    intro m
    rw [e_X3_netsBeside_J50]
    by_cases q : 0 < c % 10
    · rw [if_neg (nI_ge q (by omega)), if_pos q, pk_sub (by omega), gd_nI (by omega) (by decide), rd_nI _ 2 (by omega), h _ (by omega), bit1 _ (by have := h3 (c - 1) (by omega); omega), fa_or, j67]
    · rw [if_pos (nI_le (by omega) (by omega)), if_neg q, Nat.or_zero, j67]
  have j27 : ∀ m, f_X3_netsBeside_J27 (nI c) (nI (c % 10)) (nI m) σ = some (nI (((m ||| (if c + 10 < 80 then 2 ^ F 2 (c + 10) else 0)) ||| (if 0 < c % 10 then 2 ^ F 2 (c - 1) else 0)) ||| (if c % 10 + 1 < 10 then 2 ^ F 2 (c + 1) else 0))) := by
    intro m
    rw [e_X3_netsBeside_J27, nI_add]
    by_cases q : c + 10 < 80
    · rw [if_neg (nI_ge q (by decide)), if_pos q, gd_nI (by omega) (by decide), rd_nI _ 2 (by omega), h _ (by omega), bit1 _ (by have := h3 (c + 10) (by omega); omega), fa_or, j50]
    · rw [if_pos (nI_le (by omega) (by omega)), if_neg q, Nat.or_zero, j50]
  rw [e_X3_netsBeside, jrem_nI (by omega) (by decide) (by decide)]
  unfold nbMask
  by_cases q : 10 ≤ c
  · rw [if_neg (nI_nlt q (by omega)), if_pos q, pk_sub q, gd_nI (by omega) (by decide), rd_nI _ 2 (by omega), h _ (by omega), bit1 _ (by have := h3 (c - 10) (by omega); omega), fa_or, Nat.zero_or, j27]
  · rw [if_pos (nI_lt (by omega) (by omega)), if_neg q, j27]
theorem nbMask_bit {F : FF} {c n : Nat} : (nbMask F c).testBit n = beside F n c := by
  unfold nbMask beside
  rw [Nat.testBit_or, Nat.testBit_or, Nat.testBit_or]
  have key : ∀ (p : Prop) [Decidable p] (k : Nat), (if p then 2 ^ k else 0).testBit n = (decide p && (k == n)) := by
    intro p _ k
    by_cases q : p
    · rw [if_pos q, Nat.testBit_two_pow, decide_eq_true q, Bool.true_and]
      rfl
    · rw [if_neg q, Nat.zero_testBit, decide_eq_false q]
      rfl
  rw [key, key, key, key]
/-- what is borne: nets beside but a cell's own -/
theorem mask_eq : ∀ m, m < 16 → ∀ o, o < 4 → (nI m &&& ((nI 1 <<< (nI o &&& nI 31)) ^^^ (-nI 1))) &&& (-nI 2) = nI ((if !(o == 1) && m.testBit 1 then 2 else 0) + (if !(o == 2) && m.testBit 2 then 4 else 0) + (if !(o == 3) && m.testBit 3 then 8 else 0)) := by decide +kernel
theorem borne_eq {F : FF} (h3 : ∀ c, c < 80 → F 2 c ≤ 3) {c : Nat} (hc : c < 80) : (nI (nbMask F c) &&& ((nI 1 <<< (nI (F 2 c) &&& nI 31)) ^^^ (-nI 1))) &&& (-nI 2) = nI (bitsN F c) := by
  rw [mask_eq _ (nbMask_lt h3 hc) _ (by have := h3 c hc; omega), nbMask_bit, nbMask_bit, nbMask_bit]
  rfl
theorem bitsN_bit {F : FF} {c n : Nat} (h1 : 1 ≤ n) (h4 : n < 4) : (nI (bitsN F c) >>> (nI n &&& nI 31)) &&& nI 1 = nI (if bor F n c then 1 else 0) := by
  unfold bitsN
  match n, h1, h4 with
  | 1, _, _ => cases bor F 1 c <;> cases bor F 2 c <;> cases bor F 3 c <;> decide
  | 2, _, _ => cases bor F 1 c <;> cases bor F 2 c <;> cases bor F 3 c <;> decide
  | 3, _, _ => cases bor F 1 c <;> cases bor F 2 c <;> cases bor F 3 c <;> decide
  | 0, h1, _ => omega
  | n + 4, _, h4 => omega
theorem bitsN_0 {F : FF} {c : Nat} (h : bitsN F c = 0) : bor F 1 c = false ∧ bor F 2 c = false ∧ bor F 3 c = false := by
  unfold bitsN at h
  cases h1 : bor F 1 c <;> cases h2 : bor F 2 c <;> cases h3 : bor F 3 c <;> simp [h1, h2, h3] at h ⊢
theorem bitsN_lt {F : FF} {c : Nat} : bitsN F c < 16 := by
  unfold bitsN
  cases bor F 1 c <;> cases bor F 2 c <;> cases bor F 3 c <;> decide
/-- shift of the nets: the burdens by a cell's fill -/
theorem nshift_ok (σ : St) (F : FF) {c : Nat} (hc : c < 80) (h11 : σ.1 11 c = nI (bitsN F c)) (by_ : Int32) :
    ∃ r, f_X3_shift (nI c) by_ σ = some (sAA σ 10 r) ∧ ∀ n, 1 ≤ n → n < 4 → r n = if bor F n c then σ.1 10 n + by_ else σ.1 10 n := by
  rw [e_X3_shift, gd_nI hc (by decide), rd_nI _ 11 (by omega), h11]
  by_cases q : bitsN F c = 0
  · rw [if_pos (by rw [q]), e_X3_shift_J43]
    refine ⟨σ.1 10, by rw [sAA_id], fun n h1 h4 => ?_⟩
    obtain ⟨b1, b2, b3⟩ := bitsN_0 q
    match n, h1, h4 with
    | 1, _, _ => rw [b1]; rfl
    | 2, _, _ => rw [b2]; rfl
    | 3, _, _ => rw [b3]; rfl
    | 0, h1, _ => omega
    | n + 4, _, h4 => omega
  · rw [if_neg (neq_f (b := 0) q (by have := bitsN_lt (F := F) (c := c); omega) (by decide) rfl rfl), e_X3_shift_J11]
    have hm : ∃ y, loopN (f_X3_shift_L11 (nI c) by_) 4096 (nI 1, σ) = some y ∧ ∃ r, y = sAA σ 10 r ∧ ∀ n, 1 ≤ n → n < 4 → r n = if bor F n c then σ.1 10 n + by_ else σ.1 10 n := by
      refine loop_for (Inv := fun i v => ∃ r, v = (nI (1 + i), sAA σ 10 r) ∧ (∀ n, 1 ≤ n → n < 1 + i → r n = if bor F n c then σ.1 10 n + by_ else σ.1 10 n) ∧ ∀ n, 1 + i ≤ n → r n = σ.1 10 n) 3 ?_ ?_ (by decide) ⟨σ.1 10, by rw [sAA_id], fun n h1 h2 => by omega, fun _ _ => rfl⟩
      · rintro i v hi ⟨r, rfl, q1, q2⟩
        refine ⟨_, ?_, upd r (1 + i) (if bor F (1 + i) c then σ.1 10 (1 + i) + by_ else σ.1 10 (1 + i)), rfl, ?_, ?_⟩
        · rw [e_X3_shift_L11, if_neg (nI_ge (by omega) (by decide)), gd_nI (by omega) (by decide), gd_nI hc (by decide), gd_nI (by omega) (by decide), rd_nI _ 10 (by omega), rd_nI _ 11 (by omega), sAA_self, sAA_ne σ r (by decide : (11 : Nat) ≠ 10), h11, bitsN_bit (by omega) (by omega), sA_nI _ _ _ (by omega), sAA_self, sAA_sAA, q2 _ (Nat.le_refl _), nI_add]
          cases bor F (1 + i) c
          · rw [if_neg (by decide), if_neg (by decide), show by_ * nI 0 = nI 0 from Int32.mul_zero, show σ.1 10 (1 + i) + nI 0 = σ.1 10 (1 + i) from Int32.add_zero _]
            rfl
          · rw [if_pos rfl, if_pos rfl, show by_ * nI 1 = by_ from Int32.mul_one _]
            rfl
        · intro n h1 h2
          unfold upd
          by_cases q3 : n = 1 + i
          · subst q3; rw [if_pos rfl]
          · rw [if_neg q3]; exact q1 n h1 (by omega)
        · intro n h1
          unfold upd
          rw [if_neg (by omega)]
          exact q2 n (by omega)
      · rintro v ⟨r, rfl, q1, q2⟩
        refine ⟨_, ?_, r, rfl, q1⟩
        rw [e_X3_shift_L11, if_pos (nI_le (by decide) (by decide))]
    obtain ⟨y, e, r, rfl, h⟩ := hm
    exact ⟨r, by rw [bnd_of e], h⟩
/-- the class's state with other rows of nets -/
def stNz (σ : St) (a b c : Nat → Int32) : St := (fun j => if j = 10 then a else if j = 11 then b else if j = 12 then c else σ.1 j, σ.2)
theorem stNz_id (σ : St) : stNz σ (σ.1 10) (σ.1 11) (σ.1 12) = σ := by
  refine Prod.ext (funext fun j => ?_) rfl
  unfold stNz
  dsimp only
  by_cases h5 : j = 10
  · rw [if_pos h5, h5]
  · rw [if_neg h5]
    by_cases h6 : j = 11
    · rw [if_pos h6, h6]
    · rw [if_neg h6]
      by_cases h7 : j = 12
      · rw [if_pos h7, h7]
      · rw [if_neg h7]
theorem stNz_10 (σ : St) (a b c g : Nat → Int32) : sAA (stNz σ a b c) 10 g = stNz σ g b c := by
  refine Prod.ext (funext fun j => ?_) rfl
  by_cases h : j = 10
  · subst h; rfl
  · rw [sAA_ne _ _ h]
    unfold stNz
    dsimp only
    rw [if_neg h, if_neg h]
theorem stNz_11 (σ : St) (a b c g : Nat → Int32) : sAA (stNz σ a b c) 11 g = stNz σ a g c := by
  refine Prod.ext (funext fun j => ?_) rfl
  by_cases h : j = 11
  · subst h; rfl
  · rw [sAA_ne _ _ h]
    unfold stNz
    dsimp only
    by_cases h5 : j = 10
    · rw [if_pos h5, if_pos h5]
    · rw [if_neg h5, if_neg h5, if_neg h, if_neg h]
theorem stNz_12 (σ : St) (a b c g : Nat → Int32) : sAA (stNz σ a b c) 12 g = stNz σ a b g := by
  refine Prod.ext (funext fun j => ?_) rfl
  by_cases h : j = 12
  · subst h; rfl
  · rw [sAA_ne _ _ h]
    unfold stNz
    dsimp only
    by_cases h5 : j = 10
    · rw [if_pos h5, if_pos h5]
    · rw [if_neg h5, if_neg h5]
      by_cases h6 : j = 11
      · rw [if_pos h6, if_pos h6]
      · rw [if_neg h6, if_neg h6, if_neg h, if_neg h]
theorem nmeasure_ok (σ : St) (F : FF) (h2 : ∀ c, c < 80 → σ.1 2 c = nI (F 2 c)) (h3 : ∀ c, c < 80 → σ.1 3 c = nI (F 3 c)) (h4 : ∀ c, c < 80 → σ.1 4 c = nI (F 4 c)) (hF : ∀ c, c < 80 → F 0 c ≤ 9 ∧ F 1 c ≤ 1 ∧ F 2 c ≤ 3 ∧ F 3 c ≤ 3 ∧ F 4 c ≤ 9) :
    ∃ a b c, f_X3_measure σ = some (stNz σ a b c) ∧ CNz (stNz σ a b c) F (burdenOf F) := by
  have hn3 : ∀ c, c < 80 → F 2 c ≤ 3 := fun c hc => (hF c hc).2.2.1
  obtain ⟨a0, e1, ha0⟩ := fill_ok σ 10 (nI 0) 4 rfl (by decide)
  obtain ⟨c0, e2, hc0⟩ := fill_ok (sAA σ 10 a0) 12 (nI 0) 16 rfl (by decide)
  have est : sAA (sAA σ 10 a0) 12 c0 = stNz σ a0 (σ.1 11) c0 := by
    conv => lhs; rw [← stNz_id σ]
    rw [stNz_10, stNz_12]
  rw [e_X3_measure, bnd_of e1, bnd_of e2, est, e_X3_measure_J18]
  have inner : ∀ i, i < 80 → ∀ (a b c : Nat → Int32) (k0 : Nat → Nat → Nat), b i = nI (bitsN F i) → (∀ g n, g < 4 → 1 ≤ n → n < 4 → c (4 * g + n) = nI (k0 g n)) → ∃ c', loopN (f_X3_measure_L54 (nI i)) 4096 (nI 1, stNz σ a b c) = some (stNz σ a b c') ∧ ∀ g n, g < 4 → 1 ≤ n → n < 4 → c' (4 * g + n) = nI (k0 g n + (if (F 3 i == g) && bor F n i then 1 else 0)) := by
    intro i hi a b c k0 hb hc
    have t3 := (hF i hi).2.2.2.1
    have hm : ∃ y, loopN (f_X3_measure_L54 (nI i)) 4096 (nI 1, stNz σ a b c) = some y ∧ ∃ c', y = stNz σ a b c' ∧ ∀ g n, g < 4 → 1 ≤ n → n < 4 → c' (4 * g + n) = nI (k0 g n + (if (F 3 i == g) && bor F n i then 1 else 0)) := by
      refine loop_for (Inv := fun j v => ∃ c', v = (nI (1 + j), stNz σ a b c') ∧ (∀ g n, g < 4 → 1 ≤ n → n < 1 + j → c' (4 * g + n) = nI (k0 g n + (if (F 3 i == g) && bor F n i then 1 else 0))) ∧ ∀ g n, g < 4 → 1 + j ≤ n → n < 4 → c' (4 * g + n) = nI (k0 g n)) 3 ?_ ?_ (by decide) ⟨c, rfl, fun g n _ h1 h2 => by omega, fun g n hg h1 h2 => hc g n hg (by omega) h2⟩
      · rintro j v hj ⟨c', rfl, q1, q2⟩
        refine ⟨_, ?_, upd c' (4 * F 3 i + (1 + j)) (c' (4 * F 3 i + (1 + j)) + nI (if bor F (1 + j) i then 1 else 0)), rfl, ?_, ?_⟩
        · rw [e_X3_measure_L54, if_neg (nI_ge (by omega) (by decide)), gd_nI hi (by decide), rd_nI _ 3 (by omega)]
          rw [show (stNz σ a b c').1 3 i = nI (F 3 i) from h3 i hi, pk_mul, nI_add, gd_nI (by omega) (by decide), gd_nI hi (by decide), gd_nI (by omega) (by decide), rd_nI _ 12 (by omega), rd_nI _ 11 (by omega)]
          rw [show (stNz σ a b c').1 11 i = nI (bitsN F i) from hb, bitsN_bit (by omega) (by omega), sA_nI _ _ _ (by omega)]
          rw [show (stNz σ a b c').1 12 = c' from rfl, stNz_12, nI_add]
          rfl
        · intro g n hg h1 h2
          unfold upd
          by_cases q : n = 1 + j
          · subst q
            by_cases qg : F 3 i = g
            · subst qg
              rw [if_pos rfl, q2 _ _ (by omega) (Nat.le_refl _) (by omega), nI_add, beq_self_eq_true, Bool.true_and]
            · rw [if_neg (by omega), q2 _ _ hg (Nat.le_refl _) (by omega), show (F 3 i == g) = false from by simpa using qg]
              rfl
          · rw [if_neg (by omega)]
            exact q1 g n hg h1 (by omega)
        · intro g n hg h1 h2
          unfold upd
          rw [if_neg (by omega)]
          exact q2 g n hg (by omega) h2
      · rintro v ⟨c', rfl, q1, q2⟩
        refine ⟨_, ?_, c', rfl, q1⟩
        rw [e_X3_measure_L54, if_pos (nI_le (by decide) (by decide))]
    obtain ⟨y, e, c', rfl, h⟩ := hm
    exact ⟨c', e, h⟩
  have hm : ∃ y, loopN f_X3_measure_L18 4096 (nI 0, stNz σ a0 (σ.1 11) c0) = some y ∧ ∃ a b c, y = stNz σ a b c ∧ (∀ n, 1 ≤ n → n < 4 → a n = nI (sumZ (fun c => if bor F n c then F 4 c else 0) 80)) ∧ (∀ c1, c1 < 80 → b c1 = nI (bitsN F c1)) ∧ ∀ g n, g < 4 → 1 ≤ n → n < 4 → c (4 * g + n) = nI (cntZ (fun c => (F 3 c == g) && bor F n c) 80) := by
    refine loop_for (Inv := fun i v => ∃ a b c, v = (nI i, stNz σ a b c) ∧ (∀ n, 1 ≤ n → n < 4 → a n = nI (sumZ (fun c => if bor F n c then F 4 c else 0) i)) ∧ (∀ c1, c1 < i → b c1 = nI (bitsN F c1)) ∧ ∀ g n, g < 4 → 1 ≤ n → n < 4 → c (4 * g + n) = nI (cntZ (fun c => (F 3 c == g) && bor F n c) i)) 80 ?_ ?_ (by decide) ⟨_, _, _, rfl, fun n h1 h4 => ha0 n h4, fun c1 h => by omega, fun g n hg h1 h4 => hc0 _ (by omega)⟩
    · rintro i v hi ⟨a, b, c, rfl, q1, q2, q3⟩
      obtain ⟨c', e3, hc'⟩ := inner i hi a (upd b i (nI (bitsN F i))) c _ (by unfold upd; rw [if_pos rfl]) q3
      obtain ⟨a', e4, ha'⟩ := nshift_ok (stNz σ a (upd b i (nI (bitsN F i))) c') F hi (by show upd b i _ i = _; unfold upd; rw [if_pos rfl]) (nI (F 4 i))
      rw [stNz_10] at e4
      refine ⟨_, ?_, a', upd b i (nI (bitsN F i)), c', rfl, ?_, ?_, ?_⟩
      · rw [e_X3_measure_L18, if_neg (nI_ge hi (by decide)), gd_nI hi (by decide), bnd_of (netsBeside_eq (σ := stNz σ a b c) h2 hn3 hi), gd_nI hi (by decide), rd_nI _ 2 (by omega)]
        rw [show (stNz σ a b c).1 2 i = nI (F 2 i) from h2 i hi, borne_eq hn3 hi, sA_nI _ _ _ (by omega)]
        rw [show (stNz σ a b c).1 11 = b from rfl, stNz_11, e_X3_measure_J54, bnd_of e3, e_X3_measure_J96, gd_nI hi (by decide), rd_nI _ 4 (by omega)]
        rw [show (stNz σ a (upd b i (nI (bitsN F i))) c').1 4 i = nI (F 4 i) from h4 i hi, bnd_of e4, nI_add]
      · intro n h1 h4'
        rw [ha' n h1 h4']
        show (if bor F n i = true then a n + nI (F 4 i) else a n) = nI (sumZ _ i + (if bor F n i = true then F 4 i else 0))
        rw [q1 n h1 h4']
        cases bor F n i
        · rfl
        · rw [if_pos rfl, if_pos rfl, nI_add]
      · intro c1 hc1
        unfold upd
        by_cases q : c1 = i
        · subst q; rw [if_pos rfl]
        · rw [if_neg q]; exact q2 c1 (by omega)
      · intro g n hg h1 h4'
        rw [hc' g n hg h1 h4']
        rfl
    · rintro v ⟨a, b, c, rfl, q1, q2, q3⟩
      refine ⟨_, ?_, a, b, c, rfl, q1, q2, q3⟩
      rw [e_X3_measure_L18, if_pos (nI_le (Nat.le_refl _) (by decide))]
  obtain ⟨y, e, a, b, c, rfl, q1, q2, q3⟩ := hm
  exact ⟨a, b, c, by rw [bnd_of e], q1, q2, q3⟩
/-- measure: all that follows from the field and the settings, anew -/
theorem measure_ok (σ : St) (F : FF) (Q : Nat → Nat) (hC : CF σ F) (hF : ∀ c, c < 80 → F 0 c ≤ 9 ∧ F 1 c ≤ 1 ∧ F 2 c ≤ 3 ∧ F 3 c ≤ 3 ∧ F 4 c ≤ 9) (hQc : CQ σ Q) (hQ : QOk Q) :
    ∃ σ', f_X1_measure σ = some σ' ∧ CF σ' F ∧ CQ σ' Q ∧ CDz σ' Q F ∧ (∀ k, 13 ≤ k → σ'.1 k = σ.1 k) ∧ σ'.2 = σ.2 := by
  obtain ⟨a, b, c, d, e1, hw, hs⟩ := wmeasure_ok σ F Q hC.1 hC.2.2.2.1 hC.2.2.2.2 hF hQc hQ
  obtain ⟨x, y, z, e2, hn⟩ := nmeasure_ok (stW σ a b c d) F hC.2.2.1 hC.2.2.2.1 hC.2.2.2.2 hF
  refine ⟨stNz (stW σ a b c d) x y z, ?_, hC, hQc, ⟨hw, fun g w hg1 hg4 hw1 => hs g w hg4 hw1, hn⟩, ?_, rfl⟩
  · rw [e_X1_measure, bnd_of e1, bnd_of e2]
  · intro k hk
    unfold stNz stW
    dsimp only
    rw [if_neg (by omega), if_neg (by omega), if_neg (by omega), if_neg (by omega), if_neg (by omega), if_neg (by omega), if_neg (by omega)]

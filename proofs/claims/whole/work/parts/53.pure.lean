/-! ===== PURE 15: undo; the start ===== -/
/-- the class's state with another field -/
def stFz (σ : St) (a b c d e : Nat → Int32) : St := (fun j => if j = 0 then a else if j = 1 then b else if j = 2 then c else if j = 3 then d else if j = 4 then e else σ.1 j, σ.2)
theorem stFz_id (σ : St) : stFz σ (σ.1 0) (σ.1 1) (σ.1 2) (σ.1 3) (σ.1 4) = σ := by
  refine Prod.ext (funext fun j => ?_) rfl
  match j with
  | 0 => rfl
  | 1 => rfl
  | 2 => rfl
  | 3 => rfl
  | 4 => rfl
  | j + 5 =>
    unfold stFz
    dsimp only
    rw [if_neg (by omega), if_neg (by omega), if_neg (by omega), if_neg (by omega), if_neg (by omega)]
theorem stFz_hi (σ : St) (a b c d e : Nat → Int32) (j : Nat) : (stFz σ a b c d e).1 (j + 5) = σ.1 (j + 5) := by
  unfold stFz
  dsimp only
  rw [if_neg (by omega), if_neg (by omega), if_neg (by omega), if_neg (by omega), if_neg (by omega)]
theorem stFz_k (σ : St) (a b c d e g : Nat → Int32) : sAA (stFz σ a b c d e) 0 g = stFz σ g b c d e ∧ sAA (stFz σ a b c d e) 1 g = stFz σ a g c d e ∧ sAA (stFz σ a b c d e) 2 g = stFz σ a b g d e ∧ sAA (stFz σ a b c d e) 3 g = stFz σ a b c g e ∧ sAA (stFz σ a b c d e) 4 g = stFz σ a b c d g := by
  refine ⟨?_, ?_, ?_, ?_, ?_⟩
  all_goals
    refine Prod.ext (funext fun j => ?_) rfl
    match j with
    | 0 => rfl
    | 1 => rfl
    | 2 => rfl
    | 3 => rfl
    | 4 => rfl
    | j + 5 =>
      rw [sAA_ne _ _ (by omega), stFz_hi, stFz_hi]
theorem unpack_eq {σ : St} {a b c d e : Nat → Int32} {F : FF} {x : Nat} (hx : x < 80) (h : F 0 x ≤ 9 ∧ F 1 x ≤ 1 ∧ F 2 x ≤ 3 ∧ F 3 x ≤ 3 ∧ F 4 x ≤ 9) : f_X0_unpack (nI x) (nI (packZ F x)) (stFz σ a b c d e) = some (stFz σ (upd a x (nI (F 0 x))) (upd b x (nI (F 1 x))) (upd c x (nI (F 2 x))) (upd d x (nI (F 3 x))) (upd e x (nI (F 4 x)))) := by
  have hp : packZ F x < 2 ^ 31 := by unfold packZ; omega
  have v0 : nI (packZ F x) &&& nI 15 = nI (F 0 x) := by
    rw [pk_andN (by omega) 4 (by decide)]
    exact congrArg nI (by unfold packZ; omega)
  have v4 : (nI (packZ F x) >>> (nI 4 &&& nI 31)) &&& nI 15 = nI (F 4 x) := by
    rw [pk_shrN hp (nI 4 &&& nI 31) 4 (by decide), pk_andN (by omega) 4 (by decide)]
    exact congrArg nI (by unfold packZ; omega)
  have v1 : (nI (packZ F x) >>> (nI 8 &&& nI 31)) &&& nI 1 = nI (F 1 x) := by
    rw [pk_shrN hp (nI 8 &&& nI 31) 8 (by decide), pk_andN (by omega) 1 (by decide)]
    exact congrArg nI (by unfold packZ; omega)
  have v2 : (nI (packZ F x) >>> (nI 9 &&& nI 31)) &&& nI 3 = nI (F 2 x) := by
    rw [pk_shrN hp (nI 9 &&& nI 31) 9 (by decide), pk_andN (by omega) 2 (by decide)]
    exact congrArg nI (by unfold packZ; omega)
  have v3 : (nI (packZ F x) >>> (nI 11 &&& nI 31)) &&& nI 3 = nI (F 3 x) := by
    rw [pk_shrN hp (nI 11 &&& nI 31) 11 (by decide), pk_andN (by omega) 2 (by decide)]
    exact congrArg nI (by unfold packZ; omega)
  rw [e_X0_unpack, gd_nI hx (by decide), gd_nI hx (by decide), gd_nI hx (by decide), gd_nI hx (by decide), gd_nI hx (by decide), v0, v1, v2, v3, v4]
  have s0 : ∀ y, sA (stFz σ a b c d e) 0 (nI x) y = stFz σ (upd a x y) b c d e := fun y => by rw [sA_nI _ _ _ (by omega), (stFz_k σ a b c d e _).1]; rfl
  have s4 : ∀ a y, sA (stFz σ a b c d e) 4 (nI x) y = stFz σ a b c d (upd e x y) := fun a y => by rw [sA_nI _ _ _ (by omega), (stFz_k σ a b c d e _).2.2.2.2]; rfl
  have s1 : ∀ a e y, sA (stFz σ a b c d e) 1 (nI x) y = stFz σ a (upd b x y) c d e := fun a e y => by rw [sA_nI _ _ _ (by omega), (stFz_k σ a b c d e _).2.1]; rfl
  have s2 : ∀ a b e y, sA (stFz σ a b c d e) 2 (nI x) y = stFz σ a b (upd c x y) d e := fun a b e y => by rw [sA_nI _ _ _ (by omega), (stFz_k σ a b c d e _).2.2.1]; rfl
  have s3 : ∀ a b c e y, sA (stFz σ a b c d e) 3 (nI x) y = stFz σ a b c (upd d x y) e := fun a b c e y => by rw [sA_nI _ _ _ (by omega), (stFz_k σ a b c d e _).2.2.2.1]; rfl
  rw [s0, s4, s1, s2, s3]
theorem takeBack_ok {σ : St} {F : FF} {n o : Nat} (hF : FfOk F) (hn1 : 1 ≤ n) (hn : n ≤ 8) (ho : o < 9) (h3 : σ.2 3 = nI n) (h4 : σ.2 4 = nI o) (hp : ∀ c, c < 80 → σ.1 15 (80 * ((o + (n - 1)) % 9) + c) = nI (packZ F c)) :
    ∃ a b c d e, f_X2_takeBack σ = some (stFz (sI σ 3 (nI (n - 1))) a b c d e) ∧ CF (stFz (sI σ 3 (nI (n - 1))) a b c d e) F := by
  have g3 : gI σ 3 = nI n := h3
  rw [e_X2_takeBack, g3, if_neg (nI_ge (by omega) (by omega)), pk_sub hn1]
  have g3' : gI (sI σ 3 (nI (n - 1))) 3 = nI (n - 1) := rfl
  rw [g3', bnd_of (start_eq (σ := sI σ 3 (nI (n - 1))) h4 ho (by omega)), e_X2_takeBack_J28]
  have hlt : (o + (n - 1)) % 9 < 9 := Nat.mod_lt _ (by decide)
  generalize (o + (n - 1)) % 9 = q at hlt hp ⊢
  generalize hs : sI σ 3 (nI (n - 1)) = s1
  have hp1 : ∀ c, c < 80 → s1.1 15 (80 * q + c) = nI (packZ F c) := fun c hc => by rw [← hs]; exact hp c hc
  have hm : ∃ y, loopN (f_X2_takeBack_L28 (nI (q * 80))) 4096 (nI 0, s1) = some y ∧ ∃ a b c d e, y = stFz s1 a b c d e ∧ ∀ x, x < 80 → a x = nI (F 0 x) ∧ b x = nI (F 1 x) ∧ c x = nI (F 2 x) ∧ d x = nI (F 3 x) ∧ e x = nI (F 4 x) := by
    refine loop_for (Inv := fun i v => ∃ a b c d e, v = (nI i, stFz s1 a b c d e) ∧ ∀ x, x < i → a x = nI (F 0 x) ∧ b x = nI (F 1 x) ∧ c x = nI (F 2 x) ∧ d x = nI (F 3 x) ∧ e x = nI (F 4 x)) 80 ?_ ?_ (by decide) ⟨_, _, _, _, _, by rw [stFz_id], fun x h => by omega⟩
    · rintro i v hi ⟨a, b, c, d, e, rfl, h⟩
      refine ⟨_, ?_, upd a i (nI (F 0 i)), upd b i (nI (F 1 i)), upd c i (nI (F 2 i)), upd d i (nI (F 3 i)), upd e i (nI (F 4 i)), rfl, ?_⟩
      · rw [e_X2_takeBack_L28, if_neg (nI_ge hi (by decide)), nI_add, gd_nI (by omega) (by decide), rd_nI _ 15 (by omega)]
        rw [show (stFz s1 a b c d e).1 15 = s1.1 15 from rfl, Nat.mul_comm q 80, hp1 i hi, bnd_of (unpack_eq hi (hF.1 i hi)), nI_add]
      · intro x hx
        unfold upd
        by_cases q2 : x = i
        · subst q2
          rw [if_pos rfl, if_pos rfl, if_pos rfl, if_pos rfl, if_pos rfl]
          exact ⟨rfl, rfl, rfl, rfl, rfl⟩
        · rw [if_neg q2, if_neg q2, if_neg q2, if_neg q2, if_neg q2]
          exact h x (by omega)
    · rintro v ⟨a, b, c, d, e, rfl, h⟩
      refine ⟨_, ?_, a, b, c, d, e, rfl, h⟩
      rw [e_X2_takeBack_L28, if_pos (nI_le (Nat.le_refl _) (by decide))]
  obtain ⟨y, e9, a, b, c, d, e, rfl, h⟩ := hm
  exact ⟨a, b, c, d, e, by rw [bnd_of e9], fun x hx => (h x hx).1, fun x hx => (h x hx).2.1, fun x hx => (h x hx).2.2.1, fun x hx => (h x hx).2.2.2.1, fun x hx => (h x hx).2.2.2.2⟩
theorem sim_undo : Sim0 TieZ f_X6_undo f_X7_undo := by
  intro σ μ h
  obtain ⟨F, Q, n, t, o, P, h1, h2, h3, h4, h5, h6, h7, h8, h9, h10⟩ := id h
  obtain ⟨hn, ho, hk, hk2, hol, hP1, hP2, hP3⟩ := id h10
  have g3 : gI σ 3 = nI n := hk
  have g0 : gI μ 0 = nI n := hk2
  by_cases q : n = 0
  · subst q
    obtain ⟨rr, σr, μr, er1, er2, hrr⟩ := ref_bnd h (-3) (by decide)
    refine ⟨rr, σr, μr, ?_, ?_, hrr⟩
    · rw [e_X6_undo, g3, if_pos rfl]
      exact er1
    · rw [e_X7_undo, g0, if_pos rfl]
      exact er2
  · have hn1 : n - 1 < n := by omega
    obtain ⟨a, b, c, d, e, e1, c1⟩ := takeBack_ok (F := P (n - 1)) (hP1 _ hn1) (by omega) hn ho hk hol (fun c hc => hP3 (n - 1) c hn1 hc)
    obtain ⟨σ', e2, d1, d2, d3, d4, d5⟩ := measure_ok (stFz (sI σ 3 (nI (n - 1))) a b c d e) _ Q c1 (hP1 _ hn1).1 h4 h2
    have hm := loop_store (σ := sI μ 0 (nI (n - 1))) (k := 0) (off := 0) (N := 400) (new := fun x => μ.1 1 (400 * (n - 1) + x)) (body := f_X7_undo_L26) (fuel := 4096) (by decide) (fun i r hi _ _ => by
      have gg : gI (sAA (sI μ 0 (nI (n - 1))) 0 r) 0 = nI (n - 1) := rfl
      rw [e_X7_undo_L26, gg, if_neg (nI_ge hi (by decide)), pk_mul, nI_add, gd_nI (by omega) (by decide), gd_nI hi (by decide), rd_nI _ 1 (by omega), sA_nI _ _ _ (by omega), sAA_self, sAA_sAA, nI_add, Nat.zero_add]
      rfl) (fun r => by
      rw [e_X7_undo_L26, if_pos (nI_le (Nat.le_refl 400) (by decide))])
    obtain ⟨y, m1, hy, -⟩ := hm
    have hy2 : ∀ k x, k < 5 → x < 80 → y (80 * k + x) = nI (P (n - 1) k x) := by
      intro k x hk5 hx
      have w := hy (80 * k + x) (by omega)
      rw [Nat.zero_add] at w
      rw [w, ← Nat.add_assoc]
      exact hP2 (n - 1) k x hn1 hk5 hx
    refine ⟨nI (n - 1), σ', sAA (sI μ 0 (nI (n - 1))) 0 y, ?_, ?_, P (n - 1), Q, n - 1, t, o, P, hP1 _ hn1, h2, d1, d2, d3, MFd.ofU hy2, h7, ?_, ?_, ?_⟩
    · rw [e_X6_undo, g3, if_neg (neq_f (b := 0) q (by omega) (by decide) rfl rfl), bnd_of e1, bnd_of e2]
      rw [show gI σ' 3 = nI (n - 1) from by show σ'.2 3 = _; rw [d5]; rfl]
    · rw [e_X7_undo, g0, if_neg (neq_f (b := 0) q (by omega) (by decide) rfl rfl), pk_sub (by omega), e_X7_undo_J26, bnd_of m1, e_X7_undo_J60]
      rfl
    · unfold Cts at h8 ⊢
      rw [d5]
      exact h8
    · unfold Txz at h9 ⊢
      rw [d5, d4 16 (by decide)]
      exact h9
    · refine ⟨by omega, ho, ?_, rfl, ?_, fun a ha => hP1 a (by omega), fun a k c ha hk5 hc => hP2 a k c (by omega) hk5 hc, fun a c ha hc => ?_⟩
      · rw [d5]; rfl
      · rw [d5]; exact hol
      · rw [d4 15 (by decide)]; exact hP3 a c (by omega) hc
/-- the start: what the constructors make is tied -/
theorem start_tie : ∃ r0, f_X6_init_T sig00 = some r0 ∧ TieZ r0 mu0 := by
  have hm := loop_store (σ := sig00) (k := 17) (off := 0) (N := 8) (new := fun x => svl 0 x) (body := f_X6_init_L62) (fuel := 4096) (by decide) (fun i r hi _ _ => by
    rw [e_X6_init_L62, if_neg (nI_ge hi (by decide)), gd_nI hi (by decide), gd_nI hi (by decide), nI_clamp (by omega), sA_nI _ _ _ (by omega), sAA_self, sAA_sAA, nI_add, Nat.zero_add]) (fun r => by
    rw [e_X6_init_L62, if_pos (nI_le (Nat.le_refl 8) (by decide))])
  obtain ⟨r, e1, hr, -⟩ := hm
  have hQ0 : QOk (fun k => ([2, 3, 0, 720, 99, 99, 99, 0] : List Nat).getD k 0) := by
    unfold QOk
    decide
  have h17 : ∀ k, k < 8 → (sAA sig00 17 r).1 17 k = nI (([2, 3, 0, 720, 99, 99, 99, 0] : List Nat).getD k 0) := by
    intro k hk
    have w := hr k hk
    rw [Nat.zero_add] at w
    show r k = _
    rw [w]
    match k, hk with
    | 0, _ => rfl
    | 1, _ => rfl
    | 2, _ => rfl
    | 3, _ => rfl
    | 4, _ => rfl
    | 5, _ => rfl
    | 6, _ => rfl
    | 7, _ => rfl
    | k + 8, hk => omega
  have hF0 : FfOk (fun _ _ => 0) := ⟨fun c _ => ⟨Nat.zero_le _, Nat.zero_le _, Nat.zero_le _, Nat.zero_le _, Nat.zero_le _⟩, fun c d _ _ _ h => absurd rfl h⟩
  obtain ⟨σ', e2, d1, d2, d3, d4, d5⟩ := useSettings_ok (sAA sig00 17 r) (fun _ _ => 0) _ ⟨fun _ _ => rfl, fun _ _ => rfl, fun _ _ => rfl, fun _ _ => rfl, fun _ _ => rfl⟩ hF0.1 h17 hQ0
  refine ⟨σ', ?_, _, _, 0, 0, 0, fun _ => fun _ _ => 0, hF0, hQ0, d1, d2, d3, ⟨fun _ _ => rfl, fun _ _ => rfl, fun _ _ => rfl, fun _ _ => rfl, fun _ _ => rfl⟩, ?_, ?_, ⟨by decide, ?_, rfl, fun i hi => by omega⟩, ⟨by decide, by decide, ?_, rfl, ?_, fun a ha => by omega, fun a k c ha => by omega, fun a c ha => by omega⟩⟩
  · rw [e_X6_init_T, e_X6_init_J62, bnd_of e1, e_X6_init_J85, bnd_of e2]
  · intro k hk
    match k, hk with
    | 0, _ => rfl
    | 1, _ => rfl
    | 2, _ => rfl
    | 3, _ => rfl
    | 4, _ => rfl
    | 5, _ => rfl
    | 6, _ => rfl
    | 7, _ => rfl
    | k + 8, hk => omega
  · unfold Cts
    rw [d5]
    exact ⟨rfl, rfl, rfl⟩
  · rw [d5]; rfl
  · rw [d5]; rfl
  · rw [d5]; rfl

section WKX
variable {sc st n : Int32} {M Ba Ea L Ka Va now nx : Nat → Int32} {B E : Nat → Nat} {m : Nat} {g h : Nat → Nat} {post : SX → Prop}
theorem wk_ix (s b : Nat) : nI s * 8 + nI b = nI (8 * s + b) := by rw [wk_8, pk_mul, nI_add, Nat.mul_comm]
theorem wk_iy (s b : Nat) : 8 * nI s + nI b = nI (8 * s + b) := by rw [wk_8, pk_mul, nI_add]
theorem wk_ge8 {s : Nat} (z : s < 8) : ¬ (8 : Int32) ≤ nI s := nI_ge (b := 8) z (by decide)
theorem wk_ge64 {s : Nat} (z : s < 64) : ¬ (64 : Int32) ≤ nI s := nI_ge (b := 64) z (by decide)
theorem wk_le8 : (8 : Int32) ≤ nI 8 := by decide
theorem wk_le64 : (64 : Int32) ≤ nI 64 := by decide
theorem wx_send {ec : Int32} {a b : Nat} (ha : a < 8) (hb : b < 8) (hn : wk_P now g) (hx : wk_P nx h)
    (k : ∀ nx', wk_P nx' (fun c => h c + (if c % 8 = b then g (8 * (c / 8) + a) else 0)) → post (ec, sc, st, M, Ba, Ea, L, Ka, Va, now, nx')) :
    wpX_send post (ec, sc, st, M, Ba, Ea, L, Ka, Va, now, nx) (nI a) (nI b) := by
  have key : ∀ f s nx, s ≤ 8 → 8 - s < f → wk_P nx (fun c => h c + (if c % 8 = b ∧ c / 8 < s then g (8 * (c / 8) + a) else 0)) → wX_send_2 post (nI a) (nI b) ec sc st f (nI s) M Ba Ea L Ka Va now nx := by
    intro f
    induction f with
    | zero => intro s nx _ h; omega
    | succ f ih =>
      intro s nx hs hf hI
      rcases Nat.lt_or_ge s 8 with z | z
      · have z3 := wk_ge8 z
        have i1 : vp_in (nI (8 * s + b)) 64 := vp_in_nI (by omega) (by omega)
        have i2 : vp_in (nI (8 * s + a)) 64 := vp_in_nI (by omega) (by omega)
        have c1 : (nI (8 * s + b)).toNatClampNeg = 8 * s + b := nI_clamp (by omega)
        have c2 : (nI (8 * s + a)).toNatClampNeg = 8 * s + a := nI_clamp (by omega)
        simp only [wX_send_2, z3, wk_ix, i1, i2, c1, c2, not_false_iff, true_implies, false_implies, true_and, forall_eq, nI_1]
        have q1 : (8 * s + b) % 8 = b := by omega
        have q2 : (8 * s + b) / 8 = s := by omega
        refine ih (s + 1) _ (by omega) (by omega) (wk_PU hI ?_ ?_)
        · rw [hI _ (by omega), hn _ (by omega), nI_add]
          refine congrArg nI ?_
          simp [q1, q2]
        · intro c hc hne
          have e : (c % 8 = b ∧ c / 8 < s) ↔ (c % 8 = b ∧ c / 8 < s + 1) := by omega
          simp only [e]
      · have z2 : s = 8 := by omega
        subst z2
        simp only [wX_send_2, wk_le8, not_true, true_implies, false_implies, and_true]
        refine k nx (wk_PC hI (fun c hc => ?_))
        have e : (c % 8 = b ∧ c / 8 < 8) ↔ c % 8 = b := by omega
        simp only [e]
  exact ⟨9, key 9 0 nx (by omega) (by omega) (wk_PC hx (fun c hc => by simp))⟩
theorem wx_fits {ec : Int32} {post : Int32 → Prop} {e : Nat} (he : e < 10) (h1 : wk_F L n e = true → post 1) (h0 : wk_F L n e = false → post 0) : wpX_fits post (ec, sc, st, M, Ba, Ea, L, Ka, Va, now, nx) (nI e) n := by
  unfold wpX_fits
  dsimp only
  rw [nI_clamp (by omega)]
  refine br_c (fun z => h1 (decide_eq_true (Or.inl z))) (fun z => ⟨vp_in_nI he (by omega), br_c (fun y => h1 (decide_eq_true (Or.inr y))) (fun y => h0 (decide_eq_false ?_))⟩)
  exact fun w => w.elim z y
theorem wk_Os (P Q : Nat → Nat) (F : Nat → Bool) (g : Nat → Nat) (c e : Nat) : wk_O P Q F g c (e + 1) = wk_O P Q F g c e + (if F e = true ∧ Q e = c % 8 then g (8 * (c / 8) + P e) else 0) := rfl
theorem wx_out (hm : m ≤ 10) (hB : ∀ e, B e < 8) (hE : ∀ e, E e < 8) (eB : ∀ e, Ba e = nI (B e)) (eE : ∀ e, Ea e = nI (E e)) (hn : wk_P now g) (hx : wk_P nx h)
    (k : ∀ nx', wk_P nx' (fun c => h c + wk_O B E (wk_F L n) g c m) → post (nI m, sc, st, M, Ba, Ea, L, Ka, Va, now, nx')) : wpX_sendOut post (nI m, sc, st, M, Ba, Ea, L, Ka, Va, now, nx) n := by
  have key : ∀ f e nx, e ≤ m → m - e < f → wk_P nx (fun c => h c + wk_O B E (wk_F L n) g c e) → wX_sendOut_2 post n f (nI e) (nI m) sc st M Ba Ea L Ka Va now nx := by
    intro f
    induction f with
    | zero => intro s nx _ h; omega
    | succ f ih =>
      intro e nx he hf hI
      rcases Nat.lt_or_ge e m with z | z
      · have z3 : ¬ nI m ≤ nI e := nI_ge z (by omega)
        have i1 : vp_in (nI e) 10 := vp_in_nI (by omega) (by omega)
        have c1 : (nI e).toNatClampNeg = e := nI_clamp (by omega)
        rw [wX_sendOut_2]
        refine br_f z3 (wx_fits (by omega) (fun hF => br_f (by decide) ⟨i1, i1, ?_⟩) (fun hF => br_t rfl (nm_r (nI_1 e) ?_)))
        · rw [c1, eB, eE]
          refine wx_send (hB e) (hE e) hn hI (fun nx' hI' => nm_r (nI_1 e) (ih (e + 1) nx' (by omega) (by omega) (wk_PC hI' (fun c hc => ?_))))
          rw [wk_Os]
          have e2 : (wk_F L n e = true ∧ E e = c % 8) ↔ c % 8 = E e := ⟨fun w => w.2.symm, fun w => ⟨hF, w.symm⟩⟩
          simp only [e2]
          omega
        · refine ih (e + 1) nx (by omega) (by omega) (wk_PC hI (fun c hc => ?_))
          rw [wk_Os, if_neg (fun w => by rw [hF] at w; exact nomatch w.1)]
          omega
      · have z2 : e = m := by omega
        subst z2
        rw [wX_sendOut_2]
        exact br_t (nI_le (Nat.le_refl _) (by omega)) (k nx hI)
  exact ⟨m + 1, key (m + 1) 0 nx (by omega) (by omega) (wk_PC hx (fun c hc => rfl))⟩
theorem wx_in (hm : m ≤ 10) (hB : ∀ e, B e < 8) (hE : ∀ e, E e < 8) (eB : ∀ e, Ba e = nI (B e)) (eE : ∀ e, Ea e = nI (E e)) (hn : wk_P now g) (hx : wk_P nx h)
    (k : ∀ nx', wk_P nx' (fun c => h c + wk_O E B (wk_F L n) g c m) → post (nI m, sc, st, M, Ba, Ea, L, Ka, Va, now, nx')) : wpX_sendIn post (nI m, sc, st, M, Ba, Ea, L, Ka, Va, now, nx) n := by
  have key : ∀ f e nx, e ≤ m → m - e < f → wk_P nx (fun c => h c + wk_O E B (wk_F L n) g c e) → wX_sendIn_2 post n f (nI e) (nI m) sc st M Ba Ea L Ka Va now nx := by
    intro f
    induction f with
    | zero => intro s nx _ h; omega
    | succ f ih =>
      intro e nx he hf hI
      rcases Nat.lt_or_ge e m with z | z
      · have z3 : ¬ nI m ≤ nI e := nI_ge z (by omega)
        have i1 : vp_in (nI e) 10 := vp_in_nI (by omega) (by omega)
        have c1 : (nI e).toNatClampNeg = e := nI_clamp (by omega)
        rw [wX_sendIn_2]
        refine br_f z3 (wx_fits (by omega) (fun hF => br_f (by decide) ⟨i1, i1, ?_⟩) (fun hF => br_t rfl (nm_r (nI_1 e) ?_)))
        · rw [c1, eB, eE]
          refine wx_send (hE e) (hB e) hn hI (fun nx' hI' => nm_r (nI_1 e) (ih (e + 1) nx' (by omega) (by omega) (wk_PC hI' (fun c hc => ?_))))
          rw [wk_Os]
          have e2 : (wk_F L n e = true ∧ B e = c % 8) ↔ c % 8 = B e := ⟨fun w => w.2.symm, fun w => ⟨hF, w.symm⟩⟩
          simp only [e2]
          omega
        · refine ih (e + 1) nx (by omega) (by omega) (wk_PC hI (fun c hc => ?_))
          rw [wk_Os, if_neg (fun w => by rw [hF] at w; exact nomatch w.1)]
          omega
      · have z2 : e = m := by omega
        subst z2
        rw [wX_sendIn_2]
        exact br_t (nI_le (Nat.le_refl _) (by omega)) (k nx hI)
  exact ⟨m + 1, key (m + 1) 0 nx (by omega) (by omega) (wk_PC hx (fun c hc => rfl))⟩
/-- at each vertex with C the walkers stay -/
def wk_kp (C : Nat → Bool) (g : Nat → Nat) (v c : Nat) : Nat := if c % 8 < v ∧ C (c % 8) = true then g c else 0
theorem wk_kpT {C : Nat → Bool} {g : Nat → Nat} {v c : Nat} (h : C v = true) : wk_kp C g v c + (if c % 8 = v then g (8 * (c / 8) + v) else 0) = wk_kp C g (v + 1) c := by
  unfold wk_kp
  by_cases z : c % 8 = v
  · have e : 8 * (c / 8) + v = c := by omega
    rw [if_neg (fun w => by omega), if_pos z, e, if_pos ⟨by omega, by rw [z]; exact h⟩, Nat.zero_add]
  · have e : (c % 8 < v ∧ C (c % 8) = true) ↔ (c % 8 < v + 1 ∧ C (c % 8) = true) := ⟨fun w => ⟨by omega, w.2⟩, fun w => ⟨by omega, w.2⟩⟩
    rw [if_neg z]
    simp only [e, Nat.add_zero]
theorem wk_kpF {C : Nat → Bool} {g : Nat → Nat} {v c : Nat} (h : C v = false) : wk_kp C g v c = wk_kp C g (v + 1) c := by
  unfold wk_kp
  have e : (c % 8 < v ∧ C (c % 8) = true) ↔ (c % 8 < v + 1 ∧ C (c % 8) = true) := ⟨fun w => ⟨by omega, w.2⟩, fun w => ⟨by
    have w1 := w.1
    by_cases z : c % 8 = v
    · have w2 := w.2; rw [z, h] at w2; exact nomatch w2
    · omega, w.2⟩⟩
  simp only [e]
theorem wk_kp0 {C : Nat → Bool} {g : Nat → Nat} {c : Nat} : wk_kp C g 0 c = 0 := if_neg (fun w => by omega)
theorem wk_kp8 {C : Nat → Bool} {g : Nat → Nat} {c : Nat} : wk_kp C g 8 c = if C (c % 8) = true then g c else 0 := by
  unfold wk_kp
  have e : (c % 8 < 8 ∧ C (c % 8) = true) ↔ C (c % 8) = true := ⟨fun w => w.2, fun w => ⟨by omega, w⟩⟩
  simp only [e]
theorem wx_stay (hm : m ≤ 10) (hB : ∀ e, B e < 8) (eB : ∀ e, Ba e = nI (B e)) (hn : wk_P now g) (hx : wk_P nx h)
    (k : ∀ nx', wk_P nx' (fun c => h c + (if wk_W B (wk_F L n) (c % 8) m = false then g c else 0)) → post (nI m, sc, st, M, Ba, Ea, L, Ka, Va, now, nx')) : wpX_keepWithoutWayOut post (nI m, sc, st, M, Ba, Ea, L, Ka, Va, now, nx) n := by
  have key2 : ∀ w : Int32, (∀ v, v < 8 → bt w v = wk_W B (wk_F L n) v m) → ∀ f v nx, v ≤ 8 → 8 - v < f → wk_P nx (fun c => h c + wk_kp (fun v => ! wk_W B (wk_F L n) v m) g v c) → wX_keepWithoutWayOut_40 post w f (nI v) (nI m) sc st M Ba Ea L Ka Va now nx := by
    intro w hw f
    induction f with
    | zero => intro s nx _ h; omega
    | succ f ih =>
      intro v nx hv hf hI
      rcases Nat.lt_or_ge v 8 with z | z
      · have z3 := wk_ge8 z
        rw [wX_keepWithoutWayOut_40]
        refine br_f z3 (br_c (fun y => ?_) (fun y => nm_r (nI_1 v) ?_))
        · rw [wk_btv w z, hw v z] at y
          refine wx_send z z hn hI (fun nx' hI' => nm_r (nI_1 v) (ih (v + 1) nx' (by omega) (by omega) (wk_PC hI' (fun c hc => ?_))))
          rw [← wk_kpT (v := v) (by rw [y]; rfl)]
          omega
        · rw [wk_btv w z, hw v z] at y
          refine ih (v + 1) nx (by omega) (by omega) (wk_PC hI (fun c hc => ?_))
          rw [← wk_kpF (v := v) (by cases hq : wk_W B (wk_F L n) v m; exact absurd hq y; rfl)]
      · have z2 : v = 8 := by omega
        subst z2
        rw [wX_keepWithoutWayOut_40]
        refine br_t wk_le8 (k nx (wk_PC hI (fun c hc => ?_)))
        rw [wk_kp8]
        cases wk_W B (wk_F L n) (c % 8) m <;> rfl
  have key : ∀ f e w, e ≤ m → m - e < f → (∀ v, v < 8 → bt w v = wk_W B (wk_F L n) v e) → wX_keepWithoutWayOut_4 post n (nI m) sc st M Ba Ea L Ka Va now nx f w (nI e) := by
    intro f
    induction f with
    | zero => intro s nx _ h; omega
    | succ f ih =>
      intro e w he hf hI
      rcases Nat.lt_or_ge e m with z | z
      · have z3 : ¬ nI m ≤ nI e := nI_ge z (by omega)
        have i1 : vp_in (nI e) 10 := vp_in_nI (by omega) (by omega)
        have c1 : (nI e).toNatClampNeg = e := nI_clamp (by omega)
        rw [wX_keepWithoutWayOut_4]
        refine br_f z3 (wx_fits (by omega) (fun hF => br_f (by decide) ⟨i1, ?_⟩) (fun hF => br_t rfl (nm_r (nI_1 e) ?_)))
        · rw [c1, eB]
          refine nm_e (nm_r (nI_1 e) (ih (e + 1) _ (by omega) (by omega) (fun v hv => ?_)))
          have hBe := hB e
          rw [wk_btO w (by omega) (by omega), hI v hv]
          show _ = (wk_W B (wk_F L n) v e || (wk_F L n e && decide (B e = v)))
          rw [hF, Bool.true_and]
          congr 1
          by_cases q : v = B e
          · rw [decide_eq_true q, decide_eq_true q.symm]
          · rw [decide_eq_false q, decide_eq_false (fun w => q w.symm)]
        · refine ih (e + 1) w (by omega) (by omega) (fun v hv => ?_)
          show _ = (wk_W B (wk_F L n) v e || (wk_F L n e && decide (B e = v)))
          rw [hI v hv, hF, Bool.false_and, Bool.or_false]
      · have z2 : e = m := by omega
        subst z2
        rw [wX_keepWithoutWayOut_4]
        exact br_t (nI_le (Nat.le_refl _) (by omega)) ⟨9, key2 w hI 9 0 nx (by omega) (by omega) (wk_PC hx (fun c hc => by rw [wk_kp0]; rfl))⟩
  exact ⟨m + 1, key (m + 1) 0 0 (by omega) (by omega) (fun v hv => b_0 v)⟩
theorem wx_number {ec : Int32} (hn : wk_P now g) (hx : wk_P nx h)
    (k : ∀ nx', wk_P nx' (fun c => h c + (if n ≤ M (c % 8) then g c else 0)) → post (ec, sc, st, M, Ba, Ea, L, Ka, Va, now, nx')) : wpX_keepWithNumber post (ec, sc, st, M, Ba, Ea, L, Ka, Va, now, nx) n := by
  have key2 : ∀ f v nx, v ≤ 8 → 8 - v < f → wk_P nx (fun c => h c + wk_kp (fun v => decide (n ≤ M v)) g v c) → wX_keepWithNumber_2 post n f (nI v) ec sc st M Ba Ea L Ka Va now nx := by
    intro f
    induction f with
    | zero => intro s nx _ h; omega
    | succ f ih =>
      intro v nx hv hf hI
      rcases Nat.lt_or_ge v 8 with z | z
      · have z3 := wk_ge8 z
        have i1 : vp_in (nI v) 8 := vp_in_nI z (by omega)
        have c1 : (nI v).toNatClampNeg = v := nI_clamp (by omega)
        rw [wX_keepWithNumber_2]
        dsimp only
        rw [c1]
        refine br_f z3 ⟨i1, br_c (fun y => nm_r (nI_1 v) ?_) (fun y => ?_)⟩
        · refine ih (v + 1) nx (by omega) (by omega) (wk_PC hI (fun c hc => ?_))
          rw [← wk_kpF (v := v) (decide_eq_false (Int32.not_le.mpr y))]
        · refine wx_send z z hn hI (fun nx' hI' => nm_r (nI_1 v) (ih (v + 1) nx' (by omega) (by omega) (wk_PC hI' (fun c hc => ?_))))
          rw [← wk_kpT (v := v) (decide_eq_true (Int32.not_lt.mp y))]
          omega
      · have z2 : v = 8 := by omega
        subst z2
        rw [wX_keepWithNumber_2]
        refine br_t wk_le8 (k nx (wk_PC hI (fun c hc => ?_)))
        rw [wk_kp8]
        simp only [decide_eq_true_eq]
  exact ⟨9, key2 9 0 nx (by omega) (by omega) (wk_PC hx (fun c hc => by rw [wk_kp0]; rfl))⟩
theorem wx_home {ec : Int32} (hn : wk_P now g) (hx : wk_P nx (fun _ => 0))
    (k : ∀ nx', wk_P nx' (fun c => if c / 8 = c % 8 then g c else 0) → post (ec, sc, st, M, Ba, Ea, L, Ka, Va, now, nx')) : wpX_keepHome post (ec, sc, st, M, Ba, Ea, L, Ka, Va, now, nx) := by
  have key : ∀ f s nx, s ≤ 8 → 8 - s < f → wk_P nx (fun c => if c / 8 = c % 8 ∧ c % 8 < s then g c else 0) → wX_keepHome_2 post ec sc st f (nI s) M Ba Ea L Ka Va now nx := by
    intro f
    induction f with
    | zero => intro s nx _ h; omega
    | succ f ih =>
      intro s nx hs hf hI
      rcases Nat.lt_or_ge s 8 with z | z
      · have z3 := wk_ge8 z
        have i1 : vp_in (nI (8 * s + s)) 64 := vp_in_nI (by omega) (by omega)
        have c1 : (nI (8 * s + s)).toNatClampNeg = 8 * s + s := nI_clamp (by omega)
        simp only [wX_keepHome_2, z3, wk_ix, i1, c1, not_false_iff, true_implies, false_implies, true_and, forall_eq, nI_1]
        refine ih (s + 1) _ (by omega) (by omega) (wk_PU hI ?_ ?_)
        · rw [hn _ (by omega)]
          refine congrArg nI ?_
          rw [if_pos (by omega)]
        · intro c hc hne
          have e : (c / 8 = c % 8 ∧ c % 8 < s) ↔ (c / 8 = c % 8 ∧ c % 8 < s + 1) := by omega
          simp only [e]
      · have z2 : s = 8 := by omega
        subst z2
        simp only [wX_keepHome_2, wk_le8, not_true, true_implies, false_implies, and_true]
        refine k nx (wk_PC hI (fun c hc => ?_))
        have e : (c / 8 = c % 8 ∧ c % 8 < 8) ↔ c / 8 = c % 8 := by omega
        simp only [e]
  exact ⟨9, key 9 0 nx (by omega) (by omega) (wk_PC hx (fun c hc => by simp))⟩
theorem wx_away {ec : Int32} (hn : wk_P now g) (hx : wk_P nx (fun _ => 0))
    (k : ∀ nx', wk_P nx' (fun c => if c / 8 = c % 8 then 0 else g c) → post (ec, sc, st, M, Ba, Ea, L, Ka, Va, now, nx')) : wpX_keepAway post (ec, sc, st, M, Ba, Ea, L, Ka, Va, now, nx) := by
  have key2 : ∀ (s : Nat) (J : Int32 → (Nat → Int32) → (Nat → Int32) → (Nat → Int32) → (Nat → Int32) → (Nat → Int32) → (Nat → Int32) → (Nat → Int32) → (Nat → Int32) → Prop), s < 8 → (∀ nx, wk_P nx (fun c => if c / 8 ≠ c % 8 ∧ c < 8 * (s + 1) then g c else 0) → J (nI (s + 1)) M Ba Ea L Ka Va now nx) →
      ∀ f v nx, v ≤ 8 → 8 - v < f → wk_P nx (fun c => if c / 8 ≠ c % 8 ∧ c < 8 * s + v then g c else 0) → wX_keepAway_10 post J (nI s) ec sc st f (nI v) M Ba Ea L Ka Va now nx := by
    intro s J hs hJ f
    induction f with
    | zero => intro s nx _ h; omega
    | succ f ih =>
      intro v nx hv hf hI
      rcases Nat.lt_or_ge v 8 with z | z
      · have z3 := wk_ge8 z
        have i1 : vp_in (nI (8 * s + v)) 64 := vp_in_nI (by omega) (by omega)
        have c1 : (nI (8 * s + v)).toNatClampNeg = 8 * s + v := nI_clamp (by omega)
        by_cases y : s = v
        · have y2 : nI s = nI v := by rw [y]
          simp only [wX_keepAway_10, z3, y2, not_false_iff, not_true, true_implies, false_implies, true_and, and_true, forall_eq, nI_1]
          rw [← y2]
          refine ih (v + 1) _ (by omega) (by omega) (wk_PC hI (fun c hc => ?_))
          have e : (c / 8 ≠ c % 8 ∧ c < 8 * s + v) ↔ (c / 8 ≠ c % 8 ∧ c < 8 * s + (v + 1)) := by omega
          simp only [e]
        · have y2 : ¬ nI s = nI v := fun w => y ((nI_eq (by omega) (by omega)).mp w)
          simp only [wX_keepAway_10, z3, y2, wk_ix, i1, c1, not_false_iff, true_implies, false_implies, true_and, forall_eq, nI_1]
          refine ih (v + 1) _ (by omega) (by omega) (wk_PU hI ?_ ?_)
          · rw [hn _ (by omega)]
            refine congrArg nI ?_
            rw [if_pos (by omega)]
          · intro c hc hne
            have e : (c / 8 ≠ c % 8 ∧ c < 8 * s + v) ↔ (c / 8 ≠ c % 8 ∧ c < 8 * s + (v + 1)) := by omega
            simp only [e]
      · have z2 : v = 8 := by omega
        subst z2
        simp only [wX_keepAway_10, wk_le8, not_true, true_implies, false_implies, and_true, forall_eq, nI_1]
        refine hJ nx (wk_PC hI (fun c hc => ?_))
        have e : (c / 8 ≠ c % 8 ∧ c < 8 * s + 8) ↔ (c / 8 ≠ c % 8 ∧ c < 8 * (s + 1)) := by omega
        simp only [e]
  have key : ∀ f s nx, s ≤ 8 → 8 - s < f → wk_P nx (fun c => if c / 8 ≠ c % 8 ∧ c < 8 * s then g c else 0) → wX_keepAway_2 post ec sc st f (nI s) M Ba Ea L Ka Va now nx := by
    intro f
    induction f with
    | zero => intro s nx _ h; omega
    | succ f ih =>
      intro s nx hs hf hI
      rcases Nat.lt_or_ge s 8 with z | z
      · rw [wX_keepAway_2]
        exact br_f (wk_ge8 z) ⟨9, key2 s _ z (fun nx h => ih (s + 1) nx (by omega) (by omega) h) 9 0 nx (by omega) (by omega) hI⟩
      · have z2 : s = 8 := by omega
        subst z2
        rw [wX_keepAway_2]
        refine br_t wk_le8 (k nx (wk_PC hI (fun c hc => ?_)))
        by_cases y : c / 8 = c % 8
        · rw [if_neg (fun w => w.1 y), if_pos y]
        · rw [if_pos ⟨y, by omega⟩, if_neg y]
  exact ⟨9, key 9 0 nx (by omega) (by omega) (wk_PC hx (fun c hc => by simp))⟩
/-- one at each vertex: cell c -/
def wk_one (g : Nat → Nat) (c : Nat) : Nat := if 0 < g c ∧ wk_L g (c % 8) (c / 8) = false then 1 else 0
theorem wx_one {ec : Int32} (hg : ∀ c, c < 64 → g c < 2 ^ 31) (hn : wk_P now g) (hx : wk_P nx (fun _ => 0))
    (k : ∀ nx', wk_P nx' (wk_one g) → post (ec, sc, st, M, Ba, Ea, L, Ka, Va, now, nx')) : wpX_keepOneAtEachVertex post (ec, sc, st, M, Ba, Ea, L, Ka, Va, now, nx) := by
  have key2 : ∀ (v : Nat) (nx : Nat → Int32) (J : Int32 → (Nat → Int32) → (Nat → Int32) → (Nat → Int32) → (Nat → Int32) → (Nat → Int32) → (Nat → Int32) → (Nat → Int32) → (Nat → Int32) → Prop), v < 8 → wk_P nx (fun c => if c % 8 < v then wk_one g c else 0) → (∀ nx, wk_P nx (fun c => if c % 8 < v + 1 then wk_one g c else 0) → J (nI (v + 1)) M Ba Ea L Ka Va now nx) →
      ∀ f s, s ≤ 8 → 8 - s < f → wk_L g v s = false → wX_keepOneAtEachVertex_10 post J (nI v) ec sc st M Ba Ea L Ka Va now nx f (nI s) := by
    intro v nx J hv hI hJ f
    induction f with
    | zero => intro s _ h; omega
    | succ f ih =>
      intro s hs hf hL
      rcases Nat.lt_or_ge s 8 with z | z
      · have z3 := wk_ge8 z
        have i1 : vp_in (nI (8 * s + v)) 64 := vp_in_nI (by omega) (by omega)
        have c1 : (nI (8 * s + v)).toNatClampNeg = 8 * s + v := nI_clamp (by omega)
        have c2 := hn (8 * s + v) (by omega)
        have q1 : (8 * s + v) % 8 = v := by omega
        have q2 : (8 * s + v) / 8 = s := by omega
        by_cases y : 0 < g (8 * s + v)
        · have y2 : ¬ nI (g (8 * s + v)) ≤ 0 := fun w => by rw [wk_le0 (hg _ (by omega))] at w; omega
          simp only [wX_keepOneAtEachVertex_10, z3, wk_ix, i1, c1, c2, y2, not_false_iff, true_implies, false_implies, true_and, forall_eq, nI_1]
          refine hJ _ (wk_PU hI ?_ ?_)
          · show (1 : Int32) = nI _
            rw [q1, if_pos (by omega)]
            unfold wk_one
            rw [q1, q2, if_pos ⟨y, hL⟩]
            rfl
          · intro c hc hne
            by_cases w : c % 8 = v
            · rw [if_neg (by omega), if_pos (by omega)]
              unfold wk_one
              rw [w]
              refine (if_neg (fun w2 => ?_)).symm
              rcases Nat.lt_or_ge (c / 8) s with w3 | w3
              · have := wk_LI (g := g) (v := v) (r := c / 8) s w3 (by rw [show 8 * (c / 8) + v = c by omega]; exact w2.1)
                rw [hL] at this; exact nomatch this
              · have := wk_LI (g := g) (v := v) (r := s) (c / 8) (by omega) y
                rw [w2.2] at this; exact nomatch this
            · have e : c % 8 < v ↔ c % 8 < v + 1 := by omega
              simp only [e]
        · have y2 : nI (g (8 * s + v)) ≤ 0 := by rw [wk_le0 (hg _ (by omega))]; omega
          simp only [wX_keepOneAtEachVertex_10, z3, wk_ix, i1, c1, c2, y2, not_false_iff, not_true, true_implies, false_implies, true_and, and_true, forall_eq, nI_1]
          refine ih (s + 1) (by omega) (by omega) ?_
          show (wk_L g v s || decide (0 < g (8 * s + v))) = false
          rw [hL, decide_eq_false y]; rfl
      · have z2 : s = 8 := by omega
        subst z2
        simp only [wX_keepOneAtEachVertex_10, wk_le8, not_true, true_implies, false_implies, and_true, forall_eq, nI_1]
        refine hJ nx (wk_PC hI (fun c hc => ?_))
        by_cases w : c % 8 = v
        · rw [if_neg (by omega), if_pos (by omega)]
          unfold wk_one
          refine (if_neg (fun w2 => ?_)).symm
          have := wk_LI (g := g) (v := v) (r := c / 8) 8 (by omega) (by rw [show 8 * (c / 8) + v = c by omega]; exact w2.1)
          rw [hL] at this; exact nomatch this
        · have e : c % 8 < v ↔ c % 8 < v + 1 := by omega
          simp only [e]
  have key : ∀ f v nx, v ≤ 8 → 8 - v < f → wk_P nx (fun c => if c % 8 < v then wk_one g c else 0) → wX_keepOneAtEachVertex_2 post ec sc st f (nI v) M Ba Ea L Ka Va now nx := by
    intro f
    induction f with
    | zero => intro s nx _ h; omega
    | succ f ih =>
      intro v nx hv hf hI
      rcases Nat.lt_or_ge v 8 with z | z
      · rw [wX_keepOneAtEachVertex_2]
        exact br_f (wk_ge8 z) ⟨9, key2 v nx _ z hI (fun nx h => ih (v + 1) nx (by omega) (by omega) h) 9 0 (by omega) (by omega) rfl⟩
      · have z2 : v = 8 := by omega
        subst z2
        rw [wX_keepOneAtEachVertex_2]
        refine br_t wk_le8 (k nx (wk_PC hI (fun c hc => ?_)))
        rw [if_pos (by omega)]
  exact ⟨9, key 9 0 nx (by omega) (by omega) (wk_PC hx (fun c hc => by simp))⟩
end WKX

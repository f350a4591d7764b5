section WKY
variable {sc st n : Int32} {M Ba Ea L Ka Va Vb now nx : Nat → Int32} {B E Kn : Nat → Nat} {m : Nat} {g h : Nat → Nat}
theorem wk_dv {c : Nat} (h : c < 64) : nI c / 8 = nI (c / 8) := pk_div (d := 8) (by omega) (by decide) (by decide)
theorem wk_rm {c : Nat} (h : c < 64) : nI c - nI c / 8 * 8 = nI (c % 8) := pk_rem (d := 8) (by omega) (by decide) (by decide)
theorem wk_n8 : ¬ (8 : Int32) = 0 := by decide
/-- what one edge brings from cell 8 s + v to cell x -/
theorem wk_dE {F : Nat → Bool} {o i : Bool} {s v x e : Nat} (hs : s < 8) (hv : v < 8) (hx : x < 64) (hB : ∀ e, B e < 8) (hE : ∀ e, E e < 8) : wk_d B E F o i g (8 * s + v) x e = (if (F e = true ∧ o = true ∧ B e = v) ∧ x = 8 * s + E e then g (8 * s + v) else 0) + (if (F e = true ∧ i = true ∧ E e = v) ∧ x = 8 * s + B e then g (8 * s + v) else 0) := by
  have h1 := hB e
  have h2 := hE e
  have e1 : (F e = true ∧ o = true ∧ E e = x % 8 ∧ 8 * (x / 8) + B e = 8 * s + v) ↔ ((F e = true ∧ o = true ∧ B e = v) ∧ x = 8 * s + E e) := ⟨fun w => ⟨⟨w.1, w.2.1, by omega⟩, by omega⟩, fun w => ⟨w.1.1, w.1.2.1, by omega, by omega⟩⟩
  have e2 : (F e = true ∧ i = true ∧ B e = x % 8 ∧ 8 * (x / 8) + E e = 8 * s + v) ↔ ((F e = true ∧ i = true ∧ E e = v) ∧ x = 8 * s + B e) := ⟨fun w => ⟨⟨w.1, w.2.1, by omega⟩, by omega⟩, fun w => ⟨w.1.1, w.1.2.1, by omega, by omega⟩⟩
  unfold wk_d
  simp only [e1, e2]
def wk_i (b : Bool) : Int32 := if b = true then 1 else 0
theorem wk_iT {b : Bool} (h : b = true) : ¬ wk_i b = 0 := by rw [h]; decide
theorem wk_iF {b : Bool} (h : b = false) : wk_i b = 0 := by rw [h]; rfl
theorem wy_93 {post : Int32 → SY → Prop} {J : Int32 → Int32 → (Nat → Int32) → (Nat → Int32) → (Nat → Int32) → (Nat → Int32) → (Nat → Int32) → (Nat → Int32) → (Nat → Int32) → (Nat → Int32) → Prop} {s v e N : Nat} {l : Int32} {fb o i : Bool} (hs : s < 8) (hv : v < 8) (he : e < 10) (hB : ∀ e, B e < 8) (hE : ∀ e, E e < 8) (eB : ∀ e, Ba e = nI (B e)) (eE : ∀ e, Ea e = nI (E e)) (hn : wk_P now g) (hx : wk_P nx h)
    (k : ∀ nx', wk_P nx' (fun x => h x + (if (fb = true ∧ i = true ∧ E e = v) ∧ x = 8 * s + B e then g (8 * s + v) else 0)) → J (nI (N + (if fb = true ∧ i = true ∧ E e = v then 1 else 0))) (nI (e + 1)) M Ba Ea L Ka Vb now nx') :
    wY_send_93 post J (nI s) (nI v) l (wk_i o) (wk_i i) (nI N) (nI e) (wk_i fb) (nI m) sc st M Ba Ea L Ka Vb now nx := by
  have i1 : vp_in (nI e) 10 := vp_in_nI (by omega) (by omega)
  have c1 : (nI e).toNatClampNeg = e := nI_clamp (by omega)
  have hb := hB e
  have c2 : (nI (8 * s + B e)).toNatClampNeg = 8 * s + B e := nI_clamp (by omega)
  have c3 : (nI (8 * s + v)).toNatClampNeg = 8 * s + v := nI_clamp (by omega)
  have j1 : vp_in (nI (8 * s + B e)) 64 := vp_in_nI (by omega) (by omega)
  have j2 : vp_in (nI (8 * s + v)) 64 := vp_in_nI (by omega) (by omega)
  unfold wY_send_93
  rw [c1, eB, eE, wk_iy, wk_iy, c2, c3]
  by_cases q : fb = true ∧ i = true ∧ E e = v
  · rw [if_pos q] at k
    refine br_f (wk_iT q.1) (br_f (wk_iT q.2.1) ⟨i1, br_t (by rw [q.2.2]) ⟨i1, j1, j2, j1, nm_e (nm_r (nI_1 N) (nm_r (nI_1 e) (k _ (wk_PU hx ?_ ?_))))⟩⟩)
    · rw [hx _ (by omega), hn _ (by omega), nI_add, if_pos ⟨q, rfl⟩]
    · intro c hc hne
      rw [if_neg (fun w => hne w.2), Nat.add_zero]
  · rw [if_neg q, Nat.add_zero] at k
    have K := k nx (wk_PC hx (fun c hc => by rw [if_neg (fun w => q w.1), Nat.add_zero]))
    refine br_c (fun _ => nm_r (nI_1 e) K) (fun z1 => br_c (fun _ => nm_r (nI_1 e) K) (fun z2 => ⟨i1, br_f (fun w => q ?_) (nm_r (nI_1 e) K)⟩))
    have h2 := hE e
    refine ⟨?_, ?_, (nI_eq (by omega) (by omega)).mp w⟩
    · cases hq : fb
      · exact absurd (wk_iF hq) z1
      · rfl
    · cases hq : i
      · exact absurd (wk_iF hq) z2
      · rfl
theorem wy_36 {post : Int32 → SY → Prop} {J : Int32 → Int32 → (Nat → Int32) → (Nat → Int32) → (Nat → Int32) → (Nat → Int32) → (Nat → Int32) → (Nat → Int32) → (Nat → Int32) → (Nat → Int32) → Prop} {s v e N : Nat} {l : Int32} {fb o i : Bool} (hs : s < 8) (hv : v < 8) (he : e < 10) (hB : ∀ e, B e < 8) (hE : ∀ e, E e < 8) (eB : ∀ e, Ba e = nI (B e)) (eE : ∀ e, Ea e = nI (E e)) (hn : wk_P now g) (hx : wk_P nx h)
    (k : ∀ nx', wk_P nx' (fun x => h x + (if (fb = true ∧ o = true ∧ B e = v) ∧ x = 8 * s + E e then g (8 * s + v) else 0)) → wY_send_93 post J (nI s) (nI v) l (wk_i o) (wk_i i) (nI (N + (if fb = true ∧ o = true ∧ B e = v then 1 else 0))) (nI e) (wk_i fb) (nI m) sc st M Ba Ea L Ka Vb now nx') :
    wY_send_36 post J (nI s) (nI v) l (wk_i o) (wk_i i) (nI N) (nI e) (wk_i fb) (nI m) sc st M Ba Ea L Ka Vb now nx := by
  have i1 : vp_in (nI e) 10 := vp_in_nI (by omega) (by omega)
  have c1 : (nI e).toNatClampNeg = e := nI_clamp (by omega)
  have hb := hE e
  have c2 : (nI (8 * s + E e)).toNatClampNeg = 8 * s + E e := nI_clamp (by omega)
  have c3 : (nI (8 * s + v)).toNatClampNeg = 8 * s + v := nI_clamp (by omega)
  have j1 : vp_in (nI (8 * s + E e)) 64 := vp_in_nI (by omega) (by omega)
  have j2 : vp_in (nI (8 * s + v)) 64 := vp_in_nI (by omega) (by omega)
  unfold wY_send_36
  rw [c1, eB, eE, wk_iy, wk_iy, c2, c3]
  by_cases q : fb = true ∧ o = true ∧ B e = v
  · rw [if_pos q] at k
    refine br_f (wk_iT q.1) (br_f (wk_iT q.2.1) ⟨i1, br_t (by rw [q.2.2]) ⟨i1, j1, j2, j1, nm_e (nm_r (nI_1 N) (k _ (wk_PU hx ?_ ?_)))⟩⟩)
    · rw [hx _ (by omega), hn _ (by omega), nI_add, if_pos ⟨q, rfl⟩]
    · intro c hc hne
      rw [if_neg (fun w => hne w.2), Nat.add_zero]
  · rw [if_neg q, Nat.add_zero] at k
    have K := k nx (wk_PC hx (fun c hc => by rw [if_neg (fun w => q w.1), Nat.add_zero]))
    refine br_c (fun _ => K) (fun z1 => br_c (fun _ => K) (fun z2 => ⟨i1, br_f (fun w => q ?_) K⟩))
    have h2 := hB e
    refine ⟨?_, ?_, (nI_eq (by omega) (by omega)).mp w⟩
    · cases hq : fb
      · exact absurd (wk_iF hq) z1
      · rfl
    · cases hq : o
      · exact absurd (wk_iF hq) z2
      · rfl
theorem wy_send {post : Int32 → SY → Prop} {s v : Nat} {o i : Bool} (hs : s < 8) (hv : v < 8) (hm : m ≤ 10) (hB : ∀ e, B e < 8) (hE : ∀ e, E e < 8) (eB : ∀ e, Ba e = nI (B e)) (eE : ∀ e, Ea e = nI (E e)) (hn : wk_P now g) (hx : wk_P nx h)
    (k : ∀ nx', wk_P nx' (fun x => h x + wk_sm (wk_d B E (wk_F L n) o i g (8 * s + v) x) m) → post (nI (wk_N B E (wk_F L n) o i v m)) (nI m, sc, st, M, Ba, Ea, L, Ka, Vb, now, nx')) : wpY_send post (nI m, sc, st, M, Ba, Ea, L, Ka, Vb, now, nx) (nI s) (nI v) n (wk_i o) (wk_i i) := by
  have key : ∀ f e nx, e ≤ m → m - e < f → wk_P nx (fun x => h x + wk_sm (wk_d B E (wk_F L n) o i g (8 * s + v) x) e) → wY_send_6 post (nI s) (nI v) n (wk_i o) (wk_i i) (nI m) sc st f (nI (wk_N B E (wk_F L n) o i v e)) (nI e) M Ba Ea L Ka Vb now nx := by
    intro f
    induction f with
    | zero => intro s nx _ h; omega
    | succ f ih =>
      intro e nx he hf hI
      rcases Nat.lt_or_ge e m with z | z
      · have i1 : vp_in (nI e) 10 := vp_in_nI (by omega) (by omega)
        have c1 : (nI e).toNatClampNeg = e := nI_clamp (by omega)
        have main : wY_send_36 post (wY_send_6 post (nI s) (nI v) n (wk_i o) (wk_i i) (nI m) sc st f) (nI s) (nI v) n (wk_i o) (wk_i i) (nI (wk_N B E (wk_F L n) o i v e)) (nI e) (wk_i (wk_F L n e)) (nI m) sc st M Ba Ea L Ka Vb now nx := by
          refine wy_36 hs hv (by omega) hB hE eB eE hn hI (fun nx1 h1 => wy_93 hs hv (by omega) hB hE eB eE hn h1 (fun nx2 h2 => ?_))
          refine ih (e + 1) nx2 (by omega) (by omega) (wk_PC h2 (fun x hx => ?_))
          show _ = h x + (wk_sm (wk_d B E (wk_F L n) o i g (8 * s + v) x) e + wk_d B E (wk_F L n) o i g (8 * s + v) x e)
          rw [wk_dE hs hv hx hB hE]
          omega
        rw [wY_send_6]
        dsimp only
        rw [c1]
        refine br_f (nI_ge z (by omega)) (br_c (fun y => ?_) (fun y => ⟨i1, br_c (fun w => ?_) (fun w => ?_)⟩))
        · have hF : wk_F L n e = true := decide_eq_true (Or.inl y)
          rw [hF] at main
          exact main
        · have hF : wk_F L n e = true := decide_eq_true (Or.inr w)
          rw [hF] at main
          exact main
        · have hF : wk_F L n e = false := decide_eq_false (fun q => q.elim y w)
          rw [hF] at main
          exact main
      · have z2 : e = m := by omega
        subst z2
        rw [wY_send_6]
        exact br_t (nI_le (Nat.le_refl _) (by omega)) (k nx hI)
  exact ⟨m + 1, key (m + 1) 0 nx (by omega) (by omega) (wk_PC hx (fun c hc => rfl))⟩
theorem wy_lesser {post : Int32 → Prop} {ec : Int32} {s v : Nat} (hs : s < 8) (hv : v < 8) (hg : ∀ c, c < 64 → g c < 2 ^ 31) (hn : wk_P now g) (k : post (wk_i (wk_L g v s))) : wpY_lesser post (ec, sc, st, M, Ba, Ea, L, Ka, Vb, now, nx) (nI s) (nI v) := by
  have key : ∀ f r, r ≤ s → s - r < f → wY_lesser_5 post (nI s) (nI v) ec sc st M Ba Ea L Ka Vb now nx f (wk_i (wk_L g v r)) (nI r) := by
    intro f
    induction f with
    | zero => intro r _ h; omega
    | succ f ih =>
      intro r hr hf
      rcases Nat.lt_or_ge r s with z | z
      · have i1 : vp_in (nI (8 * r + v)) 64 := vp_in_nI (by omega) (by omega)
        have c1 : (nI (8 * r + v)).toNatClampNeg = 8 * r + v := nI_clamp (by omega)
        have c2 := hn (8 * r + v) (by omega)
        have c3 := wk_le0 (hg (8 * r + v) (by omega))
        have I := ih (r + 1) (by omega) (by omega)
        have e : wk_L g v (r + 1) = (wk_L g v r || decide (0 < g (8 * r + v))) := rfl
        rw [e] at I
        rw [wY_lesser_5]
        dsimp only
        rw [wk_iy, c1, c2]
        refine br_f (nI_ge z (by omega)) ?_
        cases hL : wk_L g v r
        · rw [hL] at I
          refine br_t rfl ⟨i1, br_c (fun y => nm_r (nI_1 r) ?_) (fun y => nm_r (nI_1 r) ?_)⟩
          · rw [c3] at y
            rw [decide_eq_false (by omega)] at I
            exact I
          · rw [c3] at y
            rw [decide_eq_true (by omega)] at I
            exact I
        · rw [hL, Bool.true_or] at I
          exact br_f (by decide) (nm_r (nI_1 r) I)
      · have z2 : r = s := by omega
        subst z2
        rw [wY_lesser_5]
        refine br_t (nI_le (Nat.le_refl _) (by omega)) ⟨?_, k⟩
        cases wk_L g v r <;> rfl
  exact ⟨s + 1, key (s + 1) 0 (by omega) (by omega)⟩
/-- the reference's picture when the cells below c are done -/
def wk_V (B E : Nat → Nat) (L M : Nat → Int32) (m k : Nat) (n : Int32) (g : Nat → Nat) (c x : Nat) : Nat :=
  if k ≤ 3 then wk_T B E (wk_F L n) (decide (k ≠ 1)) (decide (k = 1 ∨ k = 2)) (decide (k = 3)) m g c x
  else if x < c then wk_st B E L M m k n g x else 0
theorem wk_V0 {k : Nat} (x : Nat) : wk_V B E L M m k n g 0 x = 0 := by
  unfold wk_V
  split
  · exact wk_T0 _ _ _ _ _ _ _ _ _
  · exact if_neg (by omega)
theorem wk_st0 {k c : Nat} (hk : ¬ k ≤ 3) (h : g c = 0) : wk_st B E L M m k n g c = 0 := by
  have h0 : ¬ k = 0 := by omega
  have h1 : ¬ k = 1 := by omega
  have h2 : ¬ k = 2 := by omega
  have h3 : ¬ k = 3 := by omega
  unfold wk_st
  simp [h0, h1, h2, h3, h]
theorem wk_VZ {k c : Nat} (h : g c = 0) (x : Nat) : wk_V B E L M m k n g (c + 1) x = wk_V B E L M m k n g c x := by
  unfold wk_V
  split
  · exact wk_TZ h x
  · rename_i hk
    by_cases z : x = c
    · subst z
      rw [if_pos (by omega), if_neg (by omega)]
      exact wk_st0 hk h
    · have e : x < c + 1 ↔ x < c := by omega
      simp only [e]
theorem wk_Ve {k : Nat} (hk : k < 8) (hB : ∀ e, B e < 8) (hE : ∀ e, E e < 8) {x : Nat} (hx : x < 64) : wk_V B E L M m k n g 64 x = wk_st B E L M m k n g x := by
  unfold wk_V
  split
  · rename_i h3
    rw [wk_Te hB hE hx]
    obtain rfl | rfl | rfl | rfl : k = 0 ∨ k = 1 ∨ k = 2 ∨ k = 3 := by omega
    · simp [wk_st]
    · simp [wk_st]
    · simp [wk_st]
    · simp [wk_st]
  · first | rfl | exact if_pos hx
theorem wy_step {post : SY → Prop} {k s v : Nat} (hk : k < 8) (hs : s < 8) (hv : v < 8) (hm : m ≤ 10) (hB : ∀ e, B e < 8) (hE : ∀ e, E e < 8) (eB : ∀ e, Ba e = nI (B e)) (eE : ∀ e, Ea e = nI (E e)) (hg : ∀ c, c < 64 → g c < 2 ^ 31) (hp : 0 < g (8 * s + v)) (hn : wk_P now g) (hx : wk_P nx (wk_V B E L M m k n g (8 * s + v)))
    (K : ∀ nx', wk_P nx' (wk_V B E L M m k n g (8 * s + v + 1)) → post (nI m, sc, st, M, Ba, Ea, L, Ka, Vb, now, nx')) : wpY_step post (nI m, sc, st, M, Ba, Ea, L, Ka, Vb, now, nx) (nI k) n (nI s) (nI v) := by
  have i5 : vp_in (nI (8 * s + v)) 64 := vp_in_nI (by omega) (by omega)
  have c5 : (nI (8 * s + v)).toNatClampNeg = 8 * s + v := nI_clamp (by omega)
  have q1 : (8 * s + v) % 8 = v := by omega
  have q2 : (8 * s + v) / 8 = s := by omega
  have lo : ∀ (o i : Bool), k ≤ 3 → decide (k ≠ 1) = o → decide (k = 1 ∨ k = 2) = i → wY_step_44 post (nI k) (nI (8 * s + v)) (wk_i i) (wk_i o) n (nI v) (nI s) (nI m) sc st M Ba Ea L Ka Vb now nx := by
    intro o i h3 ho hi
    have hV : ∀ c x, wk_V B E L M m k n g c x = wk_T B E (wk_F L n) o i (decide (k = 3)) m g c x := fun c x => by
      unfold wk_V; rw [if_pos h3, ho, hi]
    unfold wY_step_44
    refine wy_send hs hv hm hB hE eB eE hn hx (fun nx' h' => ?_)
    dsimp only
    rw [c5]
    have hN : wk_N B E (wk_F L n) o i v m < 2 ^ 31 := by have := wk_NB B E (wk_F L n) o i v m; omega
    by_cases e3 : k = 3
    · subst e3
      have ho' : o = true := by rw [← ho]; rfl
      have hi' : i = false := by rw [← hi]; rfl
      subst ho' hi'
      refine br_t (by decide) (br_c (fun y => ⟨i5, i5, i5, nm_e (K _ (wk_PU h' ?_ ?_))⟩) (fun y => K _ (wk_PC h' (fun x hx => ?_))))
      · rw [wk_eq0 hN, wk_NW] at y
        rw [h' _ (by omega), hn _ (by omega), nI_add]
        refine congrArg nI ?_
        dsimp only
        rw [hV, hV, wk_TS, q1, if_pos ⟨rfl, rfl, y⟩]
      · rw [wk_eq0 hN, wk_NW] at y
        intro c hc hne
        rw [hV, hV, wk_TS, if_neg (fun w => hne w.2.1), Nat.add_zero]
      · rw [wk_eq0 hN, wk_NW] at y
        rw [hV, hV, wk_TS, if_neg, Nat.add_zero]
        intro w
        have w2 := w.2.2
        rw [w.2.1, q1] at w2
        exact y w2
    · refine br_f (fun w => e3 ((nI_eq (b := 3) (by omega) (by decide)).mp w)) (K _ (wk_PC h' (fun x hx => ?_)))
      rw [hV, hV, wk_TS, if_neg (fun w => e3 (of_decide_eq_true w.1)), Nat.add_zero]
  have hV4 : ∀ c x, ¬ k ≤ 3 → wk_V B E L M m k n g c x = if x < c then wk_st B E L M m k n g x else 0 := fun c x h3 => by
    unfold wk_V; rw [if_neg h3]
  have put : ∀ y : Int32, ¬ k ≤ 3 → y = nI (wk_st B E L M m k n g (8 * s + v)) → post (nI m, sc, st, M, Ba, Ea, L, Ka, Vb, now, (upd nx (8 * s + v) y)) := fun y h3 e => K _ (wk_PU hx (by
      rw [e, hV4 _ _ h3, if_pos (by omega)]) (fun c hc hne => by
      rw [hV4 _ _ h3, hV4 _ _ h3]
      have e : c < 8 * s + v ↔ c < 8 * s + v + 1 := by omega
      simp only [e]))
  have leave : ¬ k ≤ 3 → wk_st B E L M m k n g (8 * s + v) = 0 → post (nI m, sc, st, M, Ba, Ea, L, Ka, Vb, now, nx) := fun h3 e => K _ (wk_PC hx (fun c hc => by
      rw [hV4 _ _ h3, hV4 _ _ h3]
      by_cases z : c = 8 * s + v
      · subst z
        rw [if_neg (by omega), if_pos (by omega), e]
      · have e : c < 8 * s + v ↔ c < 8 * s + v + 1 := by omega
        simp only [e]))
  unfold wpY_step
  dsimp only
  refine nm_r (wk_iy s v) ?_
  obtain rfl | rfl | rfl | rfl | rfl | rfl | rfl | rfl : k = 0 ∨ k = 1 ∨ k = 2 ∨ k = 3 ∨ k = 4 ∨ k = 5 ∨ k = 6 ∨ k = 7 := by omega
  · exact br_f (by decide) (br_f (by decide) (br_f (by decide) (br_f (by decide) (lo true false (by decide) (by decide) (by decide)))))
  · exact br_f (by decide) (br_t (by decide) (br_t (by decide) (lo false true (by decide) (by decide) (by decide))))
  · exact br_f (by decide) (br_f (by decide) (br_f (by decide) (br_t (by decide) (lo true true (by decide) (by decide) (by decide)))))
  · exact br_f (by decide) (br_f (by decide) (br_f (by decide) (br_f (by decide) (lo true false (by decide) (by decide) (by decide)))))
  · have i8 : vp_in (nI v) 8 := vp_in_nI (by omega) (by omega)
    have c8 : (nI v).toNatClampNeg = v := nI_clamp (by omega)
    have e : wk_st B E L M m 4 n g (8 * s + v) = if n ≤ M v then g (8 * s + v) else 0 := by simp [wk_st, q1]
    rw [c8]
    refine br_t (by decide) (br_f (by decide) (br_t (by decide) ⟨i8, br_c (fun y => leave (by decide) ?_) (fun y => ?_)⟩))
    · rw [e, if_neg (Int32.not_le.mpr y)]
    · unfold wY_step_159
      rw [c5]
      refine ⟨i5, i5, nm_e (put _ (by decide) ?_)⟩
      rw [hn _ (by omega), e, if_pos (Int32.not_lt.mp y)]
  · have e : wk_st B E L M m 5 n g (8 * s + v) = if s = v then 0 else g (8 * s + v) := by simp [wk_st, q1, q2]
    refine br_t (by decide) (br_f (by decide) (br_f (by decide) (br_t (by decide) (br_c (fun y => leave (by decide) ?_) (fun y => ?_)))))
    · rw [e, if_pos ((nI_eq (by omega) (by omega)).mp y)]
    · unfold wY_step_159
      rw [c5]
      refine ⟨i5, i5, nm_e (put _ (by decide) ?_)⟩
      rw [hn _ (by omega), e, if_neg (fun w => y (by rw [w]))]
  · have e : wk_st B E L M m 6 n g (8 * s + v) = if s = v then g (8 * s + v) else 0 := by simp [wk_st, q1, q2]
    refine br_t (by decide) (br_f (by decide) (br_f (by decide) (br_f (by decide) (br_c (fun y => ?_) (fun y => leave (by decide) ?_)))))
    · unfold wY_step_159
      rw [c5]
      refine ⟨i5, i5, nm_e (put _ (by decide) ?_)⟩
      rw [hn _ (by omega), e, if_pos ((nI_eq (by omega) (by omega)).mp y)]
    · rw [e, if_neg (fun w => y (by rw [w]))]
  · have e : wk_st B E L M m 7 n g (8 * s + v) = if 0 < g (8 * s + v) ∧ wk_L g v s = false then 1 else 0 := by simp [wk_st, q1, q2]
    have y0 : ¬ now (8 * s + v) ≤ 0 := fun w => by rw [hn _ (by omega), wk_le0 (hg _ (by omega))] at w; omega
    rw [c5]
    refine br_t (by decide) (br_t (by decide) ⟨i5, br_f y0 (wy_lesser hs hv hg hn (br_c (fun y => ⟨i5, nm_e (put _ (by decide) ?_)⟩) (fun y => ⟨i5, nm_e (put _ (by decide) ?_)⟩)))⟩)
    · cases hL : wk_L g v s
      · rw [e, if_pos ⟨hp, hL⟩]; rfl
      · rw [hL] at y; exact absurd y (by decide)
    · cases hL : wk_L g v s
      · rw [hL] at y; exact absurd rfl y
      · rw [e, if_neg (fun w => by rw [hL] at w; exact nomatch w.2)]; rfl
theorem wy_once {post : SY → Prop} {k : Nat} (hk : k < 8) (hm : m ≤ 10) (hB : ∀ e, B e < 8) (hE : ∀ e, E e < 8) (eB : ∀ e, Ba e = nI (B e)) (eE : ∀ e, Ea e = nI (E e)) (hg : ∀ c, c < 64 → g c < 2 ^ 31) (hn : wk_P now g)
    (K : ∀ now' nx', wk_P now' (wk_st B E L M m k n g) → post (nI m, sc, st, M, Ba, Ea, L, Ka, Vb, now', nx')) : wpY_once post (nI m, sc, st, M, Ba, Ea, L, Ka, Vb, now, nx) (nI k) n := by
  have key3 : ∀ nx, wk_P nx (wk_st B E L M m k n g) → ∀ f i now, i ≤ 64 → 64 - i < f → (∀ c, c < i → now c = nI (wk_st B E L M m k n g c)) → wY_once_60 post (nI m) sc st f (nI i) M Ba Ea L Ka Vb now nx := by
    intro nx hx f
    induction f with
    | zero => intro s nx _ h; omega
    | succ f ih =>
      intro i now hi hf hI
      rcases Nat.lt_or_ge i 64 with z | z
      · have z3 := wk_ge64 z
        have i1 : vp_in (nI i) 64 := vp_in_nI (by omega) (by omega)
        have c1 : (nI i).toNatClampNeg = i := nI_clamp (by omega)
        simp only [wY_once_60, z3, i1, c1, not_false_iff, true_implies, false_implies, true_and, forall_eq, nI_1]
        refine ih (i + 1) _ (by omega) (by omega) (fun c hc => ?_)
        by_cases e : c = i
        · subst e; rw [pk_us]; exact hx c z
        · rw [pk_un e]; exact hI c (by omega)
      · have z2 : i = 64 := by omega
        subst z2
        simp only [wY_once_60, wk_le64, not_true, true_implies, false_implies, and_true]
        exact K now nx hI
  have key2 : ∀ f c nx, c ≤ 64 → 64 - c < f → wk_P nx (wk_V B E L M m k n g c) → wY_once_23 post (nI k) n f (nI c) (nI m) sc st M Ba Ea L Ka Vb now nx := by
    intro f
    induction f with
    | zero => intro s nx _ h; omega
    | succ f ih =>
      intro c nx hc hf hI
      rcases Nat.lt_or_ge c 64 with z | z
      · have i1 : vp_in (nI c) 64 := vp_in_nI (by omega) (by omega)
        have c1 : (nI c).toNatClampNeg = c := nI_clamp (by omega)
        have ec : 8 * (c / 8) + c % 8 = c := by omega
        rw [wY_once_23]
        dsimp only
        rw [wk_rm z, wk_dv z, c1, hn c z]
        refine br_f (wk_ge64 z) ⟨i1, br_c (fun y => nm_r (nI_1 c) ?_) (fun y => ⟨wk_n8, wk_n8, ?_⟩)⟩
        · rw [wk_le0 (hg c z)] at y
          exact ih (c + 1) nx (by omega) (by omega) (wk_PC hI (fun x hx => (wk_VZ y x).symm))
        · rw [wk_le0 (hg c z)] at y
          refine wy_step hk (by omega) (by omega) hm hB hE eB eE hg (by rw [ec]; omega) hn (by rw [ec]; exact hI) (fun nx' h' => nm_r (nI_1 c) (ih (c + 1) nx' (by omega) (by omega) ?_))
          rw [ec] at h'
          exact h'
      · have z2 : c = 64 := by omega
        subst z2
        rw [wY_once_23]
        exact br_t wk_le64 ⟨65, key3 nx (wk_PC hI (fun x hx => wk_Ve hk hB hE hx)) 65 0 now (by omega) (by omega) (fun c hc => by omega)⟩
  have key : ∀ f i nx, i ≤ 64 → 64 - i < f → (∀ c, c < i → nx c = 0) → wY_once_2 post (nI k) n (nI m) sc st f (nI i) M Ba Ea L Ka Vb now nx := by
    intro f
    induction f with
    | zero => intro s nx _ h; omega
    | succ f ih =>
      intro i nx hi hf hI
      rcases Nat.lt_or_ge i 64 with z | z
      · have i1 : vp_in (nI i) 64 := vp_in_nI (by omega) (by omega)
        have c1 : (nI i).toNatClampNeg = i := nI_clamp (by omega)
        rw [wY_once_2]
        dsimp only
        rw [c1]
        refine br_f (wk_ge64 z) ⟨i1, nm_e (nm_r (nI_1 i) (ih (i + 1) _ (by omega) (by omega) (fun c hc => ?_)))⟩
        by_cases e : c = i
        · subst e; rw [pk_us]
        · rw [pk_un e]; exact hI c (by omega)
      · have z2 : i = 64 := by omega
        subst z2
        rw [wY_once_2]
        exact br_t wk_le64 ⟨65, key2 65 0 nx (by omega) (by omega) (fun c hc => by rw [hI c hc, wk_V0]; rfl)⟩
  exact ⟨65, key 65 0 nx (by omega) (by omega) (fun c hc => by omega)⟩
theorem wy_walk {post : SY → Prop} {j : Nat} (hj : j ≤ 6) (hm : m ≤ 10) (hB : ∀ e, B e < 8) (hE : ∀ e, E e < 8) (eB : ∀ e, Ba e = nI (B e)) (eE : ∀ e, Ea e = nI (E e)) (hK : ∀ i, Kn i < 8) (eK : ∀ i, Ka i = nI (Kn i)) (eV : ∀ i, Kn i ≤ 4 → Vb i = Va i)
    (k : ∀ now' nx', wk_P now' (wk_g B E L M m Kn Va st j) → post (nI m, sc, st, M, Ba, Ea, L, Ka, Vb, now', nx')) : wpY_walk post (nI m, sc, st, M, Ba, Ea, L, Ka, Vb, now, nx) (nI j) := by
  have key2 : ∀ f i now nx, i ≤ j → j - i < f → wk_P now (wk_g B E L M m Kn Va st i) → wY_walk_53 post (nI j) f (nI i) (nI m) sc st M Ba Ea L Ka Vb now nx := by
    intro f
    induction f with
    | zero => intro i now nx _ h; omega
    | succ f ih =>
      intro i now nx hi hf hI
      rcases Nat.lt_or_ge i j with z | z
      · have i1 : vp_in (nI i) 6 := vp_in_nI (by omega) (by omega)
        have c1 : (nI i).toNatClampNeg = i := nI_clamp (by omega)
        rw [wY_walk_53]
        dsimp only
        rw [c1, eK]
        refine br_f (nI_ge z (by omega)) ⟨i1, i1, wy_once (hK i) hm hB hE eB eE (fun c hc => by have := wk_gB6 (L := L) (M := M) (K := Kn) (V := Va) (st := st) hB hE hm (i := i) (by omega) hc; omega) hI (fun now' nx' h' => nm_r (nI_1 i) (ih (i + 1) now' nx' (by omega) (by omega) ?_))⟩
        rw [wk_stN (eV i)] at h'
        exact h'
      · have z2 : i = j := by omega
        subst z2
        rw [wY_walk_53]
        exact br_t (nI_le (Nat.le_refl _) (by omega)) (k now nx hI)
  have key : ∀ f c now, c ≤ 64 → 64 - c < f → (∀ x, x < c → now x = nI (wk_g0 st x)) → wY_walk_2 post (nI j) (nI m) sc st f (nI c) M Ba Ea L Ka Vb now nx := by
    intro f
    induction f with
    | zero => intro i now _ h; omega
    | succ f ih =>
      intro c now hc hf hI
      rcases Nat.lt_or_ge c 64 with z | z
      · have i1 : vp_in (nI c) 64 := vp_in_nI (by omega) (by omega)
        have c1 : (nI c).toNatClampNeg = c := nI_clamp (by omega)
        have put : ∀ y : Int32, y = nI (wk_g0 st c) → wY_walk_2 post (nI j) (nI m) sc st f (nI (c + 1)) M Ba Ea L Ka Vb (upd now c y) nx := fun y e => ih (c + 1) _ (by omega) (by omega) (fun x hx => by
          by_cases q : x = c
          · subst q; rw [pk_us]; exact e
          · rw [pk_un q]; exact hI x (by omega))
        have hb := wk_b2 st (c / 8)
        rw [wY_walk_2]
        dsimp only
        rw [wk_rm z, wk_dv z, c1, wk_bE]
        refine br_f (wk_ge64 z) ⟨wk_n8, wk_n8, br_c (fun y => ⟨wk_n8, br_c (fun w => ⟨i1, nm_e (nm_r (nI_1 c) (put _ ?_))⟩) (fun w => ⟨i1, nm_e (nm_r (nI_1 c) (put _ ?_))⟩)⟩) (fun y => ⟨i1, nm_e (nm_r (nI_1 c) (put _ ?_))⟩)⟩
        · have y' := (nI_eq (by omega) (by omega)).mp y
          unfold wk_g0
          rw [if_pos y', w]
        · have y' := (nI_eq (by omega) (by omega)).mp y
          have w' : ¬ wk_b st (c / 8) = 1 := fun q => w (by rw [q]; rfl)
          unfold wk_g0
          rw [if_pos y', show wk_b st (c / 8) = 0 by omega]
          rfl
        · have y' : ¬ c / 8 = c % 8 := fun q => y (by rw [q])
          unfold wk_g0
          rw [if_neg y']
          rfl
      · have z2 : c = 64 := by omega
        subst z2
        rw [wY_walk_2]
        exact br_t wk_le64 ⟨j + 1, key2 (j + 1) 0 now nx (by omega) (by omega) hI⟩
  exact ⟨65, key 65 0 now (by omega) (by omega) (fun c hc => by omega)⟩
end WKY

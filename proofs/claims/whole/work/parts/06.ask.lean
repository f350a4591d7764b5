section WKA
variable {sc st n : Int32} {M Ba Ea L Ka Va Vb now nx now2 nx2 : Nat → Int32} {B E Kn : Nat → Nat} {m : Nat} {g h : Nat → Nat}
theorem wk_vc (x : Int32) : (x < 0) ∨ (∃ j, 8 ≤ j ∧ j < 2 ^ 31 ∧ x = nI j) ∨ (∃ j, j < 8 ∧ x = nI j) := by
  by_cases hx : x < 0
  · exact Or.inl hx
  · obtain ⟨j, hj, rfl⟩ := nI_of hx
    by_cases h : j < 8
    · exact Or.inr (Or.inr ⟨j, h, rfl⟩)
    · exact Or.inr (Or.inl ⟨j, by omega, hj, rfl⟩)
theorem wk_vn {x : Int32} (h : x < 0) : ∀ v, v < 8 → ¬ x = nI v := fun v hv e => nI_pos (n := v) (by omega) (by rw [← e]; exact h)
theorem wk_vb {j : Nat} (h : 8 ≤ j) (hj : j < 2 ^ 31) : ∀ v, v < 8 → ¬ nI j = nI v := fun v hv e => by
  have := (nI_eq hj (by omega)).mp e
  omega
theorem wx_vtx {post : Int32 → Prop} (x : Int32) (h1 : ∀ v, v < 8 → x = nI v → post 1) (h0 : (∀ v, v < 8 → ¬ x = nI v) → post 0) : wpX_isVertex post x := by
  unfold wpX_isVertex
  rcases wk_vc x with hx | ⟨j, h8, hj, rfl⟩ | ⟨j, hj, rfl⟩
  · exact br_t hx (h0 (wk_vn hx))
  · exact br_f (nI_pos hj) (br_t (nI_le (a := 8) h8 hj) (h0 (wk_vb h8 hj)))
  · exact br_f (nI_pos (by omega)) (br_f (wk_ge8 hj) (h1 j hj rfl))
theorem wy_vtx {post : Int32 → Prop} {u : SY} (x : Int32) (h1 : ∀ v, v < 8 → x = nI v → post 1) (h0 : (∀ v, v < 8 → ¬ x = nI v) → post 0) : wpY_vertex post u x := by
  unfold wpY_vertex
  rcases wk_vc x with hx | ⟨j, h8, hj, rfl⟩ | ⟨j, hj, rfl⟩
  · exact br_t hx (h0 (wk_vn hx))
  · exact br_f (nI_pos hj) (br_t (nI_lt (a := 7) (by omega) hj) (h0 (wk_vb h8 hj)))
  · exact br_f (nI_pos (by omega)) (br_f (nI_nlt (a := 7) (by omega) (by decide)) (h1 j hj rfl))
theorem wy_vt {post : Int32 → Prop} {u : SY} {v : Nat} (hv : v < 8) (h1 : post 1) : wpY_vertex post u (nI v) := wy_vtx (nI v) (fun _ _ _ => h1) (fun w => absurd rfl (w v hv))
theorem wy_vf {post : Int32 → Prop} {u : SY} {x : Int32} (hv : ∀ v, v < 8 → ¬ x = nI v) (h0 : post 0) : wpY_vertex post u x := wy_vtx x (fun v h e => absurd e (hv v h)) (fun _ => h0)
theorem wk_find (hm : m ≤ 10) (a b l : Int32) : ∃ r : Int32, (r = -1 ∨ ∃ e, e < m ∧ r = nI e) ∧ (∀ post : Int32 → Prop, post r → wpX_findEdge post (nI m, sc, st, M, Ba, Ea, L, Ka, Va, now, nx) a b l) ∧ (∀ post : Int32 → Prop, post r → wpY_find post (nI m, sc, st, M, Ba, Ea, L, Ka, Vb, now2, nx2) a b l) := by
  have key : ∀ d e, e + d = m → ∃ r : Int32, (r = -1 ∨ ∃ e, e < m ∧ r = nI e) ∧ (∀ post : Int32 → Prop, post r → wX_findEdge_3 post a b l (nI m) sc st M Ba Ea L Ka Va now nx (d + 1) (nI e)) ∧ (∀ post : Int32 → Prop, post r → wY_find_3 post a b l (nI m) sc st M Ba Ea L Ka Vb now2 nx2 (d + 1) (nI e)) := by
    intro d
    induction d with
    | zero =>
      intro e he
      have z : nI m ≤ nI e := nI_le (by omega) (by omega)
      exact ⟨-1, Or.inl rfl, fun _ hp => by rw [wX_findEdge_3]; exact br_t z hp, fun _ hp => by rw [wY_find_3]; exact br_t z hp⟩
    | succ d ih =>
      intro e he
      have z : ¬ nI m ≤ nI e := nI_ge (by omega) (by omega)
      have i1 : vp_in (nI e) 10 := vp_in_nI (by omega) (by omega)
      have c1 : (nI e).toNatClampNeg = e := nI_clamp (by omega)
      obtain ⟨r, hr, hX, hY⟩ := ih (e + 1) (by omega)
      by_cases h1 : Ba e = a
      · by_cases h2 : Ea e = b
        · by_cases h3 : L e = l
          · refine ⟨nI e, Or.inr ⟨e, by omega, rfl⟩, fun post hp => ?_, fun post hp => ?_⟩
            · rw [wX_findEdge_3]; dsimp only; rw [c1]; exact br_f z ⟨i1, br_t h1 ⟨i1, br_t h2 ⟨i1, br_t h3 hp⟩⟩⟩
            · rw [wY_find_3]; dsimp only; rw [c1]; exact br_f z ⟨i1, br_t h1 ⟨i1, br_t h2 ⟨i1, br_t h3 hp⟩⟩⟩
          · refine ⟨r, hr, fun post hp => ?_, fun post hp => ?_⟩
            · rw [wX_findEdge_3]; dsimp only; rw [c1]; exact br_f z ⟨i1, br_t h1 ⟨i1, br_t h2 ⟨i1, br_f h3 (nm_r (nI_1 e) (hX post hp))⟩⟩⟩
            · rw [wY_find_3]; dsimp only; rw [c1]; exact br_f z ⟨i1, br_t h1 ⟨i1, br_t h2 ⟨i1, br_f h3 (nm_r (nI_1 e) (hY post hp))⟩⟩⟩
        · refine ⟨r, hr, fun post hp => ?_, fun post hp => ?_⟩
          · rw [wX_findEdge_3]; dsimp only; rw [c1]; exact br_f z ⟨i1, br_t h1 ⟨i1, br_f h2 (nm_r (nI_1 e) (hX post hp))⟩⟩
          · rw [wY_find_3]; dsimp only; rw [c1]; exact br_f z ⟨i1, br_t h1 ⟨i1, br_f h2 (nm_r (nI_1 e) (hY post hp))⟩⟩
      · refine ⟨r, hr, fun post hp => ?_, fun post hp => ?_⟩
        · rw [wX_findEdge_3]; dsimp only; rw [c1]; exact br_f z ⟨i1, br_f h1 (nm_r (nI_1 e) (hX post hp))⟩
        · rw [wY_find_3]; dsimp only; rw [c1]; exact br_f z ⟨i1, br_f h1 (nm_r (nI_1 e) (hY post hp))⟩
  obtain ⟨r, hr, hX, hY⟩ := key m 0 (by omega)
  exact ⟨r, hr, fun post hp => ⟨m + 1, hX post hp⟩, fun post hp => ⟨m + 1, hY post hp⟩⟩
theorem wy_atL {ec : Int32} {post : Int32 → SY → Prop} {v : Nat} (hv : v < 8) (hn : wk_P now g) (k : post (nI (wk_sm (fun s => g (8 * s + v)) 8)) (ec, sc, st, M, Ba, Ea, L, Ka, Vb, now, nx)) : ∃ q, wY_at_12 post (nI v) ec sc st M Ba Ea L Ka Vb now nx q 0 0 := by
  have key : ∀ f s, s ≤ 8 → 8 - s < f → wY_at_12 post (nI v) ec sc st M Ba Ea L Ka Vb now nx f (nI (wk_sm (fun s => g (8 * s + v)) s)) (nI s) := by
    intro f
    induction f with
    | zero => intro s _ h; omega
    | succ f ih =>
      intro s hs hf
      rcases Nat.lt_or_ge s 8 with z | z
      · have i1 : vp_in (nI (8 * s + v)) 64 := vp_in_nI (by omega) (by omega)
        have c1 : (nI (8 * s + v)).toNatClampNeg = 8 * s + v := nI_clamp (by omega)
        have c2 := hn (8 * s + v) (by omega)
        rw [wY_at_12]
        dsimp only
        rw [wk_iy, c1, c2]
        exact br_f (wk_ge8 z) (wy_vt hv (br_f (by decide) ⟨i1, nm_r (nI_add _ _) (nm_r (nI_1 s) (ih (s + 1) (by omega) (by omega)))⟩))
      · have z2 : s = 8 := by omega
        subst z2
        rw [wY_at_12]
        exact br_t wk_le8 k
  exact ⟨9, key 9 0 (by omega) (by omega)⟩
theorem wy_sum {ec : Int32} {post : Int32 → SY → Prop} (hn : wk_P now g) (k : post (nI (wk_sm g 64)) (ec, sc, st, M, Ba, Ea, L, Ka, Vb, now, nx)) : ∃ q, wY_after_23 post ec sc st M Ba Ea L Ka Vb now nx q 0 0 := by
  have key : ∀ f s, s ≤ 64 → 64 - s < f → wY_after_23 post ec sc st M Ba Ea L Ka Vb now nx f (nI (wk_sm g s)) (nI s) := by
    intro f
    induction f with
    | zero => intro s _ h; omega
    | succ f ih =>
      intro s hs hf
      rcases Nat.lt_or_ge s 64 with z | z
      · have i1 : vp_in (nI s) 64 := vp_in_nI (by omega) (by omega)
        have c1 : (nI s).toNatClampNeg = s := nI_clamp (by omega)
        have c2 := hn s (by omega)
        rw [wY_after_23]
        dsimp only
        rw [c1, c2]
        exact br_f (wk_ge64 z) ⟨i1, nm_r (nI_add _ _) (nm_r (nI_1 s) (ih (s + 1) (by omega) (by omega)))⟩
      · have z2 : s = 64 := by omega
        subst z2
        rw [wY_after_23]
        exact br_t wk_le64 k
  exact ⟨65, key 65 0 (by omega) (by omega)⟩
def wk_Q (g : Nat → Nat) (i : Nat) : Nat → Bool
  | 0 => false
  | c + 1 => wk_Q g i c || (decide (c % 8 = i) && decide (0 < g c))
theorem wk_Qi {i : Nat} : ∀ c, wk_Q g i c = true ↔ ∃ x, x < c ∧ x % 8 = i ∧ 0 < g x := by
  intro c
  induction c with
  | zero => exact ⟨fun w => (nomatch w), fun w => by obtain ⟨x, hx, _⟩ := w; omega⟩
  | succ c ih =>
    show (wk_Q g i c || (decide (c % 8 = i) && decide (0 < g c))) = true ↔ _
    rw [Bool.or_eq_true, ih, Bool.and_eq_true, decide_eq_true_eq, decide_eq_true_eq]
    constructor
    · rintro (⟨x, hx, h⟩ | h)
      · exact ⟨x, by omega, h⟩
      · exact ⟨c, by omega, h⟩
    · rintro ⟨x, hx, h⟩
      by_cases z : x < c
      · exact Or.inl ⟨x, z, h⟩
      · have z2 : x = c := by omega
        subst z2
        exact Or.inr h
theorem wk_QR (g : Nat → Nat) (i : Nat) : wk_Q g i 64 = wk_R g i := by
  apply Bool.eq_iff_iff.mpr
  rw [wk_Qi]
  unfold wk_R
  rw [decide_eq_true_eq]
  constructor
  · rintro ⟨x, hx, h1, h2⟩
    refine ⟨by omega, ?_⟩
    have e : 8 * (x / 8) + i = x := by omega
    have := wk_smL (f := fun s => g (8 * s + i)) (m := 8) (e := x / 8) (by omega)
    rw [e] at this
    omega
  · rintro ⟨h1, h2⟩
    obtain ⟨s, hs, h3⟩ := wk_smP h2
    exact ⟨8 * s + i, by omega, by omega, h3⟩
theorem wy_reached {ec : Int32} {post : Int32 → SY → Prop} (hg : ∀ c, c < 64 → g c < 2 ^ 31) (hn : wk_P now g) (k : ∀ w, (∀ i, i < 32 → bt w i = wk_R g i) → post w (ec, sc, st, M, Ba, Ea, L, Ka, Vb, now, nx)) : ∃ q, wY_reached_12 post ec sc st M Ba Ea L Ka Vb now nx q 0 0 := by
  have key : ∀ f c w, c ≤ 64 → 64 - c < f → (∀ i, i < 32 → bt w i = wk_Q g i c) → wY_reached_12 post ec sc st M Ba Ea L Ka Vb now nx f w (nI c) := by
    intro f
    induction f with
    | zero => intro v w _ h; omega
    | succ f ih =>
      intro c w hc hf hI
      rcases Nat.lt_or_ge c 64 with z | z
      · have i1 : vp_in (nI c) 64 := vp_in_nI (by omega) (by omega)
        have c1 : (nI c).toNatClampNeg = c := nI_clamp (by omega)
        rw [wY_reached_12]
        dsimp only
        rw [wk_rm z, c1, hn c z]
        refine br_f (wk_ge64 z) ⟨i1, br_c (fun y => nm_r (nI_1 c) (ih (c + 1) w (by omega) (by omega) (fun i hi => ?_))) (fun y => ⟨wk_n8, nm_e (nm_r (nI_1 c) (ih (c + 1) _ (by omega) (by omega) (fun i hi => ?_)))⟩)⟩
        · rw [wk_le0 (hg c z)] at y
          show _ = (wk_Q g i c || (decide (c % 8 = i) && decide (0 < g c)))
          rw [hI i hi, decide_eq_false (by omega : ¬ 0 < g c), Bool.and_false, Bool.or_false]
        · rw [wk_le0 (hg c z)] at y
          show _ = (wk_Q g i c || (decide (c % 8 = i) && decide (0 < g c)))
          rw [wk_btO w (by omega) hi, hI i hi, decide_eq_true (by omega : 0 < g c), Bool.and_true]
          have e : (i = c % 8) ↔ (c % 8 = i) := eq_comm
          simp only [e]
      · have z2 : c = 64 := by omega
        subst z2
        rw [wY_reached_12]
        exact br_t wk_le64 (k w (fun i hi => by rw [hI i hi, wk_QR]))
  exact ⟨65, key 65 0 0 (by omega) (by omega) (fun i hi => b_0 i)⟩
theorem wy_startsAt {ec : Int32} {post : Int32 → SY → Prop} {v : Nat} (hv : v < 8) (hg : ∀ c, c < 64 → g c < 2 ^ 31) (hn : wk_P now g) (k : post (wk_S g v 8) (ec, sc, st, M, Ba, Ea, L, Ka, Vb, now, nx)) : ∃ q, wY_startsAt_12 post (nI v) ec sc st M Ba Ea L Ka Vb now nx q 0 0 := by
  have key : ∀ f s, s ≤ 8 → 8 - s < f → wY_startsAt_12 post (nI v) ec sc st M Ba Ea L Ka Vb now nx f (wk_S g v s) (nI s) := by
    intro f
    induction f with
    | zero => intro s _ h; omega
    | succ f ih =>
      intro s hs hf
      rcases Nat.lt_or_ge s 8 with z | z
      · have i1 : vp_in (nI (8 * s + v)) 64 := vp_in_nI (by omega) (by omega)
        have c1 : (nI (8 * s + v)).toNatClampNeg = 8 * s + v := nI_clamp (by omega)
        have c2 := hn (8 * s + v) (by omega)
        have c3 := wk_le0 (hg (8 * s + v) (by omega))
        have I := ih (s + 1) (by omega) (by omega)
        have e : wk_S g v (s + 1) = if 0 < g (8 * s + v) then wk_S g v s ||| ((1 : Int32) <<< (nI s &&& 31)) else wk_S g v s := rfl
        rw [e] at I
        rw [wY_startsAt_12]
        dsimp only
        rw [wk_iy, c1, c2]
        refine br_f (wk_ge8 z) (wy_vt hv (br_f (by decide) ⟨i1, br_c (fun y => nm_r (nI_1 s) ?_) (fun y => nm_e (nm_r (nI_1 s) ?_))⟩))
        · rw [c3] at y
          rw [if_neg (by omega)] at I
          exact I
        · rw [c3] at y
          rw [if_pos (by omega)] at I
          exact I
      · have z2 : s = 8 := by omega
        subst z2
        rw [wY_startsAt_12]
        exact br_t wk_le8 k
  exact ⟨9, key 9 0 (by omega) (by omega)⟩
theorem wy_after {p j : Nat} {post : Int32 → SY → Prop} (hjp : j ≤ p) (hp : p ≤ 6) (hm : m ≤ 10) (hB : ∀ e, B e < 8) (hE : ∀ e, E e < 8) (eB : ∀ e, Ba e = nI (B e)) (eE : ∀ e, Ea e = nI (E e)) (hK : ∀ i, Kn i < 8) (eK : ∀ i, Ka i = nI (Kn i)) (eV : ∀ i, Kn i ≤ 4 → Vb i = Va i)
    (k : ∀ now nx, post (nI (wk_sm (wk_g B E L M m Kn Va st j) 64)) (nI m, nI p, st, M, Ba, Ea, L, Ka, Vb, now, nx)) : wpY_after post (nI m, nI p, st, M, Ba, Ea, L, Ka, Vb, now, nx) (nI j) := by
  unfold wpY_after
  dsimp only
  exact br_f (nI_pos (by omega)) (br_t (nI_le hjp (by omega)) (wy_walk (by omega) hm hB hE eB eE hK eK eV (fun now' nx' hw => wy_sum hw (k now' nx'))))
theorem wy_dies {p : Nat} {post : Int32 → SY → Prop} (hp : p ≤ 6) (hm : m ≤ 10) (hB : ∀ e, B e < 8) (hE : ∀ e, E e < 8) (eB : ∀ e, Ba e = nI (B e)) (eE : ∀ e, Ea e = nI (E e)) (hK : ∀ i, Kn i < 8) (eK : ∀ i, Ka i = nI (Kn i)) (eV : ∀ i, Kn i ≤ 4 → Vb i = Va i) :
    ∀ d i now nx, i + d = p + 1 → (∀ now nx, post (wk_D (wk_g B E L M m Kn Va st) d i) (nI m, nI p, st, M, Ba, Ea, L, Ka, Vb, now, nx)) → wY_diesAfter_2 post (d + 1) (nI i) (nI m) (nI p) st M Ba Ea L Ka Vb now nx := by
  intro d
  induction d with
  | zero =>
    intro i now nx hi k
    rw [wY_diesAfter_2]
    exact br_t (nI_lt (by omega) (by omega)) (k now nx)
  | succ d ih =>
    intro i now nx hi k
    rw [wY_diesAfter_2]
    have e : wk_D (wk_g B E L M m Kn Va st) (d + 1) i = if nI (wk_sm (wk_g B E L M m Kn Va st i) 64) = 0 then nI i else wk_D (wk_g B E L M m Kn Va st) d (i + 1) := rfl
    rw [e] at k
    refine br_f (nI_nlt (by omega) (by omega)) (wy_after (j := i) (by omega) hp hm hB hE eB eE hK eK eV (fun now' nx' => ?_))
    dsimp only
    refine br_c (fun y => ?_) (fun y => nm_r (nI_1 i) ?_)
    · rw [if_pos y] at k
      exact k now' nx'
    · rw [if_neg y] at k
      exact ih (i + 1) now' nx' (by omega) k
/-! the steps that add takes -/
def wk_sk (k : Nat) (n : Int32) : Prop := (k ≤ 3 → ¬ n < 0 ∧ ¬ 2 < n) ∧ (k = 4 → ¬ n < 0 ∧ ¬ 9 < n)
theorem wk_sk3 {k : Nat} (h : k ≤ 3) : wk_sk k n ↔ ¬ n < 0 ∧ ¬ 2 < n := ⟨fun w => w.1 h, fun w => ⟨fun _ => w, fun e => by omega⟩⟩
theorem wk_sk4 : wk_sk 4 n ↔ ¬ n < 0 ∧ ¬ 9 < n := ⟨fun w => w.2 rfl, fun w => ⟨fun e => by omega, fun _ => w⟩⟩
theorem wk_sk5 {k : Nat} (h : 5 ≤ k) : wk_sk k n := ⟨fun e => by omega, fun e => by omega⟩
theorem wx_isStep {post : Int32 → Prop} {k : Nat} (hk : k < 8) (h1 : wk_sk k n → post 1) (h0 : ¬ wk_sk k n → post 0) : wpX_isStep post (nI k) n := by
  have lo : k ≤ 3 → wX_isStep_48 post n := fun h3 => by
    unfold wX_isStep_48
    rw [wk_sk3 h3] at h1 h0
    exact br_c (fun y => h0 (fun w => w.1 y)) (fun y => br_c (fun z => h0 (fun w => w.2 z)) (fun z => h1 ⟨y, z⟩))
  unfold wpX_isStep
  obtain rfl | rfl | rfl | rfl | rfl | rfl | rfl | rfl : k = 0 ∨ k = 1 ∨ k = 2 ∨ k = 3 ∨ k = 4 ∨ k = 5 ∨ k = 6 ∨ k = 7 := by omega
  · exact br_f (by decide) (br_f (by decide) (br_t (by decide) (lo (by decide))))
  · exact br_f (by decide) (br_f (by decide) (br_f (by decide) (br_t (by decide) (lo (by decide)))))
  · exact br_f (by decide) (br_f (by decide) (br_f (by decide) (br_f (by decide) (br_t (by decide) (lo (by decide))))))
  · exact br_f (by decide) (br_f (by decide) (br_f (by decide) (br_f (by decide) (br_f (by decide) (br_t (by decide) (lo (by decide)))))))
  · refine br_f (by decide) (br_f (by decide) (br_f (by decide) (br_f (by decide) (br_f (by decide) (br_f (by decide) (br_t (by decide) ?_))))))
    unfold wpX_isNumber
    rw [wk_sk4] at h1 h0
    exact br_c (fun y => ⟨rfl, h0 (fun w => w.1 y)⟩) (fun y => br_c (fun z => ⟨rfl, h0 (fun w => w.2 z)⟩) (fun z => ⟨rfl, h1 ⟨y, z⟩⟩))
  · exact br_f (by decide) (br_f (by decide) (br_f (by decide) (br_f (by decide) (br_f (by decide) (br_f (by decide) (br_f (by decide) (br_t (by decide) (h1 (wk_sk5 (by decide))))))))))
  · exact br_f (by decide) (br_f (by decide) (br_f (by decide) (br_f (by decide) (br_f (by decide) (br_f (by decide) (br_f (by decide) (br_f (by decide) (br_t (by decide) (h1 (wk_sk5 (by decide)))))))))))
  · exact br_f (by decide) (br_f (by decide) (br_f (by decide) (br_f (by decide) (br_f (by decide) (br_f (by decide) (br_f (by decide) (br_f (by decide) (br_f (by decide) (br_t (by decide) (h1 (wk_sk5 (by decide))))))))))))
theorem wy_add {post : Int32 → SY → Prop} {k : Nat} (hk : k < 8) (h1 : wk_sk k n → wY_add_41 post (nI k) n (nI m) sc st M Ba Ea L Ka Vb now nx) (h0 : ¬ wk_sk k n → post (-1) (nI m, sc, st, M, Ba, Ea, L, Ka, Vb, now, nx)) : wpY_add post (nI m, sc, st, M, Ba, Ea, L, Ka, Vb, now, nx) (nI k) n := by
  have p7 : ¬ (7 : Int32) < nI k := nI_nlt (a := 7) (by omega) (by decide)
  have p0 : ¬ nI k < 0 := nI_pos (by omega)
  unfold wpY_add
  dsimp only
  refine br_f p0 (br_f p7 ?_)
  by_cases h3 : k ≤ 3
  · have n4 : ¬ nI k = 4 := fun w => by have := (nI_eq (b := 4) (by omega) (by decide)).mp w; omega
    rw [wk_sk3 h3] at h1 h0
    refine br_f (nI_nlt (a := 3) h3 (by decide)) (br_c (fun y => h0 (fun w => w.1 y)) (fun y => br_c (fun z => h0 (fun w => w.2 z)) (fun z => ?_)))
    unfold wY_add_24
    exact br_f n4 (h1 ⟨y, z⟩)
  · refine br_t (nI_lt (a := 3) (by omega) (by omega)) ?_
    unfold wY_add_24
    by_cases h4 : k = 4
    · subst h4
      rw [wk_sk4] at h1 h0
      exact br_t (by decide) (br_c (fun y => h0 (fun w => w.1 y)) (fun y => br_c (fun z => h1 ⟨y, Int32.not_lt.mpr z⟩) (fun z => h0 (fun w => z (Int32.not_lt.mp w.2)))))
    · exact br_f (fun w => h4 ((nI_eq (b := 4) (by omega) (by decide)).mp w)) (h1 (wk_sk5 (by omega)))
theorem wk_12 (x : Int32) : 1 < x ↔ ¬ x < 2 := by
  rw [Int32.lt_iff_toInt_lt, Int32.lt_iff_toInt_lt, show (1 : Int32).toInt = 1 by decide, show (2 : Int32).toInt = 2 by decide]
  omega
end WKA

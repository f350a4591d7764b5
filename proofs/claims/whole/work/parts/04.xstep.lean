section WKX2
variable {sc st n : Int32} {M Ba Ea L Ka Va now nx : Nat → Int32} {B E Kn : Nat → Nat} {m : Nat} {g h : Nat → Nat} {post : SX → Prop}
theorem wx_copy {ec : Int32} (hx : wk_P nx h) (k : ∀ now', wk_P now' h → post (ec, sc, st, M, Ba, Ea, L, Ka, Va, now', nx)) : ∃ q, wX_doStep_134 post ec sc st q 0 M Ba Ea L Ka Va now nx := by
  have key : ∀ f i now, i ≤ 64 → 64 - i < f → (∀ c, c < i → now c = nI (h c)) → wX_doStep_134 post ec sc st f (nI i) M Ba Ea L Ka Va now nx := by
    intro f
    induction f with
    | zero => intro s nx _ h; omega
    | succ f ih =>
      intro i now hi hf hI
      rcases Nat.lt_or_ge i 64 with z | z
      · have z3 := wk_ge64 z
        have i1 : vp_in (nI i) 64 := vp_in_nI (by omega) (by omega)
        have c1 : (nI i).toNatClampNeg = i := nI_clamp (by omega)
        simp only [wX_doStep_134, z3, i1, c1, not_false_iff, true_implies, false_implies, true_and, forall_eq, nI_1]
        refine ih (i + 1) _ (by omega) (by omega) (fun c hc => ?_)
        by_cases e : c = i
        · subst e; rw [pk_us]; exact hx c z
        · rw [pk_un e]; exact hI c (by omega)
      · have z2 : i = 64 := by omega
        subst z2
        simp only [wX_doStep_134, wk_le64, not_true, true_implies, false_implies, and_true]
        exact k now hI
  exact ⟨65, key 65 0 now (by omega) (by omega) (fun c hc => by omega)⟩
theorem wx_step {k : Nat} (hk : k < 8) (hm : m ≤ 10) (hB : ∀ e, B e < 8) (hE : ∀ e, E e < 8) (eB : ∀ e, Ba e = nI (B e)) (eE : ∀ e, Ea e = nI (E e)) (hg : ∀ c, c < 64 → g c < 2 ^ 31) (hn : wk_P now g)
    (K : ∀ now' nx', wk_P now' (wk_st B E L M m k n g) → post (nI m, sc, st, M, Ba, Ea, L, Ka, Va, now', nx')) : wpX_doStep post (nI m, sc, st, M, Ba, Ea, L, Ka, Va, now, nx) (nI k) n := by
  have key : ∀ f i nx, i ≤ 64 → 64 - i < f → (∀ c, c < i → nx c = 0) → wX_doStep_2 post (nI k) n (nI m) sc st f (nI i) M Ba Ea L Ka Va now nx := by
    intro f
    induction f with
    | zero => intro s nx _ h; omega
    | succ f ih =>
      intro i nx hi hf hI
      rcases Nat.lt_or_ge i 64 with z | z
      · have i1 : vp_in (nI i) 64 := vp_in_nI (by omega) (by omega)
        have c1 : (nI i).toNatClampNeg = i := nI_clamp (by omega)
        rw [wX_doStep_2]
        dsimp only
        rw [c1]
        refine br_f (wk_ge64 z) ⟨i1, nm_e (nm_r (nI_1 i) (ih (i + 1) _ (by omega) (by omega) (fun c hc => ?_)))⟩
        by_cases e : c = i
        · subst e; rw [pk_us]
        · rw [pk_un e]; exact hI c (by omega)
      · have z2 : i = 64 := by omega
        subst z2
        have h0 : wk_P nx (fun _ => 0) := fun c hc => by rw [hI c hc]; rfl
        rw [wX_doStep_2]
        refine br_t wk_le64 ?_
        obtain rfl | rfl | rfl | rfl | rfl | rfl | rfl | rfl : k = 0 ∨ k = 1 ∨ k = 2 ∨ k = 3 ∨ k = 4 ∨ k = 5 ∨ k = 6 ∨ k = 7 := by omega
        · refine br_f (by decide) (br_f (by decide) (br_t (by decide) ?_))
          exact wx_out hm hB hE eB eE hn h0 (fun nx' h1 => wx_copy h1 (fun now' h2 => K now' nx' (wk_PC h2 (fun c hc => Nat.zero_add _))))
        · refine br_f (by decide) (br_f (by decide) (br_f (by decide) (br_t (by decide) ?_)))
          exact wx_in hm hB hE eB eE hn h0 (fun nx' h1 => wx_copy h1 (fun now' h2 => K now' nx' (wk_PC h2 (fun c hc => Nat.zero_add _))))
        · refine br_f (by decide) (br_f (by decide) (br_f (by decide) (br_f (by decide) (br_t (by decide) ?_))))
          refine wx_out hm hB hE eB eE hn h0 (fun nx' h1 => wx_in hm hB hE eB eE hn h1 (fun nx' h1 => wx_copy h1 (fun now' h2 => K now' nx' (wk_PC h2 (fun c hc => ?_)))))
          show 0 + _ + _ = _
          rw [Nat.zero_add]
          rfl
        · refine br_f (by decide) (br_f (by decide) (br_f (by decide) (br_f (by decide) (br_f (by decide) (br_t (by decide) ?_)))))
          refine wx_out hm hB hE eB eE hn h0 (fun nx' h1 => wx_stay hm hB eB hn h1 (fun nx' h1 => wx_copy h1 (fun now' h2 => K now' nx' (wk_PC h2 (fun c hc => ?_)))))
          show 0 + _ + _ = _
          rw [Nat.zero_add]
          rfl
        · refine br_f (by decide) (br_f (by decide) (br_f (by decide) (br_f (by decide) (br_f (by decide) (br_f (by decide) (br_t (by decide) ?_))))))
          exact wx_number hn h0 (fun nx' h1 => wx_copy h1 (fun now' h2 => K now' nx' (wk_PC h2 (fun c hc => Nat.zero_add _))))
        · refine br_f (by decide) (br_f (by decide) (br_f (by decide) (br_f (by decide) (br_f (by decide) (br_f (by decide) (br_f (by decide) (br_t (by decide) ?_)))))))
          exact wx_away hn h0 (fun nx' h1 => wx_copy h1 (fun now' h2 => K now' nx' (wk_PC h2 (fun c hc => rfl))))
        · refine br_f (by decide) (br_f (by decide) (br_f (by decide) (br_f (by decide) (br_f (by decide) (br_f (by decide) (br_f (by decide) (br_f (by decide) (br_t (by decide) ?_))))))))
          exact wx_home hn h0 (fun nx' h1 => wx_copy h1 (fun now' h2 => K now' nx' (wk_PC h2 (fun c hc => rfl))))
        · refine br_f (by decide) (br_t (by decide) ?_)
          exact wx_one hg hn h0 (fun nx' h1 => wx_copy h1 (fun now' h2 => K now' nx' (wk_PC h2 (fun c hc => rfl))))
  exact ⟨65, key 65 0 nx (by omega) (by omega) (fun c hc => by omega)⟩
theorem wx_place {ec : Int32} (k : ∀ now', wk_P now' (wk_g0 st) → post (ec, sc, st, M, Ba, Ea, L, Ka, Va, now', nx)) : wpX_placeAtStarts post (ec, sc, st, M, Ba, Ea, L, Ka, Va, now, nx) := by
  have key2 : ∀ f s now, s ≤ 8 → 8 - s < f → wk_P now (fun c => if c / 8 = c % 8 ∧ c % 8 < s then wk_b st (c / 8) else 0) → wX_placeAtStarts_23 post ec sc st f (nI s) M Ba Ea L Ka Va now nx := by
    intro f
    induction f with
    | zero => intro s nx _ h; omega
    | succ f ih =>
      intro s now hs hf hI
      rcases Nat.lt_or_ge s 8 with z | z
      · have z3 := wk_ge8 z
        have i1 : vp_in (nI (8 * s + s)) 64 := vp_in_nI (by omega) (by omega)
        have c1 : (nI (8 * s + s)).toNatClampNeg = 8 * s + s := nI_clamp (by omega)
        simp only [wX_placeAtStarts_23, z3, wk_ix, i1, c1, wk_bE, not_false_iff, true_implies, false_implies, true_and, forall_eq, nI_1]
        refine ih (s + 1) _ (by omega) (by omega) (wk_PU hI ?_ ?_)
        · refine congrArg nI ?_
          have q : (8 * s + s) / 8 = s := by omega
          rw [if_pos (by omega), q]
        · intro c hc hne
          have e : (c / 8 = c % 8 ∧ c % 8 < s) ↔ (c / 8 = c % 8 ∧ c % 8 < s + 1) := by omega
          simp only [e]
      · have z2 : s = 8 := by omega
        subst z2
        simp only [wX_placeAtStarts_23, wk_le8, not_true, true_implies, false_implies, and_true]
        refine k now (wk_PC hI (fun c hc => ?_))
        have e : (c / 8 = c % 8 ∧ c % 8 < 8) ↔ c / 8 = c % 8 := by omega
        simp only [e]
        rfl
  have key : ∀ f i now, i ≤ 64 → 64 - i < f → (∀ c, c < i → now c = 0) → wX_placeAtStarts_2 post ec sc st f (nI i) M Ba Ea L Ka Va now nx := by
    intro f
    induction f with
    | zero => intro s nx _ h; omega
    | succ f ih =>
      intro i now hi hf hI
      rcases Nat.lt_or_ge i 64 with z | z
      · have i1 : vp_in (nI i) 64 := vp_in_nI (by omega) (by omega)
        have c1 : (nI i).toNatClampNeg = i := nI_clamp (by omega)
        rw [wX_placeAtStarts_2]
        dsimp only
        rw [c1]
        refine br_f (wk_ge64 z) ⟨i1, nm_e (nm_r (nI_1 i) (ih (i + 1) _ (by omega) (by omega) (fun c hc => ?_)))⟩
        by_cases e : c = i
        · subst e; rw [pk_us]
        · rw [pk_un e]; exact hI c (by omega)
      · have z2 : i = 64 := by omega
        subst z2
        rw [wX_placeAtStarts_2]
        exact br_t wk_le64 ⟨9, key2 9 0 now (by omega) (by omega) (fun c hc => by rw [hI c hc]; dsimp only; rw [if_neg (fun w => by omega)]; rfl)⟩
  exact ⟨65, key 65 0 now (by omega) (by omega) (fun c hc => by omega)⟩
theorem wx_walk {j : Nat} (hj : j ≤ 6) (hm : m ≤ 10) (hB : ∀ e, B e < 8) (hE : ∀ e, E e < 8) (eB : ∀ e, Ba e = nI (B e)) (eE : ∀ e, Ea e = nI (E e)) (hK : ∀ i, Kn i < 8) (eK : ∀ i, Ka i = nI (Kn i))
    (k : ∀ now' nx', wk_P now' (wk_g B E L M m Kn Va st j) → post (nI m, sc, st, M, Ba, Ea, L, Ka, Va, now', nx')) : wpX_walk post (nI m, sc, st, M, Ba, Ea, L, Ka, Va, now, nx) (nI j) := by
  have key : ∀ f i now nx, i ≤ j → j - i < f → wk_P now (wk_g B E L M m Kn Va st i) → wX_walk_6 post (nI j) f (nI i) (nI m) sc st M Ba Ea L Ka Va now nx := by
    intro f
    induction f with
    | zero => intro i now nx _ h; omega
    | succ f ih =>
      intro i now nx hi hf hI
      rcases Nat.lt_or_ge i j with z | z
      · have i1 : vp_in (nI i) 6 := vp_in_nI (by omega) (by omega)
        have c1 : (nI i).toNatClampNeg = i := nI_clamp (by omega)
        rw [wX_walk_6]
        dsimp only
        rw [c1, eK]
        exact br_f (nI_ge z (by omega)) ⟨i1, i1, wx_step (hK i) hm hB hE eB eE (fun c hc => by have := wk_gB6 (L := L) (M := M) (K := Kn) (V := Va) (st := st) hB hE hm (i := i) (by omega) hc; omega) hI (fun now' nx' h' => nm_r (nI_1 i) (ih (i + 1) now' nx' (by omega) (by omega) h'))⟩
      · have z2 : i = j := by omega
        subst z2
        rw [wX_walk_6]
        exact br_t (nI_le (Nat.le_refl _) (by omega)) (k now nx hI)
  unfold wpX_walk
  dsimp only
  exact wx_place (fun now' h0 => ⟨j + 1, key (j + 1) 0 now' nx (by omega) (by omega) h0⟩)
theorem wx_countAt {ec : Int32} {post : Int32 → Prop} {v : Nat} (hv : v < 8) (hn : wk_P now g) (k : post (nI (wk_sm (fun s => g (8 * s + v)) 8))) : wpX_countAt post (ec, sc, st, M, Ba, Ea, L, Ka, Va, now, nx) (nI v) := by
  have key : ∀ f s, s ≤ 8 → 8 - s < f → wX_countAt_4 post (nI v) ec sc st M Ba Ea L Ka Va now nx f (nI (wk_sm (fun s => g (8 * s + v)) s)) (nI s) := by
    intro f
    induction f with
    | zero => intro s _ h; omega
    | succ f ih =>
      intro s hs hf
      rcases Nat.lt_or_ge s 8 with z | z
      · have z3 := wk_ge8 z
        have i1 : vp_in (nI (8 * s + v)) 64 := vp_in_nI (by omega) (by omega)
        have c1 : (nI (8 * s + v)).toNatClampNeg = 8 * s + v := nI_clamp (by omega)
        have c2 := hn (8 * s + v) (by omega)
        simp only [wX_countAt_4, z3, wk_ix, i1, c1, c2, not_false_iff, true_implies, false_implies, true_and, forall_eq, nI_1, nI_add]
        exact ih (s + 1) (by omega) (by omega)
      · have z2 : s = 8 := by omega
        subst z2
        simp only [wX_countAt_4, wk_le8, not_true, true_implies, false_implies, and_true]
        exact k
  exact ⟨9, key 9 0 (by omega) (by omega)⟩
theorem wx_countAll {ec : Int32} {post : Int32 → Prop} (hn : wk_P now g) (k : post (nI (wk_sm g 64))) : wpX_countAll post (ec, sc, st, M, Ba, Ea, L, Ka, Va, now, nx) := by
  have key : ∀ f s, s ≤ 64 → 64 - s < f → wX_countAll_4 post ec sc st M Ba Ea L Ka Va now nx f (nI (wk_sm g s)) (nI s) := by
    intro f
    induction f with
    | zero => intro s _ h; omega
    | succ f ih =>
      intro s hs hf
      rcases Nat.lt_or_ge s 64 with z | z
      · have z3 := wk_ge64 z
        have i1 : vp_in (nI s) 64 := vp_in_nI (by omega) (by omega)
        have c1 : (nI s).toNatClampNeg = s := nI_clamp (by omega)
        have c2 := hn s (by omega)
        simp only [wX_countAll_4, z3, i1, c1, c2, not_false_iff, true_implies, false_implies, true_and, forall_eq, nI_1, nI_add]
        exact ih (s + 1) (by omega) (by omega)
      · have z2 : s = 64 := by omega
        subst z2
        simp only [wX_countAll_4, wk_le64, not_true, true_implies, false_implies, and_true]
        exact k
  exact ⟨65, key 65 0 (by omega) (by omega)⟩
/-- are there walkers at i -/
def wk_R (g : Nat → Nat) (i : Nat) : Bool := decide (i < 8 ∧ 0 < wk_sm (fun s => g (8 * s + i)) 8)
theorem wx_reached {ec : Int32} {post : Int32 → SX → Prop} (hg : ∀ c, c < 64 → g c ≤ 64000000) (hn : wk_P now g) (k : ∀ w, (∀ i, i < 32 → bt w i = wk_R g i) → post w (ec, sc, st, M, Ba, Ea, L, Ka, Va, now, nx)) : ∃ q, wX_reached_12 post ec sc st M Ba Ea L Ka Va now nx q 0 0 := by
  have key : ∀ f v w, v ≤ 8 → 8 - v < f → (∀ i, i < 32 → bt w i = (decide (i < v) && wk_R g i)) → wX_reached_12 post ec sc st M Ba Ea L Ka Va now nx f w (nI v) := by
    intro f
    induction f with
    | zero => intro v w _ h; omega
    | succ f ih =>
      intro v w hv hf hI
      rcases Nat.lt_or_ge v 8 with z | z
      · rw [wX_reached_12]
        have hb : wk_sm (fun s => g (8 * s + v)) 8 < 2 ^ 31 := Nat.lt_of_le_of_lt (wk_smB (K := 64000000) (fun s hs => hg _ (by omega))) (by decide)
        refine br_f (wk_ge8 z) (wx_countAt z hn (br_c (fun y => nm_r (nI_1 v) (ih (v + 1) w (by omega) (by omega) (fun i hi => ?_))) (fun y => nm_e (nm_r (nI_1 v) (ih (v + 1) _ (by omega) (by omega) (fun i hi => ?_))))))
        · rw [wk_le0 hb] at y
          rw [hI i hi]
          by_cases q : i = v
          · subst q
            have r0 : wk_R g i = false := decide_eq_false (fun w => by omega)
            rw [r0, Bool.and_false, Bool.and_false]
          · have e : i < v ↔ i < v + 1 := by omega
            simp only [e]
        · rw [wk_le0 hb] at y
          rw [wk_btO w (by omega) hi, hI i hi]
          by_cases q : i = v
          · subst q
            have r0 : wk_R g i = true := decide_eq_true ⟨z, by omega⟩
            rw [r0, decide_eq_true (rfl : i = i), decide_eq_true (by omega : i < i + 1), Bool.or_true]
            rfl
          · have e : i < v ↔ i < v + 1 := by omega
            rw [decide_eq_false q, Bool.or_false]
            simp only [e]
      · have z2 : v = 8 := by omega
        subst z2
        rw [wX_reached_12]
        refine br_t wk_le8 (k w (fun i hi => ?_))
        rw [hI i hi]
        by_cases q : i < 8
        · rw [decide_eq_true q, Bool.true_and]
        · have r0 : wk_R g i = false := decide_eq_false (fun w => q w.1)
          rw [r0, Bool.and_false]
  exact ⟨9, key 9 0 0 (by omega) (by omega) (fun i hi => by rw [b_0, decide_eq_false (by omega), Bool.false_and])⟩
theorem wx_startsAt {ec : Int32} {post : Int32 → SX → Prop} {v : Nat} (hv : v < 8) (hg : ∀ c, c < 64 → g c < 2 ^ 31) (hn : wk_P now g) (k : post (wk_S g v 8) (ec, sc, st, M, Ba, Ea, L, Ka, Va, now, nx)) : ∃ q, wX_startsAt_21 post (nI v) ec sc st M Ba Ea L Ka Va now nx q 0 0 := by
  have key : ∀ f s, s ≤ 8 → 8 - s < f → wX_startsAt_21 post (nI v) ec sc st M Ba Ea L Ka Va now nx f (wk_S g v s) (nI s) := by
    intro f
    induction f with
    | zero => intro s _ h; omega
    | succ f ih =>
      intro s hs hf
      rcases Nat.lt_or_ge s 8 with z | z
      · have z3 := wk_ge8 z
        have i1 : vp_in (nI (8 * s + v)) 64 := vp_in_nI (by omega) (by omega)
        have c1 : (nI (8 * s + v)).toNatClampNeg = 8 * s + v := nI_clamp (by omega)
        have c2 := hn (8 * s + v) (by omega)
        have c3 := wk_le0 (hg (8 * s + v) (by omega))
        have I := ih (s + 1) (by omega) (by omega)
        have e : wk_S g v (s + 1) = if 0 < g (8 * s + v) then wk_S g v s ||| ((1 : Int32) <<< (nI s &&& 31)) else wk_S g v s := rfl
        rw [e] at I
        rw [wX_startsAt_21]
        dsimp only
        rw [wk_ix, c1, c2]
        refine br_f z3 ⟨i1, br_c (fun y => nm_r (nI_1 s) ?_) (fun y => nm_e (nm_r (nI_1 s) ?_))⟩
        · rw [c3] at y
          rw [if_neg (by omega)] at I
          exact I
        · rw [c3] at y
          rw [if_pos (by omega)] at I
          exact I
      · have z2 : s = 8 := by omega
        subst z2
        rw [wX_startsAt_21]
        exact br_t wk_le8 k
  exact ⟨9, key 9 0 (by omega) (by omega)⟩
/-- the least number of steps after which none is left -/
def wk_D (G : Nat → Nat → Nat) : Nat → Nat → Int32
  | 0, _ => -1
  | d + 1, i => if nI (wk_sm (G i) 64) = 0 then nI i else wk_D G d (i + 1)
theorem wx_dies {p : Nat} {post : Int32 → SX → Prop} (hp : p ≤ 6) (hm : m ≤ 10) (hB : ∀ e, B e < 8) (hE : ∀ e, E e < 8) (eB : ∀ e, Ba e = nI (B e)) (eE : ∀ e, Ea e = nI (E e)) (hK : ∀ i, Kn i < 8) (eK : ∀ i, Ka i = nI (Kn i)) :
    ∀ d i now nx, i + d = p + 1 → (∀ now nx, post (wk_D (wk_g B E L M m Kn Va st) d i) (nI m, nI p, st, M, Ba, Ea, L, Ka, Va, now, nx)) → wX_diesAfter_2 post (d + 1) (nI i) (nI m) (nI p) st M Ba Ea L Ka Va now nx := by
  intro d
  induction d with
  | zero =>
    intro i now nx hi k
    rw [wX_diesAfter_2]
    exact br_t (nI_lt (by omega) (by omega)) (k now nx)
  | succ d ih =>
    intro i now nx hi k
    rw [wX_diesAfter_2]
    have e : wk_D (wk_g B E L M m Kn Va st) (d + 1) i = if nI (wk_sm (wk_g B E L M m Kn Va st i) 64) = 0 then nI i else wk_D (wk_g B E L M m Kn Va st) d (i + 1) := rfl
    rw [e] at k
    refine br_f (nI_nlt (by omega) (by omega)) (wx_walk (j := i) (by omega) hm hB hE eB eE hK eK (fun now' nx' h => ?_))
    dsimp only
    refine wx_countAll h (br_c (fun y => ?_) (fun y => nm_r (nI_1 i) ?_))
    · rw [if_pos y] at k
      exact k now' nx'
    · rw [if_neg y] at k
      exact ih (i + 1) now' nx' (by omega) k
end WKX2

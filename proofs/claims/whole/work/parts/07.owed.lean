section WKO
def wk_ok (m p : Nat) (Ba Ea Ka Va Vb : Nat → Int32) (B E Kn : Nat → Nat) : Prop := m ≤ 10 ∧ p ≤ 6 ∧ (∀ e, B e < 8) ∧ (∀ e, E e < 8) ∧ (∀ e, Ba e = nI (B e)) ∧ (∀ e, Ea e = nI (E e)) ∧ (∀ i, Kn i < 8) ∧ (∀ i, Ka i = nI (Kn i)) ∧ (∀ i, Kn i ≤ 4 → Vb i = Va i)
/-- both sides hold the same graph, the same kinds and starts; the numbers of the steps agree where they are used; now and next are free -/
def i_Rel (_ : Nat) (u : SX) (v : SY) : Prop := ∃ (m p : Nat) (st : Int32) (M Ba Ea L Ka Va Vb n1 x1 n2 x2 : Nat → Int32) (B E Kn : Nat → Nat), u = (nI m, nI p, st, M, Ba, Ea, L, Ka, Va, n1, x1) ∧ v = (nI m, nI p, st, M, Ba, Ea, L, Ka, Vb, n2, x2) ∧ wk_ok m p Ba Ea Ka Va Vb B E Kn
theorem i_mk {k m p : Nat} {st : Int32} {M Ba Ea L Ka Va Vb n1 x1 n2 x2 : Nat → Int32} {B E Kn : Nat → Nat} (h : wk_ok m p Ba Ea Ka Va Vb B E Kn) : i_Rel k (nI m, nI p, st, M, Ba, Ea, L, Ka, Va, n1, x1) (nI m, nI p, st, M, Ba, Ea, L, Ka, Vb, n2, x2) := ⟨m, p, st, M, Ba, Ea, L, Ka, Va, Vb, n1, x1, n2, x2, B, E, Kn, rfl, rfl, h⟩
theorem i_up {k : Nat} {u : SX} {v : SY} (h : i_Rel k u v) : i_Rel (k + 4) u v := h
theorem i_vc0 : wpX_init (fun u => wpY_init (fun v => i_Rel 0 u v)) := i_mk (k := 0) (m := 0) (p := 0) (B := fun _ => 0) (E := fun _ => 0) (Kn := fun _ => 0) ⟨by omega, by omega, fun _ => Nat.zero_lt_succ 7, fun _ => Nat.zero_lt_succ 7, fun _ => rfl, fun _ => rfl, fun _ => Nat.zero_lt_succ 7, fun _ => rfl, fun _ _ => rfl⟩
theorem wk_uE {A : Nat → Int32} {P : Nat → Nat} (h : ∀ e, A e = nI (P e)) {i a : Nat} {x : Int32} (hx : x = nI a) : ∀ e, upd A i x e = nI (if e = i then a else P e) := by
  intro e
  unfold upd
  split
  · exact hx
  · exact h e
theorem wk_uB {P : Nat → Nat} {N : Nat} (h : ∀ e, P e < N) {i a : Nat} (ha : a < N) : ∀ e, (if e = i then a else P e) < N := by
  intro e
  split
  · exact ha
  · exact h e
theorem i_vc_mark {k : Nat} {u : SX} {v : SY} (I : i_Rel k u v) (hk : k + 4 ≤ 2048) (v1 : Int32) (v2 : Int32) : wpX_mark (fun r u' => wpY_mark (fun r' v' => r' = r ∧ i_Rel (k + 4) u' v') v v1 v2) u v1 v2 := by
  obtain ⟨m, p, st, M, Ba, Ea, L, Ka, Va, Vb, n1, x1, n2, x2, B, E, Kn, rfl, rfl, h⟩ := I
  obtain ⟨hm, hp, hB, hE, eB, eE, hK, eK, eV⟩ := id h
  unfold wpX_mark wpY_mark
  dsimp only
  refine wx_vtx v1 (fun v hv e => br_f (by decide) ?_) (fun hv => br_t rfl (wy_vf hv (br_t rfl ⟨rfl, i_mk h⟩)))
  subst e
  have i8 : vp_in (nI v) 8 := vp_in_nI hv (by omega)
  unfold wpX_isNumber
  refine br_c (fun y => br_t rfl (wy_vt hv (br_f (by decide) (br_t y ⟨rfl, i_mk h⟩)))) (fun y => br_c (fun w => br_t rfl (wy_vt hv (br_f (by decide) (br_f y (br_f (Int32.not_le.mpr w) ⟨rfl, i_mk h⟩))))) (fun w => br_f (by decide) ⟨i8, nm_e (wy_vt hv (br_f (by decide) (br_f y (br_t (Int32.not_lt.mp w) ⟨i8, nm_e ⟨rfl, i_mk h⟩⟩))))⟩))
theorem i_vc_join {k : Nat} {u : SX} {v : SY} (I : i_Rel k u v) (hk : k + 4 ≤ 2048) (v1 : Int32) (v2 : Int32) (v3 : Int32) : wpX_join (fun r u' => wpY_join (fun r' v' => r' = r ∧ i_Rel (k + 4) u' v') v v1 v2 v3) u v1 v2 v3 := by
  obtain ⟨m, p, st, M, Ba, Ea, L, Ka, Va, Vb, n1, x1, n2, x2, B, E, Kn, rfl, rfl, h⟩ := I
  obtain ⟨hm, hp, hB, hE, eB, eE, hK, eK, eV⟩ := id h
  unfold wpX_join wpY_join
  dsimp only
  by_cases e0 : v1 = v2
  · exact br_t e0 (br_t e0 ⟨rfl, i_mk h⟩)
  refine br_f e0 ?_
  refine wx_vtx v1 (fun a ha ea => br_f (by decide) ?_) (fun hv => br_t rfl (br_f e0 (wy_vf hv (br_t rfl ⟨rfl, i_mk h⟩))))
  subst ea
  refine wx_vtx v2 (fun b hb eb => br_f (by decide) ?_) (fun hv => br_t rfl (br_f e0 (wy_vt ha (br_f (by decide) (wy_vf hv (br_t rfl ⟨rfl, i_mk h⟩))))))
  subst eb
  by_cases l0 : v3 < 0
  · exact br_t l0 (br_f e0 (wy_vt ha (br_f (by decide) (wy_vt hb (br_f (by decide) (br_t l0 ⟨rfl, i_mk h⟩))))))
  refine br_f l0 ?_
  by_cases l2 : v3 < 2
  · have l1 : ¬ 1 < v3 := fun w => (wk_12 v3).mp w l2
    refine br_t l2 ?_
    obtain ⟨r, hr, fx, fy⟩ := wk_find (sc := nI p) (st := st) (M := M) (Ba := Ba) (Ea := Ea) (L := L) (Ka := Ka) (Va := Va) (Vb := Vb) (now := n1) (nx := x1) (now2 := n2) (nx2 := x2) hm (nI a) (nI b) v3
    by_cases m10 : m < 10
    · have i10 : vp_in (nI m) 10 := vp_in_nI m10 (by omega)
      refine br_f (nI_ge (b := 10) m10 (by decide)) (fx _ ?_)
      rcases hr with rfl | ⟨e, he, rfl⟩
      · refine br_t rfl ⟨i10, nm_e ⟨i10, nm_e ⟨i10, nm_e (nm_r (nI_1 m) ?_)⟩⟩⟩
        refine br_f e0 (wy_vt ha (br_f (by decide) (wy_vt hb (br_f (by decide) (br_f l0 (br_f l1 (fy _ ?_)))))))
        refine br_f (by decide) (br_t (nI_lt (b := 10) m10 (by decide)) ⟨i10, nm_e ⟨i10, nm_e ⟨i10, nm_e (nm_r (nI_1 m) ⟨rfl, ?_⟩)⟩⟩⟩)
        exact i_mk ⟨m10, hp, wk_uB hB ha, wk_uB hE hb, wk_uE eB rfl, wk_uE eE rfl, hK, eK, eV⟩
      · have ne : ¬ nI e = -1 := fun w => nI_pos (n := e) (by omega) (by rw [w]; decide)
        exact br_f ne (br_f e0 (wy_vt ha (br_f (by decide) (wy_vt hb (br_f (by decide) (br_f l0 (br_f l1 (fy _ (br_t (nI_pos' (by omega)) ⟨rfl, i_mk h⟩)))))))))
    · refine br_t (nI_le (a := 10) (by omega) (by omega)) (br_f e0 (wy_vt ha (br_f (by decide) (wy_vt hb (br_f (by decide) (br_f l0 (br_f l1 (fy _ ?_))))))))
      rcases hr with rfl | ⟨e, he, rfl⟩
      · exact br_f (by decide) (br_f (nI_nlt (b := 10) (by omega) (by omega)) ⟨rfl, i_mk h⟩)
      · exact br_t (nI_pos' (by omega)) ⟨rfl, i_mk h⟩
  · exact br_f l2 (br_f e0 (wy_vt ha (br_f (by decide) (wy_vt hb (br_f (by decide) (br_f l0 (br_t ((wk_12 v3).mpr l2) ⟨rfl, i_mk h⟩)))))))
theorem i_vc_cut {k : Nat} {u : SX} {v : SY} (I : i_Rel k u v) (hk : k + 4 ≤ 2048) (v1 : Int32) (v2 : Int32) (v3 : Int32) : wpX_cut (fun r u' => wpY_cut (fun r' v' => r' = r ∧ i_Rel (k + 4) u' v') v v1 v2 v3) u v1 v2 v3 := by
  obtain ⟨m, p, st, M, Ba, Ea, L, Ka, Va, Vb, n1, x1, n2, x2, B, E, Kn, rfl, rfl, h⟩ := I
  obtain ⟨hm, hp, hB, hE, eB, eE, hK, eK, eV⟩ := id h
  unfold wpX_cut wpY_cut
  dsimp only
  obtain ⟨r, hr, fx, fy⟩ := wk_find (sc := nI p) (st := st) (M := M) (Ba := Ba) (Ea := Ea) (L := L) (Ka := Ka) (Va := Va) (Vb := Vb) (now := n1) (nx := x1) (now2 := n2) (nx2 := x2) hm v1 v2 v3
  refine fx _ ?_
  rcases hr with rfl | ⟨e, he, rfl⟩
  · exact br_t rfl (fy _ (br_f (by decide) ⟨rfl, i_mk h⟩))
  · obtain ⟨q, rfl⟩ : ∃ q, m = q + 1 := ⟨m - 1, by omega⟩
    have ne : ¬ nI e = -1 := fun w => nI_pos (n := e) (by omega) (by rw [w]; decide)
    have i1 : vp_in (nI q) 10 := vp_in_nI (by omega) (by omega)
    have i2 : vp_in (nI e) 10 := vp_in_nI (by omega) (by omega)
    refine br_f ne (nm_r (nI_pred q) ⟨i1, i2, nm_e ⟨i1, i2, nm_e ⟨i1, i2, nm_e (fy _ (br_t (nI_pos' (by omega)) (nm_r (nI_pred q) ⟨i1, i2, nm_e ⟨i1, i2, nm_e ⟨i1, i2, nm_e ⟨rfl, ?_⟩⟩⟩⟩)))⟩⟩⟩)
    exact i_mk ⟨by omega, hp, wk_uB hB (hB _), wk_uB hE (hE _), wk_uE eB (eB _), wk_uE eE (eE _), hK, eK, eV⟩
theorem i_vc_add {k : Nat} {u : SX} {v : SY} (I : i_Rel k u v) (hk : k + 4 ≤ 2048) (v1 : Int32) (v2 : Int32) : wpX_add (fun r u' => wpY_add (fun r' v' => r' = r ∧ i_Rel (k + 4) u' v') v v1 v2) u v1 v2 := by
  obtain ⟨m, p, st, M, Ba, Ea, L, Ka, Va, Vb, n1, x1, n2, x2, B, E, Kn, rfl, rfl, h⟩ := I
  obtain ⟨hm, hp, hB, hE, eB, eE, hK, eK, eV⟩ := id h
  unfold wpX_add
  dsimp only
  rcases wk_vc v1 with hx | ⟨j, h8, hj, rfl⟩ | ⟨j, hj, rfl⟩
  · unfold wpX_isStep wpY_add
    exact br_t hx (br_t rfl (br_t hx ⟨rfl, i_mk h⟩))
  · have l7 : 7 < nI j := nI_lt (a := 7) (by omega) hj
    unfold wpX_isStep wpY_add
    exact br_f (nI_pos hj) (br_t l7 (br_t rfl (br_f (nI_pos hj) (br_t l7 ⟨rfl, i_mk h⟩))))
  · refine wx_isStep hj (fun hs => br_f (by decide) ?_) (fun hs => br_t rfl (wy_add hj (fun w => absurd w hs) (fun _ => ⟨rfl, i_mk h⟩)))
    by_cases p6 : p < 6
    · have i6 : vp_in (nI p) 6 := vp_in_nI p6 (by omega)
      have l6 : nI p < 6 := nI_lt (b := 6) p6 (by decide)
      refine br_t l6 ⟨i6, nm_e (br_c (fun y => ?_) (fun y => ?_))⟩
      · unfold wX_add_50
        refine ⟨i6, nm_e (nm_r (nI_1 p) (wy_add hj (fun _ => ?_) (fun w => absurd hs w)))⟩
        unfold wY_add_41
        refine br_t l6 ⟨i6, nm_e ⟨i6, nm_e (nm_r (nI_1 p) ⟨rfl, ?_⟩)⟩⟩
        refine i_mk ⟨hm, p6, hB, hE, eB, eE, wk_uB hK hj, wk_uE eK rfl, fun i hi => ?_⟩
        have j4 : 4 < j := (nI_ltI (a := 4) (by decide) (by omega)).mp y
        unfold upd
        by_cases q : i = (nI p).toNatClampNeg
        · rw [if_pos q] at hi
          omega
        · rw [if_neg q] at hi
          rw [if_neg q, if_neg q]
          exact eV i hi
      · unfold wX_add_50
        refine ⟨i6, nm_e (nm_r (nI_1 p) (wy_add hj (fun _ => ?_) (fun w => absurd hs w)))⟩
        unfold wY_add_41
        refine br_t l6 ⟨i6, nm_e ⟨i6, nm_e (nm_r (nI_1 p) ⟨rfl, ?_⟩)⟩⟩
        refine i_mk ⟨hm, p6, hB, hE, eB, eE, wk_uB hK hj, wk_uE eK rfl, fun i hi => ?_⟩
        unfold upd
        by_cases q : i = (nI p).toNatClampNeg
        · rw [if_pos q, if_pos q]
        · rw [if_neg q] at hi
          rw [if_neg q, if_neg q]
          exact eV i hi
    · have l6 : ¬ nI p < 6 := nI_nlt (b := 6) (by omega) (by omega)
      refine br_f l6 (wy_add hj (fun _ => ?_) (fun w => absurd hs w))
      unfold wY_add_41
      exact br_f l6 ⟨rfl, i_mk h⟩
theorem i_vc_drop {k : Nat} {u : SX} {v : SY} (I : i_Rel k u v) (hk : k + 4 ≤ 2048) : wpX_drop (fun r u' => wpY_drop (fun r' v' => r' = r ∧ i_Rel (k + 4) u' v') v) u := by
  obtain ⟨m, p, st, M, Ba, Ea, L, Ka, Va, Vb, n1, x1, n2, x2, B, E, Kn, rfl, rfl, h⟩ := I
  obtain ⟨hm, hp, hB, hE, eB, eE, hK, eK, eV⟩ := id h
  unfold wpX_drop wpY_drop
  dsimp only
  by_cases p0 : p = 0
  · subst p0
    exact br_t rfl (br_t rfl ⟨rfl, i_mk h⟩)
  · obtain ⟨q, rfl⟩ : ∃ q, p = q + 1 := ⟨p - 1, by omega⟩
    have ne : ¬ nI (q + 1) = 0 := nI_ne0 (by omega) (by omega)
    exact br_f ne (nm_r (nI_pred q) (br_f ne (nm_r (nI_pred q) ⟨rfl, i_mk ⟨hm, by omega, hB, hE, eB, eE, hK, eK, eV⟩⟩)))
theorem i_vc_from {k : Nat} {u : SX} {v : SY} (I : i_Rel k u v) (hk : k + 4 ≤ 2048) (v1 : Int32) : wpX_from (fun r u' => wpY_from (fun r' v' => r' = r ∧ i_Rel (k + 4) u' v') v v1) u v1 := by
  obtain ⟨m, p, st, M, Ba, Ea, L, Ka, Va, Vb, n1, x1, n2, x2, B, E, Kn, rfl, rfl, h⟩ := I
  obtain ⟨hm, hp, hB, hE, eB, eE, hK, eK, eV⟩ := id h
  unfold wpX_from wpY_from
  dsimp only
  exact br_c (fun y => br_t y ⟨rfl, i_mk h⟩) (fun y => br_c (fun w => br_f y (br_t w ⟨rfl, i_mk h⟩)) (fun w => br_f y (br_f w ⟨rfl, i_mk h⟩)))
theorem i_vc_at {k : Nat} {u : SX} {v : SY} (I : i_Rel k u v) (hk : k + 4 ≤ 2048) (v1 : Int32) : wpX_at (fun r u' => wpY_at (fun r' v' => r' = r ∧ i_Rel (k + 4) u' v') v v1) u v1 := by
  obtain ⟨m, p, st, M, Ba, Ea, L, Ka, Va, Vb, n1, x1, n2, x2, B, E, Kn, rfl, rfl, h⟩ := I
  obtain ⟨hm, hp, hB, hE, eB, eE, hK, eK, eV⟩ := id h
  unfold wpX_at wpY_at
  dsimp only
  refine wx_vtx v1 (fun v hv e => br_f (by decide) ?_) (fun hv => br_t rfl (wy_walk (by omega) hm hB hE eB eE hK eK eV (fun now2 nx2 hw2 => ⟨1, ?_⟩)))
  · subst e
    refine wx_walk (by omega) hm hB hE eB eE hK eK (fun now' nx' hw => ?_)
    dsimp only
    refine wx_countAt hv hw (wy_walk (by omega) hm hB hE eB eE hK eK eV (fun now2 nx2 hw2 => ?_))
    dsimp only
    exact wy_atL hv hw2 ⟨rfl, i_mk h⟩
  · rw [wY_at_12]
    exact br_f (by decide) (wy_vf hv (br_t rfl ⟨rfl, i_mk h⟩))
theorem i_vc_walkers {k : Nat} {u : SX} {v : SY} (I : i_Rel k u v) (hk : k + 4 ≤ 2048) : wpX_walkers (fun r u' => wpY_walkers (fun r' v' => r' = r ∧ i_Rel (k + 4) u' v') v) u := by
  obtain ⟨m, p, st, M, Ba, Ea, L, Ka, Va, Vb, n1, x1, n2, x2, B, E, Kn, rfl, rfl, h⟩ := I
  obtain ⟨hm, hp, hB, hE, eB, eE, hK, eK, eV⟩ := id h
  unfold wpX_walkers wpY_walkers
  dsimp only
  refine wx_walk (by omega) hm hB hE eB eE hK eK (fun now' nx' hw => ?_)
  dsimp only
  refine wx_countAll hw (wy_after (Nat.le_refl p) hp hm hB hE eB eE hK eK eV (fun now2 nx2 => ?_))
  dsimp only
  exact ⟨rfl, i_mk h⟩
theorem i_vc_after {k : Nat} {u : SX} {v : SY} (I : i_Rel k u v) (hk : k + 4 ≤ 2048) (v1 : Int32) : wpX_after (fun r u' => wpY_after (fun r' v' => r' = r ∧ i_Rel (k + 4) u' v') v v1) u v1 := by
  obtain ⟨m, p, st, M, Ba, Ea, L, Ka, Va, Vb, n1, x1, n2, x2, B, E, Kn, rfl, rfl, h⟩ := I
  obtain ⟨hm, hp, hB, hE, eB, eE, hK, eK, eV⟩ := id h
  unfold wpX_after
  dsimp only
  by_cases hx : v1 < 0
  · refine br_t hx ?_
    unfold wpY_after
    exact br_t hx ⟨rfl, i_mk h⟩
  · obtain ⟨j, hj, rfl⟩ := nI_of hx
    refine br_f hx ?_
    by_cases hjp : j ≤ p
    · refine br_t (nI_le hjp (by omega)) (wx_walk (by omega) hm hB hE eB eE hK eK (fun now' nx' hw => ?_))
      dsimp only
      exact wx_countAll hw (wy_after hjp hp hm hB hE eB eE hK eK eV (fun now2 nx2 => ⟨rfl, i_mk h⟩))
    · have nl : ¬ nI j ≤ nI p := nI_ge (by omega) hj
      refine br_f nl ?_
      unfold wpY_after
      exact br_f hx (br_f nl ⟨rfl, i_mk h⟩)
theorem i_vc_between {k : Nat} {u : SX} {v : SY} (I : i_Rel k u v) (hk : k + 4 ≤ 2048) (v1 : Int32) (v2 : Int32) : wpX_between (fun r u' => wpY_between (fun r' v' => r' = r ∧ i_Rel (k + 4) u' v') v v1 v2) u v1 v2 := by
  obtain ⟨m, p, st, M, Ba, Ea, L, Ka, Va, Vb, n1, x1, n2, x2, B, E, Kn, rfl, rfl, h⟩ := I
  obtain ⟨hm, hp, hB, hE, eB, eE, hK, eK, eV⟩ := id h
  unfold wpX_between wpY_between
  dsimp only
  refine wx_vtx v1 (fun s hs es => br_f (by decide) ?_) (fun hv => br_t rfl (wy_walk (by omega) hm hB hE eB eE hK eK eV (fun now2 nx2 hw2 => ?_)))
  · subst es
    refine wx_vtx v2 (fun v hv ev => br_f (by decide) ?_) (fun hv => br_t rfl (wy_walk (by omega) hm hB hE eB eE hK eK eV (fun now2 nx2 hw2 => ?_)))
    · subst ev
      refine wx_walk (by omega) hm hB hE eB eE hK eK (fun now' nx' hw => ?_)
      dsimp only
      have i1 : vp_in (nI (8 * s + v)) 64 := vp_in_nI (by omega) (by omega)
      have c1 : (nI (8 * s + v)).toNatClampNeg = 8 * s + v := nI_clamp (by omega)
      rw [wk_ix, c1]
      refine ⟨i1, wy_walk (by omega) hm hB hE eB eE hK eK eV (fun now2 nx2 hw2 => ?_)⟩
      dsimp only
      rw [wk_iy, c1]
      exact wy_vt hs (br_f (by decide) (wy_vt hv (br_f (by decide) ⟨i1, by rw [hw _ (by omega), hw2 _ (by omega)], i_mk h⟩)))
    · dsimp only
      exact wy_vt hs (br_f (by decide) (wy_vf hv (br_t rfl ⟨rfl, i_mk h⟩)))
  · dsimp only
    exact wy_vf hv (br_t rfl ⟨rfl, i_mk h⟩)
theorem i_vc_reached {k : Nat} {u : SX} {v : SY} (I : i_Rel k u v) (hk : k + 4 ≤ 2048) : wpX_reached (fun r u' => wpY_reached (fun r' v' => r' = r ∧ i_Rel (k + 4) u' v') v) u := by
  obtain ⟨m, p, st, M, Ba, Ea, L, Ka, Va, Vb, n1, x1, n2, x2, B, E, Kn, rfl, rfl, h⟩ := I
  obtain ⟨hm, hp, hB, hE, eB, eE, hK, eK, eV⟩ := id h
  have hb : ∀ c, c < 64 → wk_g B E L M m Kn Va st p c ≤ 64000000 := fun c hc => wk_gB6 hB hE hm hp hc
  unfold wpX_reached wpY_reached
  dsimp only
  refine wx_walk (by omega) hm hB hE eB eE hK eK (fun now' nx' hw => ?_)
  dsimp only
  refine wx_reached hb hw (fun w hw1 => wy_walk (by omega) hm hB hE eB eE hK eK eV (fun now2 nx2 hw2 => ?_))
  dsimp only
  refine wy_reached (fun c hc => by have := hb c hc; omega) hw2 (fun w2 hw3 => ⟨b_ext (fun i hi => by rw [hw3 i hi, hw1 i hi]), i_mk h⟩)
theorem i_vc_startsAt {k : Nat} {u : SX} {v : SY} (I : i_Rel k u v) (hk : k + 4 ≤ 2048) (v1 : Int32) : wpX_startsAt (fun r u' => wpY_startsAt (fun r' v' => r' = r ∧ i_Rel (k + 4) u' v') v v1) u v1 := by
  obtain ⟨m, p, st, M, Ba, Ea, L, Ka, Va, Vb, n1, x1, n2, x2, B, E, Kn, rfl, rfl, h⟩ := I
  obtain ⟨hm, hp, hB, hE, eB, eE, hK, eK, eV⟩ := id h
  have hb : ∀ c, c < 64 → wk_g B E L M m Kn Va st p c < 2 ^ 31 := fun c hc => by have := wk_gB6 (L := L) (M := M) (K := Kn) (V := Va) (st := st) hB hE hm hp hc; omega
  unfold wpX_startsAt wpY_startsAt
  dsimp only
  refine wx_vtx v1 (fun v hv e => br_f (by decide) ?_) (fun hv => br_t rfl (wy_walk (by omega) hm hB hE eB eE hK eK eV (fun now2 nx2 hw2 => ⟨1, ?_⟩)))
  · subst e
    refine wx_walk (by omega) hm hB hE eB eE hK eK (fun now' nx' hw => ?_)
    dsimp only
    refine wx_startsAt hv hb hw (wy_walk (by omega) hm hB hE eB eE hK eK eV (fun now2 nx2 hw2 => ?_))
    dsimp only
    exact wy_startsAt hv hb hw2 ⟨rfl, i_mk h⟩
  · rw [wY_startsAt_12]
    exact br_f (by decide) (wy_vf hv (br_t rfl ⟨rfl, i_mk h⟩))
theorem i_vc_diesAfter {k : Nat} {u : SX} {v : SY} (I : i_Rel k u v) (hk : k + 4 ≤ 2048) : wpX_diesAfter (fun r u' => wpY_diesAfter (fun r' v' => r' = r ∧ i_Rel (k + 4) u' v') v) u := by
  obtain ⟨m, p, st, M, Ba, Ea, L, Ka, Va, Vb, n1, x1, n2, x2, B, E, Kn, rfl, rfl, h⟩ := I
  obtain ⟨hm, hp, hB, hE, eB, eE, hK, eK, eV⟩ := id h
  refine ⟨p + 2, wx_dies hp hm hB hE eB eE hK eK (p + 1) 0 n1 x1 (by omega) (fun now nx => ⟨p + 2, wy_dies hp hm hB hE eB eE hK eK eV (p + 1) 0 n2 x2 (by omega) (fun now2 nx2 => ⟨rfl, i_mk h⟩)⟩)⟩
theorem i_vc_edges {k : Nat} {u : SX} {v : SY} (I : i_Rel k u v) (hk : k + 4 ≤ 2048) : wpX_edges (fun r => wpY_edges (fun r' => r' = r ∧ i_Rel (k + 4) u v) v) u := by
  obtain ⟨m, p, st, M, Ba, Ea, L, Ka, Va, Vb, n1, x1, n2, x2, B, E, Kn, rfl, rfl, h⟩ := I
  obtain ⟨hm, hp, hB, hE, eB, eE, hK, eK, eV⟩ := id h
  exact ⟨rfl, i_mk h⟩
end WKO

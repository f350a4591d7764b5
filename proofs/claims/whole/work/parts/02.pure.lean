section WKP
/-! sums over naturals -/
def wk_sm (f : Nat → Nat) : Nat → Nat
  | 0 => 0
  | m + 1 => wk_sm f m + f m
theorem wk_smC {f g : Nat → Nat} {m : Nat} (h : ∀ e, e < m → f e = g e) : wk_sm f m = wk_sm g m := by
  induction m with
  | zero => rfl
  | succ m ih =>
    show wk_sm f m + f m = wk_sm g m + g m
    rw [ih (fun e he => h e (by omega)), h m (by omega)]
theorem wk_smA (f g : Nat → Nat) (m : Nat) : wk_sm (fun e => f e + g e) m = wk_sm f m + wk_sm g m := by
  induction m with
  | zero => rfl
  | succ m ih =>
    show wk_sm (fun e => f e + g e) m + (f m + g m) = (wk_sm f m + f m) + (wk_sm g m + g m)
    rw [ih]; omega
theorem wk_smZ {f : Nat → Nat} {m : Nat} (h : ∀ e, e < m → f e = 0) : wk_sm f m = 0 := by
  induction m with
  | zero => rfl
  | succ m ih =>
    show wk_sm f m + f m = 0
    rw [ih (fun e he => h e (by omega)), h m (by omega)]
theorem wk_smB {f : Nat → Nat} {m K : Nat} (h : ∀ e, e < m → f e ≤ K) : wk_sm f m ≤ m * K := by
  induction m with
  | zero => exact Nat.zero_le _
  | succ m ih =>
    show wk_sm f m + f m ≤ (m + 1) * K
    have h1 := ih (fun e he => h e (by omega))
    have h2 := h m (by omega)
    rw [Nat.succ_mul]; omega
theorem wk_smL {f : Nat → Nat} {m e : Nat} (h : e < m) : f e ≤ wk_sm f m := by
  induction m with
  | zero => omega
  | succ m ih =>
    show f e ≤ wk_sm f m + f m
    by_cases z : e < m
    · have := ih z; omega
    · have z2 : e = m := by omega
      subst z2; omega
theorem wk_smP {f : Nat → Nat} {m : Nat} (h : 0 < wk_sm f m) : ∃ e, e < m ∧ 0 < f e := by
  induction m with
  | zero => exact absurd h (Nat.lt_irrefl 0)
  | succ m ih =>
    have h' : 0 < wk_sm f m + f m := h
    by_cases z : 0 < f m
    · exact ⟨m, by omega, z⟩
    · obtain ⟨e, he, h2⟩ := ih (by omega)
      exact ⟨e, by omega, h2⟩
/-! the pure step -/
/-- does edge e fit label n -/
def wk_F (L : Nat → Int32) (n : Int32) (e : Nat) : Bool := decide (n = 2 ∨ L e = n)
/-- what comes over the edges from P's ends to Q's -/
def wk_O (P Q : Nat → Nat) (F : Nat → Bool) (g : Nat → Nat) (c m : Nat) : Nat :=
  wk_sm (fun e => if F e = true ∧ Q e = c % 8 then g (8 * (c / 8) + P e) else 0) m
/-- is there a way out of v among the first m edges -/
def wk_W (P : Nat → Nat) (F : Nat → Bool) (v : Nat) : Nat → Bool
  | 0 => false
  | m + 1 => wk_W P F v m || (F m && decide (P m = v))
/-- is there a walker at v with a start below s -/
def wk_L (g : Nat → Nat) (v : Nat) : Nat → Bool
  | 0 => false
  | s + 1 => wk_L g v s || decide (0 < g (8 * s + v))
def wk_st (B E : Nat → Nat) (L M : Nat → Int32) (m k : Nat) (n : Int32) (g : Nat → Nat) (c : Nat) : Nat :=
  if k = 0 then wk_O B E (wk_F L n) g c m
  else if k = 1 then wk_O E B (wk_F L n) g c m
  else if k = 2 then wk_O B E (wk_F L n) g c m + wk_O E B (wk_F L n) g c m
  else if k = 3 then wk_O B E (wk_F L n) g c m + (if wk_W B (wk_F L n) (c % 8) m = false then g c else 0)
  else if k = 4 then (if n ≤ M (c % 8) then g c else 0)
  else if k = 5 then (if c / 8 = c % 8 then 0 else g c)
  else if k = 6 then (if c / 8 = c % 8 then g c else 0)
  else (if 0 < g c ∧ wk_L g (c % 8) (c / 8) = false then 1 else 0)
/-- bit s of the starts -/
def wk_b (st : Int32) (s : Nat) : Nat := (st >>> (nI s &&& 31)).toBitVec.toNat % 2 ^ 1
def wk_g0 (st : Int32) (c : Nat) : Nat := if c / 8 = c % 8 then wk_b st (c / 8) else 0
def wk_g (B E : Nat → Nat) (L M : Nat → Int32) (m : Nat) (K : Nat → Nat) (V : Nat → Int32) (st : Int32) : Nat → Nat → Nat
  | 0 => wk_g0 st
  | i + 1 => wk_st B E L M m (K i) (V i) (wk_g B E L M m K V st i)
theorem wk_bE (st : Int32) (s : Nat) : (st >>> (nI s &&& 31)) &&& 1 = nI (wk_b st s) := pk_and _ 1 (by decide)
theorem wk_b2 (st : Int32) (s : Nat) : wk_b st s < 2 := Nat.mod_lt _ (by decide)
/-- beyond 4 the step's number is not used -/
theorem wk_stN {B E : Nat → Nat} {L M : Nat → Int32} {m k : Nat} {n n' : Int32} (h : k ≤ 4 → n = n') : wk_st B E L M m k n = wk_st B E L M m k n' := by
  by_cases z : k ≤ 4
  · rw [h z]
  · funext g c
    unfold wk_st
    have h0 : ¬ k = 0 := by omega
    have h1 : ¬ k = 1 := by omega
    have h2 : ¬ k = 2 := by omega
    have h3 : ¬ k = 3 := by omega
    have h4 : ¬ k = 4 := by omega
    simp only [h0, h1, h2, h3, h4, if_false]
theorem wk_OB {P Q : Nat → Nat} {F : Nat → Bool} {g : Nat → Nat} {c m K : Nat} (hP : ∀ e, P e < 8) (hc : c < 64) (h : ∀ c, c < 64 → g c ≤ K) (hm : m ≤ 10) : wk_O P Q F g c m ≤ 10 * K := by
  refine Nat.le_trans (wk_smB (K := K) (fun e _ => ?_)) (Nat.mul_le_mul_right K hm)
  split
  · exact h _ (by have := hP e; omega)
  · exact Nat.zero_le _
theorem wk_stB {B E : Nat → Nat} {L M : Nat → Int32} {m k : Nat} {n : Int32} {g : Nat → Nat} {K : Nat} (hB : ∀ e, B e < 8) (hE : ∀ e, E e < 8) (hm : m ≤ 10) (hK : 1 ≤ K) (h : ∀ c, c < 64 → g c ≤ K) : ∀ c, c < 64 → wk_st B E L M m k n g c ≤ 20 * K := by
  intro c hc
  have h1 : wk_O B E (wk_F L n) g c m ≤ 10 * K := wk_OB hB hc h hm
  have h2 : wk_O E B (wk_F L n) g c m ≤ 10 * K := wk_OB hE hc h hm
  have h3 := h c hc
  unfold wk_st
  split
  · omega
  · split
    · omega
    · split
      · omega
      · split
        · split <;> omega
        · split
          · split <;> omega
          · split
            · split <;> omega
            · split
              · split <;> omega
              · split <;> omega
theorem wk_gB {B E : Nat → Nat} {L M : Nat → Int32} {m : Nat} {K : Nat → Nat} {V : Nat → Int32} {st : Int32} (hB : ∀ e, B e < 8) (hE : ∀ e, E e < 8) (hm : m ≤ 10) : ∀ i c, c < 64 → wk_g B E L M m K V st i c ≤ 20 ^ i := by
  intro i
  induction i with
  | zero =>
    intro c hc
    show wk_g0 st c ≤ 1
    have := wk_b2 st (c / 8)
    unfold wk_g0
    split <;> omega
  | succ i ih =>
    intro c hc
    have h := wk_stB (L := L) (M := M) (k := K i) (n := V i) hB hE hm (Nat.pow_pos (by decide : 0 < 20)) ih c hc
    rw [Nat.pow_succ, Nat.mul_comm]
    exact h
theorem wk_gB6 {B E : Nat → Nat} {L M : Nat → Int32} {m : Nat} {K : Nat → Nat} {V : Nat → Int32} {st : Int32} (hB : ∀ e, B e < 8) (hE : ∀ e, E e < 8) (hm : m ≤ 10) {i c : Nat} (hi : i ≤ 6) (hc : c < 64) : wk_g B E L M m K V st i c ≤ 64000000 :=
  Nat.le_trans (wk_gB hB hE hm i c hc) (Nat.le_trans (Nat.pow_le_pow_right (by decide) hi) (by decide))
/-! the reference's way: cell by cell -/
def wk_d (B E : Nat → Nat) (F : Nat → Bool) (o i : Bool) (g : Nat → Nat) (c x e : Nat) : Nat :=
  (if F e = true ∧ o = true ∧ E e = x % 8 ∧ 8 * (x / 8) + B e = c then g c else 0) + (if F e = true ∧ i = true ∧ B e = x % 8 ∧ 8 * (x / 8) + E e = c then g c else 0)
def wk_t (B E : Nat → Nat) (F : Nat → Bool) (o i : Bool) (g : Nat → Nat) (c x e : Nat) : Nat :=
  (if F e = true ∧ o = true ∧ E e = x % 8 ∧ 8 * (x / 8) + B e < c then g (8 * (x / 8) + B e) else 0) + (if F e = true ∧ i = true ∧ B e = x % 8 ∧ 8 * (x / 8) + E e < c then g (8 * (x / 8) + E e) else 0)
/-- what the reference has stored at x when the cells below c are done -/
def wk_T (B E : Nat → Nat) (F : Nat → Bool) (o i y : Bool) (m : Nat) (g : Nat → Nat) (c x : Nat) : Nat :=
  wk_sm (wk_t B E F o i g c x) m + (if y = true ∧ x < c ∧ wk_W B F (x % 8) m = false then g x else 0)
theorem wk_if1 {p : Prop} {q c : Nat} {g : Nat → Nat} [Decidable p] : (if p ∧ q < c + 1 then g q else 0) = (if p ∧ q < c then g q else 0) + (if p ∧ q = c then g c else 0) := by
  by_cases hp : p
  · by_cases h1 : q < c
    · rw [if_pos ⟨hp, by omega⟩, if_pos ⟨hp, h1⟩, if_neg (fun z => by omega), Nat.add_zero]
    · by_cases h2 : q = c
      · subst h2
        rw [if_pos ⟨hp, by omega⟩, if_neg (fun z => h1 z.2), if_pos ⟨hp, rfl⟩, Nat.zero_add]
      · rw [if_neg (fun z => by omega), if_neg (fun z => h1 z.2), if_neg (fun z => h2 z.2)]
  · rw [if_neg (fun z => hp z.1), if_neg (fun z => hp z.1), if_neg (fun z => hp z.1)]
theorem wk_tS (B E : Nat → Nat) (F : Nat → Bool) (o i : Bool) (g : Nat → Nat) (c x e : Nat) : wk_t B E F o i g (c + 1) x e = wk_t B E F o i g c x e + wk_d B E F o i g c x e := by
  unfold wk_t wk_d
  have h1 := wk_if1 (p := F e = true ∧ o = true ∧ E e = x % 8) (q := 8 * (x / 8) + B e) (c := c) (g := g)
  have h2 := wk_if1 (p := F e = true ∧ i = true ∧ B e = x % 8) (q := 8 * (x / 8) + E e) (c := c) (g := g)
  simp only [and_assoc] at h1 h2
  rw [h1, h2]; omega
theorem wk_TS (B E : Nat → Nat) (F : Nat → Bool) (o i y : Bool) (m : Nat) (g : Nat → Nat) (c x : Nat) : wk_T B E F o i y m g (c + 1) x = wk_T B E F o i y m g c x + wk_sm (wk_d B E F o i g c x) m + (if y = true ∧ x = c ∧ wk_W B F (x % 8) m = false then g c else 0) := by
  unfold wk_T
  have h1 : wk_sm (wk_t B E F o i g (c + 1) x) m = wk_sm (wk_t B E F o i g c x) m + wk_sm (wk_d B E F o i g c x) m := by
    rw [← wk_smA]; exact wk_smC (fun e _ => wk_tS B E F o i g c x e)
  have h2 := wk_if1 (p := y = true ∧ wk_W B F (x % 8) m = false) (q := x) (c := c) (g := g)
  have h3 : ∀ r : Prop, (y = true ∧ r ∧ wk_W B F (x % 8) m = false) = ((y = true ∧ wk_W B F (x % 8) m = false) ∧ r) := fun r => propext ⟨fun z => ⟨⟨z.1, z.2.2⟩, z.2.1⟩, fun z => ⟨z.1.1, z.2, z.1.2⟩⟩
  simp only [h3]
  rw [h1, h2]; omega
theorem wk_T0 (B E : Nat → Nat) (F : Nat → Bool) (o i y : Bool) (m : Nat) (g : Nat → Nat) (x : Nat) : wk_T B E F o i y m g 0 x = 0 := by
  unfold wk_T
  rw [if_neg (fun z => by omega), wk_smZ]
  intro e _
  unfold wk_t
  rw [if_neg (fun z => by omega), if_neg (fun z => by omega)]
theorem wk_dZ {B E : Nat → Nat} {F : Nat → Bool} {o i : Bool} {g : Nat → Nat} {c x m : Nat} (h : g c = 0) : wk_sm (wk_d B E F o i g c x) m = 0 := by
  refine wk_smZ (fun e _ => ?_)
  unfold wk_d
  rw [h]; simp
theorem wk_TZ {B E : Nat → Nat} {F : Nat → Bool} {o i y : Bool} {m : Nat} {g : Nat → Nat} {c : Nat} (h : g c = 0) (x : Nat) : wk_T B E F o i y m g (c + 1) x = wk_T B E F o i y m g c x := by
  rw [wk_TS, wk_dZ h, h]; simp
theorem wk_Te {B E : Nat → Nat} {F : Nat → Bool} {o i y : Bool} {m : Nat} {g : Nat → Nat} {x : Nat} (hB : ∀ e, B e < 8) (hE : ∀ e, E e < 8) (hx : x < 64) : wk_T B E F o i y m g 64 x = (if o = true then wk_O B E F g x m else 0) + (if i = true then wk_O E B F g x m else 0) + (if y = true then (if wk_W B F (x % 8) m = false then g x else 0) else 0) := by
  unfold wk_T
  have h1 : wk_sm (wk_t B E F o i g 64 x) m = (if o = true then wk_O B E F g x m else 0) + (if i = true then wk_O E B F g x m else 0) := by
    have ha : ∀ e, 8 * (x / 8) + B e < 64 := fun e => by have := hB e; omega
    have hb : ∀ e, 8 * (x / 8) + E e < 64 := fun e => by have := hE e; omega
    unfold wk_O
    cases o <;> cases i
    · simp only [Bool.false_eq_true, if_false]
      exact wk_smZ (fun e _ => by unfold wk_t; simp)
    · simp only [Bool.false_eq_true, if_false, if_true, Nat.zero_add]
      exact wk_smC (fun e _ => by unfold wk_t; simp [hb e])
    · simp only [Bool.false_eq_true, if_false, if_true, Nat.add_zero]
      exact wk_smC (fun e _ => by unfold wk_t; simp [ha e])
    · simp only [if_true]
      rw [← wk_smA]
      exact wk_smC (fun e _ => by unfold wk_t; simp [ha e, hb e])
  rw [h1]
  cases y
  · simp
  · simp [hx]
/-- how many edges the reference counts at v -/
def wk_N (B E : Nat → Nat) (F : Nat → Bool) (o i : Bool) (v : Nat) : Nat → Nat
  | 0 => 0
  | m + 1 => wk_N B E F o i v m + (if F m = true ∧ o = true ∧ B m = v then 1 else 0) + (if F m = true ∧ i = true ∧ E m = v then 1 else 0)
theorem wk_NB (B E : Nat → Nat) (F : Nat → Bool) (o i : Bool) (v : Nat) : ∀ m, wk_N B E F o i v m ≤ 2 * m := by
  intro m
  induction m with
  | zero => exact Nat.le_refl _
  | succ m ih =>
    show wk_N B E F o i v m + _ + _ ≤ _
    split <;> split <;> omega
theorem wk_NW (B E : Nat → Nat) (F : Nat → Bool) (v : Nat) : ∀ m, wk_N B E F true false v m = 0 ↔ wk_W B F v m = false := by
  intro m
  induction m with
  | zero => exact ⟨fun _ => rfl, fun _ => rfl⟩
  | succ m ih =>
    show wk_N B E F true false v m + (if F m = true ∧ true = true ∧ B m = v then 1 else 0) + (if F m = true ∧ false = true ∧ E m = v then 1 else 0) = 0 ↔ (wk_W B F v m || (F m && decide (B m = v))) = false
    rw [if_neg (c := F m = true ∧ false = true ∧ E m = v) (fun z => nomatch z.2.1), Bool.or_eq_false_iff, ← ih]
    by_cases h : F m = true ∧ B m = v
    · rw [if_pos ⟨h.1, rfl, h.2⟩, h.1, decide_eq_true h.2]
      exact ⟨fun z => by omega, fun z => nomatch z.2⟩
    · rw [if_neg (fun z => h ⟨z.1, z.2.2⟩)]
      refine ⟨fun z => ⟨by omega, ?_⟩, fun z => by omega⟩
      cases hf : F m
      · rfl
      · exact decide_eq_false (fun z2 => h ⟨hf, z2⟩)
theorem wk_LE {g : Nat → Nat} {v : Nat} : ∀ s, wk_L g v s = true → ∃ r, r < s ∧ 0 < g (8 * r + v) := by
  intro s
  induction s with
  | zero => intro h; exact nomatch h
  | succ s ih =>
    intro h
    have h' : (wk_L g v s || decide (0 < g (8 * s + v))) = true := h
    rw [Bool.or_eq_true] at h'
    rcases h' with h' | h'
    · obtain ⟨r, hr, h2⟩ := ih h'
      exact ⟨r, by omega, h2⟩
    · exact ⟨s, by omega, of_decide_eq_true h'⟩
theorem wk_LI {g : Nat → Nat} {v r : Nat} : ∀ s, r < s → 0 < g (8 * r + v) → wk_L g v s = true := by
  intro s
  induction s with
  | zero => intro h; omega
  | succ s ih =>
    intro h h2
    show (wk_L g v s || decide (0 < g (8 * s + v))) = true
    rw [Bool.or_eq_true]
    by_cases z : r < s
    · exact Or.inl (ih z h2)
    · have z2 : r = s := by omega
      subst z2
      exact Or.inr (decide_eq_true h2)
/-! numbers, bits, stores -/
theorem wk_upd {a : Nat → Int32} {i : Nat} {x : Int32} (j : Nat) : upd a i x j = if j = i then x else a j := rfl
theorem wk_8 : (8 : Int32) = nI 8 := by decide
theorem wk_10 : (10 : Int32) = nI 10 := by decide
theorem wk_6 : (6 : Int32) = nI 6 := by decide
theorem wk_64 : (64 : Int32) = nI 64 := by decide
theorem wk_pos {a : Nat} (h : a < 2 ^ 31) : (0 : Int32) < nI a ↔ 0 < a := by rw [← nI_0, nI_ltI (by omega) h]
theorem wk_le0 {a : Nat} (h : a < 2 ^ 31) : nI a ≤ (0 : Int32) ↔ a = 0 := by rw [← nI_0, nI_leI h (by omega)]; omega
theorem wk_eq0 {a : Nat} (h : a < 2 ^ 31) : nI a = (0 : Int32) ↔ a = 0 := by rw [← nI_0, nI_eq h (by omega)]
theorem wk_bt0 (x : Int32) : (x &&& 1) = 0 ↔ bt x 0 = false := by
  rw [pk_and x 1 (by decide), wk_eq0 (Nat.lt_trans (Nat.mod_lt _ (by decide)) (by decide))]
  show _ ↔ x.toBitVec.toNat.testBit 0 = false
  rw [Nat.testBit_zero, decide_eq_false_iff_not]
  omega
theorem wk_btv (x : Int32) {v : Nat} (hv : v < 8) : ((x >>> (nI v &&& 31)) &&& 1) = 0 ↔ bt x v = false := by
  rw [wk_bt0, b_sshr v (by omega) x (by omega), if_pos (by omega), Nat.add_zero]
theorem wk_bt1 : ∀ i, i < 32 → bt 1 i = decide (i = 0) := by decide +kernel
/-- one bit more -/
theorem wk_btO (x : Int32) {v i : Nat} (hv : v < 32) (hi : i < 32) : bt (x ||| ((1 : Int32) <<< (nI v &&& 31))) i = (bt x i || decide (i = v)) := by
  rw [b_or, b_shl v hv 1 hi]
  congr 1
  by_cases h : v ≤ i
  · rw [wk_bt1 _ (by omega), decide_eq_true h, Bool.true_and]
    by_cases h2 : i = v
    · rw [decide_eq_true h2, decide_eq_true (by omega)]
    · rw [decide_eq_false h2, decide_eq_false (by omega)]
  · rw [decide_eq_false h, decide_eq_false (by omega), Bool.false_and]
/-- a picture of 64 cells -/
def wk_P (a : Nat → Int32) (g : Nat → Nat) : Prop := ∀ c, c < 64 → a c = nI (g c)
theorem wk_PC {a : Nat → Int32} {g h : Nat → Nat} (H : wk_P a g) (e : ∀ c, c < 64 → g c = h c) : wk_P a h := fun c hc => by rw [H c hc, e c hc]
theorem wk_PU {a : Nat → Int32} {g h : Nat → Nat} {i : Nat} {x : Int32} (H : wk_P a g) (h1 : x = nI (h i)) (h2 : ∀ c, c < 64 → c ≠ i → g c = h c) : wk_P (upd a i x) h := by
  intro c hc
  by_cases z : c = i
  · subst z; rw [pk_us]; exact h1
  · rw [pk_un z, H c hc, h2 c hc z]
/-- starts seen at v: the same set on both sides -/
def wk_S (g : Nat → Nat) (v : Nat) : Nat → Int32
  | 0 => 0
  | s + 1 => if 0 < g (8 * s + v) then wk_S g v s ||| ((1 : Int32) <<< (nI s &&& 31)) else wk_S g v s
end WKP

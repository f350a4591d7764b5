section
theorem pk_us {f : Nat → Int32} {k : Nat} {x : Int32} : upd f k x k = x := if_pos rfl
theorem pk_un {f : Nat → Int32} {k j : Nat} {x : Int32} (h : j ≠ k) : upd f k x j = f j := if_neg h
theorem pk_sub {a b : Nat} (h : b ≤ a) : nI a - nI b = nI (a - b) := by
  obtain ⟨c, rfl⟩ : ∃ c, a = c + b := ⟨a - b, by omega⟩
  rw [← nI_add, Int32.add_sub_cancel, Nat.add_sub_cancel]
theorem pk_m1 (n : Nat) : nI (n + 1) + (-1) = nI n := by
  rw [← nI_1, Int32.add_assoc, show (1 : Int32) + (-1) = 0 from rfl, Int32.add_zero]
theorem pk_mul (a b : Nat) : nI a * nI b = nI (a * b) := (Int32.ofNat_mul a b).symm
theorem pk_div {a d : Nat} (ha : a < 2 ^ 31) (h0 : 0 < d) (hd : d < 2 ^ 31) : nI a / nI d = nI (a / d) := by
  apply Int32.toInt_inj.mp
  rw [lg_idiv_nonneg (by rw [nI_toInt ha]; omega) (by rw [nI_toInt hd]; omega), nI_toInt ha, nI_toInt hd, nI_toInt (Nat.lt_of_le_of_lt (Nat.div_le_self a d) ha)]
  first | rfl | exact (Int.natCast_ediv _ _).symm
theorem pk_rem {a d : Nat} (ha : a < 2 ^ 31) (h0 : 0 < d) (hd : d < 2 ^ 31) : nI a - nI a / nI d * nI d = nI (a % d) := by
  rw [pk_div ha h0 hd, pk_mul, pk_sub (Nat.div_mul_le_self a d)]
  exact congrArg nI (by have := Nat.div_add_mod' a d; omega)
theorem pk_ix (x : Int32) {n : Nat} (hn : n < 2 ^ 31) : x < 0 ∨ nI n ≤ x ∨ ∃ j : Nat, j < n ∧ x = nI j := by
  by_cases h : x < 0
  · exact Or.inl h
  · obtain ⟨j, hj, rfl⟩ := nI_of h
    by_cases h2 : j < n
    · exact Or.inr (Or.inr ⟨j, h2, rfl⟩)
    · exact Or.inr (Or.inl (nI_le (by omega) hj))
theorem pk_le {x y : Int32} {A B : Prop} (a b : Nat) (f : a ≤ b → A) (g : b < a → B) (hx : x = nI a := by rfl) (hy : y = nI b := by rfl) (ha : a < 2 ^ 31 := by omega) (hb : b < 2 ^ 31 := by omega) : (x ≤ y → A) ∧ (¬ x ≤ y → B) := by
  subst hx hy
  rw [nI_leI ha hb]
  exact ⟨f, fun z => g (by omega)⟩
theorem pk_lt {x y : Int32} {A B : Prop} (a b : Nat) (f : a < b → A) (g : b ≤ a → B) (hx : x = nI a := by rfl) (hy : y = nI b := by rfl) (ha : a < 2 ^ 31 := by omega) (hb : b < 2 ^ 31 := by omega) : (x < y → A) ∧ (¬ x < y → B) := by
  subst hx hy
  rw [nI_ltI ha hb]
  exact ⟨f, fun z => g (by omega)⟩
theorem pk_eq {x y : Int32} {A B : Prop} (a b : Nat) (f : a = b → A) (g : a ≠ b → B) (hx : x = nI a := by rfl) (hy : y = nI b := by rfl) (ha : a < 2 ^ 31 := by omega) (hb : b < 2 ^ 31 := by omega) : (x = y → A) ∧ (¬ x = y → B) := by
  subst hx hy
  rw [nI_eq ha hb]
  exact ⟨f, g⟩
theorem pk_in {x : Int32} (n N : Nat) (h : n < N) (hx : x = nI n := by rfl) (hN : N < 2 ^ 31 := by omega) : vp_in x N := by
  subst hx
  exact vp_in_nI h hN
theorem pk_cl {x : Int32} (n : Nat) (hx : x = nI n := by rfl) (h : n < 2 ^ 31 := by omega) : x.toNatClampNeg = n := by
  subst hx
  exact nI_clamp h
theorem pk_tn {n : Nat} (h : n < 2 ^ 32) : (nI n).toBitVec.toNat = n := Nat.mod_eq_of_lt h
theorem pk_and (x : Int32) {m : Int32} (k : Nat) (hm : m.toBitVec.toNat = 2 ^ k - 1) : x &&& m = nI (x.toBitVec.toNat % 2 ^ k) := by
  apply Int32.toBitVec_inj.mp
  apply BitVec.eq_of_toNat_eq
  rw [Int32.toBitVec_and, BitVec.toNat_and, hm, Nat.and_two_pow_sub_one_eq_mod]
  show _ = (BitVec.ofNat 32 _).toNat
  rw [BitVec.toNat_ofNat]
  exact (Nat.mod_eq_of_lt (Nat.lt_of_le_of_lt (Nat.mod_le _ _) x.toBitVec.isLt)).symm
theorem pk_andN {n : Nat} (h : n < 2 ^ 32) {m : Int32} (k : Nat) (hm : m.toBitVec.toNat = 2 ^ k - 1) : nI n &&& m = nI (n % 2 ^ k) := by
  rw [pk_and _ k hm, pk_tn h]
theorem pk_andE (x : Int32) {m : Int32} (k : Nat) (hm : m.toBitVec.toNat = 2 ^ k - 1) : ∃ j : Nat, j < 2 ^ k ∧ x &&& m = nI j := ⟨_, Nat.mod_lt _ (Nat.two_pow_pos k), pk_and x k hm⟩
def bt (x : Int32) (i : Nat) : Bool := x.toBitVec.getLsbD i
theorem b_ext {x y : Int32} (h : ∀ i, i < 32 → bt x i = bt y i) : x = y := Int32.toBitVec_inj.mp (BitVec.eq_of_getLsbD_eq (fun i hi => h i hi))
theorem b_or (x y : Int32) (i : Nat) : bt (x ||| y) i = (bt x i || bt y i) := by unfold bt; rw [Int32.toBitVec_or, BitVec.getLsbD_or]
theorem b_and (x y : Int32) (i : Nat) : bt (x &&& y) i = (bt x i && bt y i) := by unfold bt; rw [Int32.toBitVec_and, BitVec.getLsbD_and]
theorem b_xor (x y : Int32) (i : Nat) : bt (x ^^^ y) i = (bt x i ^^ bt y i) := by unfold bt; rw [Int32.toBitVec_xor, BitVec.getLsbD_xor]
theorem b_big {x : Int32} {i : Nat} (h : 32 ≤ i) : bt x i = false := BitVec.getLsbD_of_ge _ _ h
theorem b_0 (i : Nat) : bt 0 i = false := BitVec.getLsbD_zero
theorem s_l : ∀ n, n < 32 → ((nI n &&& 31).toBitVec.smod 32).toNat = n := by decide +kernel
theorem b_shl (n : Nat) (hn : n < 32) (x : Int32) {i : Nat} (hi : i < 32) : bt (x <<< (nI n &&& 31)) i = (decide (n ≤ i) && bt x (i - n)) := by
  unfold bt
  rw [Int32.toBitVec_shiftLeft]
  show (x.toBitVec <<< ((nI n &&& 31).toBitVec.smod 32).toNat).getLsbD i = _
  rw [s_l n hn, BitVec.getLsbD_shiftLeft]
  rcases Nat.lt_or_ge i n with h | h
  · simp [h, Nat.not_le.mpr h]
  · simp [hi, h, Nat.not_lt.mpr h]
theorem b_sshr (n : Nat) (hn : n < 32) (x : Int32) {i : Nat} (hi : i < 32) : bt (x >>> (nI n &&& 31)) i = if n + i < 32 then bt x (n + i) else bt x 31 := by
  unfold bt
  rw [Int32.toBitVec_shiftRight]
  show (x.toBitVec.sshiftRight ((nI n &&& 31).toBitVec.smod 32).toNat).getLsbD i = _
  rw [s_l n hn, BitVec.getLsbD_sshiftRight, BitVec.msb_eq_getLsbD_last]
  simp [hi]
end
section
section WKP
/-! sums over naturals -/
def wk_sm (f : Nat → Nat) : Nat → Nat
  | 0 => 0
  | m + 1 => wk_sm f m + f m
theorem wk_smC {f g : Nat → Nat} {m : Nat} (h : ∀ e, e < m → f e = g e) : wk_sm f m = wk_sm g m := by
  induction m with
  | zero => rfl
  | succ m ih =>
    show wk_sm f m + f m = wk_sm g m + g m
    rw [ih (fun e he => h e (by omega)), h m (by omega)]
theorem wk_smA (f g : Nat → Nat) (m : Nat) : wk_sm (fun e => f e + g e) m = wk_sm f m + wk_sm g m := by
  induction m with
  | zero => rfl
  | succ m ih =>
    show wk_sm (fun e => f e + g e) m + (f m + g m) = (wk_sm f m + f m) + (wk_sm g m + g m)
    rw [ih]; omega
theorem wk_smZ {f : Nat → Nat} {m : Nat} (h : ∀ e, e < m → f e = 0) : wk_sm f m = 0 := by
  induction m with
  | zero => rfl
  | succ m ih =>
    show wk_sm f m + f m = 0
    rw [ih (fun e he => h e (by omega)), h m (by omega)]
theorem wk_smB {f : Nat → Nat} {m K : Nat} (h : ∀ e, e < m → f e ≤ K) : wk_sm f m ≤ m * K := by
  induction m with
  | zero => exact Nat.zero_le _
  | succ m ih =>
    show wk_sm f m + f m ≤ (m + 1) * K
    have h1 := ih (fun e he => h e (by omega))
    have h2 := h m (by omega)
    rw [Nat.succ_mul]; omega
theorem wk_smL {f : Nat → Nat} {m e : Nat} (h : e < m) : f e ≤ wk_sm f m := by
  induction m with
  | zero => omega
  | succ m ih =>
    show f e ≤ wk_sm f m + f m
    by_cases z : e < m
    · have := ih z; omega
    · have z2 : e = m := by omega
      subst z2; omega
theorem wk_smP {f : Nat → Nat} {m : Nat} (h : 0 < wk_sm f m) : ∃ e, e < m ∧ 0 < f e := by
  induction m with
  | zero => exact absurd h (Nat.lt_irrefl 0)
  | succ m ih =>
    have h' : 0 < wk_sm f m + f m := h
    by_cases z : 0 < f m
    · exact ⟨m, by omega, z⟩
    · obtain ⟨e, he, h2⟩ := ih (by omega)
      exact ⟨e, by omega, h2⟩
/-! the pure step -/
/-- does edge e fit label n -/
def wk_F (L : Nat → Int32) (n : Int32) (e : Nat) : Bool := decide (n = 2 ∨ L e = n)
/-- what comes over the edges from P's ends to Q's -/
def wk_O (P Q : Nat → Nat) (F : Nat → Bool) (g : Nat → Nat) (c m : Nat) : Nat :=
  wk_sm (fun e => if F e = true ∧ Q e = c % 8 then g (8 * (c / 8) + P e) else 0) m
/-- is there a way out of v among the first m edges -/
def wk_W (P : Nat → Nat) (F : Nat → Bool) (v : Nat) : Nat → Bool
  | 0 => false
  | m + 1 => wk_W P F v m || (F m && decide (P m = v))
/-- is there a walker at v with a start below s -/
def wk_L (g : Nat → Nat) (v : Nat) : Nat → Bool
  | 0 => false
  | s + 1 => wk_L g v s || decide (0 < g (8 * s + v))
def wk_st (B E : Nat → Nat) (L M : Nat → Int32) (m k : Nat) (n : Int32) (g : Nat → Nat) (c : Nat) : Nat :=
  if k = 0 then wk_O B E (wk_F L n) g c m
  else if k = 1 then wk_O E B (wk_F L n) g c m
  else if k = 2 then wk_O B E (wk_F L n) g c m + wk_O E B (wk_F L n) g c m
  else if k = 3 then wk_O B E (wk_F L n) g c m + (if wk_W B (wk_F L n) (c % 8) m = false then g c else 0)
  else if k = 4 then (if n ≤ M (c % 8) then g c else 0)
  else if k = 5 then (if c / 8 = c % 8 then 0 else g c)
  else if k = 6 then (if c / 8 = c % 8 then g c else 0)
  else (if 0 < g c ∧ wk_L g (c % 8) (c / 8) = false then 1 else 0)
/-- bit s of the starts -/
def wk_b (st : Int32) (s : Nat) : Nat := (st >>> (nI s &&& 31)).toBitVec.toNat % 2 ^ 1
def wk_g0 (st : Int32) (c : Nat) : Nat := if c / 8 = c % 8 then wk_b st (c / 8) else 0
def wk_g (B E : Nat → Nat) (L M : Nat → Int32) (m : Nat) (K : Nat → Nat) (V : Nat → Int32) (st : Int32) : Nat → Nat → Nat
  | 0 => wk_g0 st
  | i + 1 => wk_st B E L M m (K i) (V i) (wk_g B E L M m K V st i)
theorem wk_bE (st : Int32) (s : Nat) : (st >>> (nI s &&& 31)) &&& 1 = nI (wk_b st s) := pk_and _ 1 (by decide)
theorem wk_b2 (st : Int32) (s : Nat) : wk_b st s < 2 := Nat.mod_lt _ (by decide)
/-- beyond 4 the step's number is not used -/
theorem wk_stN {B E : Nat → Nat} {L M : Nat → Int32} {m k : Nat} {n n' : Int32} (h : k ≤ 4 → n = n') : wk_st B E L M m k n = wk_st B E L M m k n' := by
  by_cases z : k ≤ 4
  · rw [h z]
  · funext g c
    unfold wk_st
    have h0 : ¬ k = 0 := by omega
    have h1 : ¬ k = 1 := by omega
    have h2 : ¬ k = 2 := by omega
    have h3 : ¬ k = 3 := by omega
    have h4 : ¬ k = 4 := by omega
    simp only [h0, h1, h2, h3, h4, if_false]
theorem wk_OB {P Q : Nat → Nat} {F : Nat → Bool} {g : Nat → Nat} {c m K : Nat} (hP : ∀ e, P e < 8) (hc : c < 64) (h : ∀ c, c < 64 → g c ≤ K) (hm : m ≤ 10) : wk_O P Q F g c m ≤ 10 * K := by
  refine Nat.le_trans (wk_smB (K := K) (fun e _ => ?_)) (Nat.mul_le_mul_right K hm)
  split
  · exact h _ (by have := hP e; omega)
  · exact Nat.zero_le _
theorem wk_stB {B E : Nat → Nat} {L M : Nat → Int32} {m k : Nat} {n : Int32} {g : Nat → Nat} {K : Nat} (hB : ∀ e, B e < 8) (hE : ∀ e, E e < 8) (hm : m ≤ 10) (hK : 1 ≤ K) (h : ∀ c, c < 64 → g c ≤ K) : ∀ c, c < 64 → wk_st B E L M m k n g c ≤ 20 * K := by
  intro c hc
  have h1 : wk_O B E (wk_F L n) g c m ≤ 10 * K := wk_OB hB hc h hm
  have h2 : wk_O E B (wk_F L n) g c m ≤ 10 * K := wk_OB hE hc h hm
  have h3 := h c hc
  unfold wk_st
  split
  · omega
  · split
    · omega
    · split
      · omega
      · split
        · split <;> omega
        · split
          · split <;> omega
          · split
            · split <;> omega
            · split
              · split <;> omega
              · split <;> omega
theorem wk_gB {B E : Nat → Nat} {L M : Nat → Int32} {m : Nat} {K : Nat → Nat} {V : Nat → Int32} {st : Int32} (hB : ∀ e, B e < 8) (hE : ∀ e, E e < 8) (hm : m ≤ 10) : ∀ i c, c < 64 → wk_g B E L M m K V st i c ≤ 20 ^ i := by
  intro i
  induction i with
  | zero =>
    intro c hc
    show wk_g0 st c ≤ 1
    have := wk_b2 st (c / 8)
    unfold wk_g0
    split <;> omega
  | succ i ih =>
    intro c hc
    have h := wk_stB (L := L) (M := M) (k := K i) (n := V i) hB hE hm (Nat.pow_pos (by decide : 0 < 20)) ih c hc
    rw [Nat.pow_succ, Nat.mul_comm]
    exact h
theorem wk_gB6 {B E : Nat → Nat} {L M : Nat → Int32} {m : Nat} {K : Nat → Nat} {V : Nat → Int32} {st : Int32} (hB : ∀ e, B e < 8) (hE : ∀ e, E e < 8) (hm : m ≤ 10) {i c : Nat} (hi : i ≤ 6) (hc : c < 64) : wk_g B E L M m K V st i c ≤ 64000000 :=
  Nat.le_trans (wk_gB hB hE hm i c hc) (Nat.le_trans (Nat.pow_le_pow_right (by decide) hi) (by decide))
/-! the reference's way: cell by cell -/
def wk_d (B E : Nat → Nat) (F : Nat → Bool) (o i : Bool) (g : Nat → Nat) (c x e : Nat) : Nat :=
  (if F e = true ∧ o = true ∧ E e = x % 8 ∧ 8 * (x / 8) + B e = c then g c else 0) + (if F e = true ∧ i = true ∧ B e = x % 8 ∧ 8 * (x / 8) + E e = c then g c else 0)
def wk_t (B E : Nat → Nat) (F : Nat → Bool) (o i : Bool) (g : Nat → Nat) (c x e : Nat) : Nat :=
  (if F e = true ∧ o = true ∧ E e = x % 8 ∧ 8 * (x / 8) + B e < c then g (8 * (x / 8) + B e) else 0) + (if F e = true ∧ i = true ∧ B e = x % 8 ∧ 8 * (x / 8) + E e < c then g (8 * (x / 8) + E e) else 0)
/-- what the reference has stored at x when the cells below c are done -/
def wk_T (B E : Nat → Nat) (F : Nat → Bool) (o i y : Bool) (m : Nat) (g : Nat → Nat) (c x : Nat) : Nat :=
  wk_sm (wk_t B E F o i g c x) m + (if y = true ∧ x < c ∧ wk_W B F (x % 8) m = false then g x else 0)
theorem wk_if1 {p : Prop} {q c : Nat} {g : Nat → Nat} [Decidable p] : (if p ∧ q < c + 1 then g q else 0) = (if p ∧ q < c then g q else 0) + (if p ∧ q = c then g c else 0) := by
  by_cases hp : p
  · by_cases h1 : q < c
    · rw [if_pos ⟨hp, by omega⟩, if_pos ⟨hp, h1⟩, if_neg (fun z => by omega), Nat.add_zero]
    · by_cases h2 : q = c
      · subst h2
        rw [if_pos ⟨hp, by omega⟩, if_neg (fun z => h1 z.2), if_pos ⟨hp, rfl⟩, Nat.zero_add]
      · rw [if_neg (fun z => by omega), if_neg (fun z => h1 z.2), if_neg (fun z => h2 z.2)]
  · rw [if_neg (fun z => hp z.1), if_neg (fun z => hp z.1), if_neg (fun z => hp z.1)]
theorem wk_tS (B E : Nat → Nat) (F : Nat → Bool) (o i : Bool) (g : Nat → Nat) (c x e : Nat) : wk_t B E F o i g (c + 1) x e = wk_t B E F o i g c x e + wk_d B E F o i g c x e := by
  unfold wk_t wk_d
  have h1 := wk_if1 (p := F e = true ∧ o = true ∧ E e = x % 8) (q := 8 * (x / 8) + B e) (c := c) (g := g)
  have h2 := wk_if1 (p := F e = true ∧ i = true ∧ B e = x % 8) (q := 8 * (x / 8) + E e) (c := c) (g := g)
  simp only [and_assoc] at h1 h2
  rw [h1, h2]; omega
theorem wk_TS (B E : Nat → Nat) (F : Nat → Bool) (o i y : Bool) (m : Nat) (g : Nat → Nat) (c x : Nat) : wk_T B E F o i y m g (c + 1) x = wk_T B E F o i y m g c x + wk_sm (wk_d B E F o i g c x) m + (if y = true ∧ x = c ∧ wk_W B F (x % 8) m = false then g c else 0) := by
  unfold wk_T
  have h1 : wk_sm (wk_t B E F o i g (c + 1) x) m = wk_sm (wk_t B E F o i g c x) m + wk_sm (wk_d B E F o i g c x) m := by
    rw [← wk_smA]; exact wk_smC (fun e _ => wk_tS B E F o i g c x e)
  have h2 := wk_if1 (p := y = true ∧ wk_W B F (x % 8) m = false) (q := x) (c := c) (g := g)
  have h3 : ∀ r : Prop, (y = true ∧ r ∧ wk_W B F (x % 8) m = false) = ((y = true ∧ wk_W B F (x % 8) m = false) ∧ r) := fun r => propext ⟨fun z => ⟨⟨z.1, z.2.2⟩, z.2.1⟩, fun z => ⟨z.1.1, z.2, z.1.2⟩⟩
  simp only [h3]
  rw [h1, h2]; omega
theorem wk_T0 (B E : Nat → Nat) (F : Nat → Bool) (o i y : Bool) (m : Nat) (g : Nat → Nat) (x : Nat) : wk_T B E F o i y m g 0 x = 0 := by
  unfold wk_T
  rw [if_neg (fun z => by omega), wk_smZ]
  intro e _
  unfold wk_t
  rw [if_neg (fun z => by omega), if_neg (fun z => by omega)]
theorem wk_dZ {B E : Nat → Nat} {F : Nat → Bool} {o i : Bool} {g : Nat → Nat} {c x m : Nat} (h : g c = 0) : wk_sm (wk_d B E F o i g c x) m = 0 := by
  refine wk_smZ (fun e _ => ?_)
  unfold wk_d
  rw [h]; simp
theorem wk_TZ {B E : Nat → Nat} {F : Nat → Bool} {o i y : Bool} {m : Nat} {g : Nat → Nat} {c : Nat} (h : g c = 0) (x : Nat) : wk_T B E F o i y m g (c + 1) x = wk_T B E F o i y m g c x := by
  rw [wk_TS, wk_dZ h, h]; simp
theorem wk_Te {B E : Nat → Nat} {F : Nat → Bool} {o i y : Bool} {m : Nat} {g : Nat → Nat} {x : Nat} (hB : ∀ e, B e < 8) (hE : ∀ e, E e < 8) (hx : x < 64) : wk_T B E F o i y m g 64 x = (if o = true then wk_O B E F g x m else 0) + (if i = true then wk_O E B F g x m else 0) + (if y = true then (if wk_W B F (x % 8) m = false then g x else 0) else 0) := by
  unfold wk_T
  have h1 : wk_sm (wk_t B E F o i g 64 x) m = (if o = true then wk_O B E F g x m else 0) + (if i = true then wk_O E B F g x m else 0) := by
    have ha : ∀ e, 8 * (x / 8) + B e < 64 := fun e => by have := hB e; omega
    have hb : ∀ e, 8 * (x / 8) + E e < 64 := fun e => by have := hE e; omega
    unfold wk_O
    cases o <;> cases i
    · simp only [Bool.false_eq_true, if_false]
      exact wk_smZ (fun e _ => by unfold wk_t; simp)
    · simp only [Bool.false_eq_true, if_false, if_true, Nat.zero_add]
      exact wk_smC (fun e _ => by unfold wk_t; simp [hb e])
    · simp only [Bool.false_eq_true, if_false, if_true, Nat.add_zero]
      exact wk_smC (fun e _ => by unfold wk_t; simp [ha e])
    · simp only [if_true]
      rw [← wk_smA]
      exact wk_smC (fun e _ => by unfold wk_t; simp [ha e, hb e])
  rw [h1]
  cases y
  · simp
  · simp [hx]
/-- how many edges the reference counts at v -/
def wk_N (B E : Nat → Nat) (F : Nat → Bool) (o i : Bool) (v : Nat) : Nat → Nat
  | 0 => 0
  | m + 1 => wk_N B E F o i v m + (if F m = true ∧ o = true ∧ B m = v then 1 else 0) + (if F m = true ∧ i = true ∧ E m = v then 1 else 0)
theorem wk_NB (B E : Nat → Nat) (F : Nat → Bool) (o i : Bool) (v : Nat) : ∀ m, wk_N B E F o i v m ≤ 2 * m := by
  intro m
  induction m with
  | zero => exact Nat.le_refl _
  | succ m ih =>
    show wk_N B E F o i v m + _ + _ ≤ _
    split <;> split <;> omega
theorem wk_NW (B E : Nat → Nat) (F : Nat → Bool) (v : Nat) : ∀ m, wk_N B E F true false v m = 0 ↔ wk_W B F v m = false := by
  intro m
  induction m with
  | zero => exact ⟨fun _ => rfl, fun _ => rfl⟩
  | succ m ih =>
    show wk_N B E F true false v m + (if F m = true ∧ true = true ∧ B m = v then 1 else 0) + (if F m = true ∧ false = true ∧ E m = v then 1 else 0) = 0 ↔ (wk_W B F v m || (F m && decide (B m = v))) = false
    rw [if_neg (c := F m = true ∧ false = true ∧ E m = v) (fun z => nomatch z.2.1), Bool.or_eq_false_iff, ← ih]
    by_cases h : F m = true ∧ B m = v
    · rw [if_pos ⟨h.1, rfl, h.2⟩, h.1, decide_eq_true h.2]
      exact ⟨fun z => by omega, fun z => nomatch z.2⟩
    · rw [if_neg (fun z => h ⟨z.1, z.2.2⟩)]
      refine ⟨fun z => ⟨by omega, ?_⟩, fun z => by omega⟩
      cases hf : F m
      · rfl
      · exact decide_eq_false (fun z2 => h ⟨hf, z2⟩)
theorem wk_LE {g : Nat → Nat} {v : Nat} : ∀ s, wk_L g v s = true → ∃ r, r < s ∧ 0 < g (8 * r + v) := by
  intro s
  induction s with
  | zero => intro h; exact nomatch h
  | succ s ih =>
    intro h
    have h' : (wk_L g v s || decide (0 < g (8 * s + v))) = true := h
    rw [Bool.or_eq_true] at h'
    rcases h' with h' | h'
    · obtain ⟨r, hr, h2⟩ := ih h'
      exact ⟨r, by omega, h2⟩
    · exact ⟨s, by omega, of_decide_eq_true h'⟩
theorem wk_LI {g : Nat → Nat} {v r : Nat} : ∀ s, r < s → 0 < g (8 * r + v) → wk_L g v s = true := by
  intro s
  induction s with
  | zero => intro h; omega
  | succ s ih =>
    intro h h2
    show (wk_L g v s || decide (0 < g (8 * s + v))) = true
    rw [Bool.or_eq_true]
    by_cases z : r < s
    · exact Or.inl (ih z h2)
    · have z2 : r = s := by omega
      subst z2
      exact Or.inr (decide_eq_true h2)
/-! numbers, bits, stores -/
theorem wk_upd {a : Nat → Int32} {i : Nat} {x : Int32} (j : Nat) : upd a i x j = if j = i then x else a j := rfl
theorem wk_8 : (8 : Int32) = nI 8 := by decide
theorem wk_10 : (10 : Int32) = nI 10 := by decide
theorem wk_6 : (6 : Int32) = nI 6 := by decide
theorem wk_64 : (64 : Int32) = nI 64 := by decide
theorem wk_pos {a : Nat} (h : a < 2 ^ 31) : (0 : Int32) < nI a ↔ 0 < a := by rw [← nI_0, nI_ltI (by omega) h]
theorem wk_le0 {a : Nat} (h : a < 2 ^ 31) : nI a ≤ (0 : Int32) ↔ a = 0 := by rw [← nI_0, nI_leI h (by omega)]; omega
theorem wk_eq0 {a : Nat} (h : a < 2 ^ 31) : nI a = (0 : Int32) ↔ a = 0 := by rw [← nI_0, nI_eq h (by omega)]
theorem wk_bt0 (x : Int32) : (x &&& 1) = 0 ↔ bt x 0 = false := by
  rw [pk_and x 1 (by decide), wk_eq0 (Nat.lt_trans (Nat.mod_lt _ (by decide)) (by decide))]
  show _ ↔ x.toBitVec.toNat.testBit 0 = false
  rw [Nat.testBit_zero, decide_eq_false_iff_not]
  omega
theorem wk_btv (x : Int32) {v : Nat} (hv : v < 8) : ((x >>> (nI v &&& 31)) &&& 1) = 0 ↔ bt x v = false := by
  rw [wk_bt0, b_sshr v (by omega) x (by omega), if_pos (by omega), Nat.add_zero]
theorem wk_bt1 : ∀ i, i < 32 → bt 1 i = decide (i = 0) := by decide +kernel
/-- one bit more -/
theorem wk_btO (x : Int32) {v i : Nat} (hv : v < 32) (hi : i < 32) : bt (x ||| ((1 : Int32) <<< (nI v &&& 31))) i = (bt x i || decide (i = v)) := by
  rw [b_or, b_shl v hv 1 hi]
  congr 1
  by_cases h : v ≤ i
  · rw [wk_bt1 _ (by omega), decide_eq_true h, Bool.true_and]
    by_cases h2 : i = v
    · rw [decide_eq_true h2, decide_eq_true (by omega)]
    · rw [decide_eq_false h2, decide_eq_false (by omega)]
  · rw [decide_eq_false h, decide_eq_false (by omega), Bool.false_and]
/-- a picture of 64 cells -/
def wk_P (a : Nat → Int32) (g : Nat → Nat) : Prop := ∀ c, c < 64 → a c = nI (g c)
theorem wk_PC {a : Nat → Int32} {g h : Nat → Nat} (H : wk_P a g) (e : ∀ c, c < 64 → g c = h c) : wk_P a h := fun c hc => by rw [H c hc, e c hc]
theorem wk_PU {a : Nat → Int32} {g h : Nat → Nat} {i : Nat} {x : Int32} (H : wk_P a g) (h1 : x = nI (h i)) (h2 : ∀ c, c < 64 → c ≠ i → g c = h c) : wk_P (upd a i x) h := by
  intro c hc
  by_cases z : c = i
  · subst z; rw [pk_us]; exact h1
  · rw [pk_un z, H c hc, h2 c hc z]
/-- starts seen at v: the same set on both sides -/
def wk_S (g : Nat → Nat) (v : Nat) : Nat → Int32
  | 0 => 0
  | s + 1 => if 0 < g (8 * s + v) then wk_S g v s ||| ((1 : Int32) <<< (nI s &&& 31)) else wk_S g v s
end WKP
end
section
section WKX
variable {sc st n : Int32} {M Ba Ea L Ka Va now nx : Nat → Int32} {B E : Nat → Nat} {m : Nat} {g h : Nat → Nat} {post : SX → Prop}
theorem wk_ix (s b : Nat) : nI s * 8 + nI b = nI (8 * s + b) := by rw [wk_8, pk_mul, nI_add, Nat.mul_comm]
theorem wk_iy (s b : Nat) : 8 * nI s + nI b = nI (8 * s + b) := by rw [wk_8, pk_mul, nI_add]
theorem wk_ge8 {s : Nat} (z : s < 8) : ¬ (8 : Int32) ≤ nI s := nI_ge (b := 8) z (by decide)
theorem wk_ge64 {s : Nat} (z : s < 64) : ¬ (64 : Int32) ≤ nI s := nI_ge (b := 64) z (by decide)
theorem wk_le8 : (8 : Int32) ≤ nI 8 := by decide
theorem wk_le64 : (64 : Int32) ≤ nI 64 := by decide
theorem wx_send {ec : Int32} {a b : Nat} (ha : a < 8) (hb : b < 8) (hn : wk_P now g) (hx : wk_P nx h)
    (k : ∀ nx', wk_P nx' (fun c => h c + (if c % 8 = b then g (8 * (c / 8) + a) else 0)) → post (ec, sc, st, M, Ba, Ea, L, Ka, Va, now, nx')) :
    wpX_send post (ec, sc, st, M, Ba, Ea, L, Ka, Va, now, nx) (nI a) (nI b) := by
  have key : ∀ f s nx, s ≤ 8 → 8 - s < f → wk_P nx (fun c => h c + (if c % 8 = b ∧ c / 8 < s then g (8 * (c / 8) + a) else 0)) → wX_send_2 post (nI a) (nI b) ec sc st f (nI s) M Ba Ea L Ka Va now nx := by
    intro f
    induction f with
    | zero => intro s nx _ h; omega
    | succ f ih =>
      intro s nx hs hf hI
      rcases Nat.lt_or_ge s 8 with z | z
      · have z3 := wk_ge8 z
        have i1 : vp_in (nI (8 * s + b)) 64 := vp_in_nI (by omega) (by omega)
        have i2 : vp_in (nI (8 * s + a)) 64 := vp_in_nI (by omega) (by omega)
        have c1 : (nI (8 * s + b)).toNatClampNeg = 8 * s + b := nI_clamp (by omega)
        have c2 : (nI (8 * s + a)).toNatClampNeg = 8 * s + a := nI_clamp (by omega)
        simp only [wX_send_2, z3, wk_ix, i1, i2, c1, c2, not_false_iff, true_implies, false_implies, true_and, forall_eq, nI_1]
        have q1 : (8 * s + b) % 8 = b := by omega
        have q2 : (8 * s + b) / 8 = s := by omega
        refine ih (s + 1) _ (by omega) (by omega) (wk_PU hI ?_ ?_)
        · rw [hI _ (by omega), hn _ (by omega), nI_add]
          refine congrArg nI ?_
          simp [q1, q2]
        · intro c hc hne
          have e : (c % 8 = b ∧ c / 8 < s) ↔ (c % 8 = b ∧ c / 8 < s + 1) := by omega
          simp only [e]
      · have z2 : s = 8 := by omega
        subst z2
        simp only [wX_send_2, wk_le8, not_true, true_implies, false_implies, and_true]
        refine k nx (wk_PC hI (fun c hc => ?_))
        have e : (c % 8 = b ∧ c / 8 < 8) ↔ c % 8 = b := by omega
        simp only [e]
  exact ⟨9, key 9 0 nx (by omega) (by omega) (wk_PC hx (fun c hc => by simp))⟩
theorem wx_fits {ec : Int32} {post : Int32 → Prop} {e : Nat} (he : e < 10) (h1 : wk_F L n e = true → post 1) (h0 : wk_F L n e = false → post 0) : wpX_fits post (ec, sc, st, M, Ba, Ea, L, Ka, Va, now, nx) (nI e) n := by
  unfold wpX_fits
  dsimp only
  rw [nI_clamp (by omega)]
  refine br_c (fun z => h1 (decide_eq_true (Or.inl z))) (fun z => ⟨vp_in_nI he (by omega), br_c (fun y => h1 (decide_eq_true (Or.inr y))) (fun y => h0 (decide_eq_false ?_))⟩)
  exact fun w => w.elim z y
theorem wk_Os (P Q : Nat → Nat) (F : Nat → Bool) (g : Nat → Nat) (c e : Nat) : wk_O P Q F g c (e + 1) = wk_O P Q F g c e + (if F e = true ∧ Q e = c % 8 then g (8 * (c / 8) + P e) else 0) := rfl
theorem wx_out (hm : m ≤ 10) (hB : ∀ e, B e < 8) (hE : ∀ e, E e < 8) (eB : ∀ e, Ba e = nI (B e)) (eE : ∀ e, Ea e = nI (E e)) (hn : wk_P now g) (hx : wk_P nx h)
    (k : ∀ nx', wk_P nx' (fun c => h c + wk_O B E (wk_F L n) g c m) → post (nI m, sc, st, M, Ba, Ea, L, Ka, Va, now, nx')) : wpX_sendOut post (nI m, sc, st, M, Ba, Ea, L, Ka, Va, now, nx) n := by
  have key : ∀ f e nx, e ≤ m → m - e < f → wk_P nx (fun c => h c + wk_O B E (wk_F L n) g c e) → wX_sendOut_2 post n f (nI e) (nI m) sc st M Ba Ea L Ka Va now nx := by
    intro f
    induction f with
    | zero => intro s nx _ h; omega
    | succ f ih =>
      intro e nx he hf hI
      rcases Nat.lt_or_ge e m with z | z
      · have z3 : ¬ nI m ≤ nI e := nI_ge z (by omega)
        have i1 : vp_in (nI e) 10 := vp_in_nI (by omega) (by omega)
        have c1 : (nI e).toNatClampNeg = e := nI_clamp (by omega)
        rw [wX_sendOut_2]
        refine br_f z3 (wx_fits (by omega) (fun hF => br_f (by decide) ⟨i1, i1, ?_⟩) (fun hF => br_t rfl (nm_r (nI_1 e) ?_)))
        · rw [c1, eB, eE]
          refine wx_send (hB e) (hE e) hn hI (fun nx' hI' => nm_r (nI_1 e) (ih (e + 1) nx' (by omega) (by omega) (wk_PC hI' (fun c hc => ?_))))
          rw [wk_Os]
          have e2 : (wk_F L n e = true ∧ E e = c % 8) ↔ c % 8 = E e := ⟨fun w => w.2.symm, fun w => ⟨hF, w.symm⟩⟩
          simp only [e2]
          omega
        · refine ih (e + 1) nx (by omega) (by omega) (wk_PC hI (fun c hc => ?_))
          rw [wk_Os, if_neg (fun w => by rw [hF] at w; exact nomatch w.1)]
          omega
      · have z2 : e = m := by omega
        subst z2
        rw [wX_sendOut_2]
        exact br_t (nI_le (Nat.le_refl _) (by omega)) (k nx hI)
  exact ⟨m + 1, key (m + 1) 0 nx (by omega) (by omega) (wk_PC hx (fun c hc => rfl))⟩
theorem wx_in (hm : m ≤ 10) (hB : ∀ e, B e < 8) (hE : ∀ e, E e < 8) (eB : ∀ e, Ba e = nI (B e)) (eE : ∀ e, Ea e = nI (E e)) (hn : wk_P now g) (hx : wk_P nx h)
    (k : ∀ nx', wk_P nx' (fun c => h c + wk_O E B (wk_F L n) g c m) → post (nI m, sc, st, M, Ba, Ea, L, Ka, Va, now, nx')) : wpX_sendIn post (nI m, sc, st, M, Ba, Ea, L, Ka, Va, now, nx) n := by
  have key : ∀ f e nx, e ≤ m → m - e < f → wk_P nx (fun c => h c + wk_O E B (wk_F L n) g c e) → wX_sendIn_2 post n f (nI e) (nI m) sc st M Ba Ea L Ka Va now nx := by
    intro f
    induction f with
    | zero => intro s nx _ h; omega
    | succ f ih =>
      intro e nx he hf hI
      rcases Nat.lt_or_ge e m with z | z
      · have z3 : ¬ nI m ≤ nI e := nI_ge z (by omega)
        have i1 : vp_in (nI e) 10 := vp_in_nI (by omega) (by omega)
        have c1 : (nI e).toNatClampNeg = e := nI_clamp (by omega)
        rw [wX_sendIn_2]
        refine br_f z3 (wx_fits (by omega) (fun hF => br_f (by decide) ⟨i1, i1, ?_⟩) (fun hF => br_t rfl (nm_r (nI_1 e) ?_)))
        · rw [c1, eB, eE]
          refine wx_send (hE e) (hB e) hn hI (fun nx' hI' => nm_r (nI_1 e) (ih (e + 1) nx' (by omega) (by omega) (wk_PC hI' (fun c hc => ?_))))
          rw [wk_Os]
          have e2 : (wk_F L n e = true ∧ B e = c % 8) ↔ c % 8 = B e := ⟨fun w => w.2.symm, fun w => ⟨hF, w.symm⟩⟩
          simp only [e2]
          omega
        · refine ih (e + 1) nx (by omega) (by omega) (wk_PC hI (fun c hc => ?_))
          rw [wk_Os, if_neg (fun w => by rw [hF] at w; exact nomatch w.1)]
          omega
      · have z2 : e = m := by omega
        subst z2
        rw [wX_sendIn_2]
        exact br_t (nI_le (Nat.le_refl _) (by omega)) (k nx hI)
  exact ⟨m + 1, key (m + 1) 0 nx (by omega) (by omega) (wk_PC hx (fun c hc => rfl))⟩
/-- at each vertex with C the walkers stay -/
def wk_kp (C : Nat → Bool) (g : Nat → Nat) (v c : Nat) : Nat := if c % 8 < v ∧ C (c % 8) = true then g c else 0
theorem wk_kpT {C : Nat → Bool} {g : Nat → Nat} {v c : Nat} (h : C v = true) : wk_kp C g v c + (if c % 8 = v then g (8 * (c / 8) + v) else 0) = wk_kp C g (v + 1) c := by
  unfold wk_kp
  by_cases z : c % 8 = v
  · have e : 8 * (c / 8) + v = c := by omega
    rw [if_neg (fun w => by omega), if_pos z, e, if_pos ⟨by omega, by rw [z]; exact h⟩, Nat.zero_add]
  · have e : (c % 8 < v ∧ C (c % 8) = true) ↔ (c % 8 < v + 1 ∧ C (c % 8) = true) := ⟨fun w => ⟨by omega, w.2⟩, fun w => ⟨by omega, w.2⟩⟩
    rw [if_neg z]
    simp only [e, Nat.add_zero]
theorem wk_kpF {C : Nat → Bool} {g : Nat → Nat} {v c : Nat} (h : C v = false) : wk_kp C g v c = wk_kp C g (v + 1) c := by
  unfold wk_kp
  have e : (c % 8 < v ∧ C (c % 8) = true) ↔ (c % 8 < v + 1 ∧ C (c % 8) = true) := ⟨fun w => ⟨by omega, w.2⟩, fun w => ⟨by
    have w1 := w.1
    by_cases z : c % 8 = v
    · have w2 := w.2; rw [z, h] at w2; exact nomatch w2
    · omega, w.2⟩⟩
  simp only [e]
theorem wk_kp0 {C : Nat → Bool} {g : Nat → Nat} {c : Nat} : wk_kp C g 0 c = 0 := if_neg (fun w => by omega)
theorem wk_kp8 {C : Nat → Bool} {g : Nat → Nat} {c : Nat} : wk_kp C g 8 c = if C (c % 8) = true then g c else 0 := by
  unfold wk_kp
  have e : (c % 8 < 8 ∧ C (c % 8) = true) ↔ C (c % 8) = true := ⟨fun w => w.2, fun w => ⟨by omega, w⟩⟩
  simp only [e]
theorem wx_stay (hm : m ≤ 10) (hB : ∀ e, B e < 8) (eB : ∀ e, Ba e = nI (B e)) (hn : wk_P now g) (hx : wk_P nx h)
    (k : ∀ nx', wk_P nx' (fun c => h c + (if wk_W B (wk_F L n) (c % 8) m = false then g c else 0)) → post (nI m, sc, st, M, Ba, Ea, L, Ka, Va, now, nx')) : wpX_keepWithoutWayOut post (nI m, sc, st, M, Ba, Ea, L, Ka, Va, now, nx) n := by
  have key2 : ∀ w : Int32, (∀ v, v < 8 → bt w v = wk_W B (wk_F L n) v m) → ∀ f v nx, v ≤ 8 → 8 - v < f → wk_P nx (fun c => h c + wk_kp (fun v => ! wk_W B (wk_F L n) v m) g v c) → wX_keepWithoutWayOut_40 post w f (nI v) (nI m) sc st M Ba Ea L Ka Va now nx := by
    intro w hw f
    induction f with
    | zero => intro s nx _ h; omega
    | succ f ih =>
      intro v nx hv hf hI
      rcases Nat.lt_or_ge v 8 with z | z
      · have z3 := wk_ge8 z
        rw [wX_keepWithoutWayOut_40]
        refine br_f z3 (br_c (fun y => ?_) (fun y => nm_r (nI_1 v) ?_))
        · rw [wk_btv w z, hw v z] at y
          refine wx_send z z hn hI (fun nx' hI' => nm_r (nI_1 v) (ih (v + 1) nx' (by omega) (by omega) (wk_PC hI' (fun c hc => ?_))))
          rw [← wk_kpT (v := v) (by rw [y]; rfl)]
          omega
        · rw [wk_btv w z, hw v z] at y
          refine ih (v + 1) nx (by omega) (by omega) (wk_PC hI (fun c hc => ?_))
          rw [← wk_kpF (v := v) (by cases hq : wk_W B (wk_F L n) v m; exact absurd hq y; rfl)]
      · have z2 : v = 8 := by omega
        subst z2
        rw [wX_keepWithoutWayOut_40]
        refine br_t wk_le8 (k nx (wk_PC hI (fun c hc => ?_)))
        rw [wk_kp8]
        cases wk_W B (wk_F L n) (c % 8) m <;> rfl
  have key : ∀ f e w, e ≤ m → m - e < f → (∀ v, v < 8 → bt w v = wk_W B (wk_F L n) v e) → wX_keepWithoutWayOut_4 post n (nI m) sc st M Ba Ea L Ka Va now nx f w (nI e) := by
    intro f
    induction f with
    | zero => intro s nx _ h; omega
    | succ f ih =>
      intro e w he hf hI
      rcases Nat.lt_or_ge e m with z | z
      · have z3 : ¬ nI m ≤ nI e := nI_ge z (by omega)
        have i1 : vp_in (nI e) 10 := vp_in_nI (by omega) (by omega)
        have c1 : (nI e).toNatClampNeg = e := nI_clamp (by omega)
        rw [wX_keepWithoutWayOut_4]
        refine br_f z3 (wx_fits (by omega) (fun hF => br_f (by decide) ⟨i1, ?_⟩) (fun hF => br_t rfl (nm_r (nI_1 e) ?_)))
        · rw [c1, eB]
          refine nm_e (nm_r (nI_1 e) (ih (e + 1) _ (by omega) (by omega) (fun v hv => ?_)))
          have hBe := hB e
          rw [wk_btO w (by omega) (by omega), hI v hv]
          show _ = (wk_W B (wk_F L n) v e || (wk_F L n e && decide (B e = v)))
          rw [hF, Bool.true_and]
          congr 1
          by_cases q : v = B e
          · rw [decide_eq_true q, decide_eq_true q.symm]
          · rw [decide_eq_false q, decide_eq_false (fun w => q w.symm)]
        · refine ih (e + 1) w (by omega) (by omega) (fun v hv => ?_)
          show _ = (wk_W B (wk_F L n) v e || (wk_F L n e && decide (B e = v)))
          rw [hI v hv, hF, Bool.false_and, Bool.or_false]
      · have z2 : e = m := by omega
        subst z2
        rw [wX_keepWithoutWayOut_4]
        exact br_t (nI_le (Nat.le_refl _) (by omega)) ⟨9, key2 w hI 9 0 nx (by omega) (by omega) (wk_PC hx (fun c hc => by rw [wk_kp0]; rfl))⟩
  exact ⟨m + 1, key (m + 1) 0 0 (by omega) (by omega) (fun v hv => b_0 v)⟩
theorem wx_number {ec : Int32} (hn : wk_P now g) (hx : wk_P nx h)
    (k : ∀ nx', wk_P nx' (fun c => h c + (if n ≤ M (c % 8) then g c else 0)) → post (ec, sc, st, M, Ba, Ea, L, Ka, Va, now, nx')) : wpX_keepWithNumber post (ec, sc, st, M, Ba, Ea, L, Ka, Va, now, nx) n := by
  have key2 : ∀ f v nx, v ≤ 8 → 8 - v < f → wk_P nx (fun c => h c + wk_kp (fun v => decide (n ≤ M v)) g v c) → wX_keepWithNumber_2 post n f (nI v) ec sc st M Ba Ea L Ka Va now nx := by
    intro f
    induction f with
    | zero => intro s nx _ h; omega
    | succ f ih =>
      intro v nx hv hf hI
      rcases Nat.lt_or_ge v 8 with z | z
      · have z3 := wk_ge8 z
        have i1 : vp_in (nI v) 8 := vp_in_nI z (by omega)
        have c1 : (nI v).toNatClampNeg = v := nI_clamp (by omega)
        rw [wX_keepWithNumber_2]
        dsimp only
        rw [c1]
        refine br_f z3 ⟨i1, br_c (fun y => nm_r (nI_1 v) ?_) (fun y => ?_)⟩
        · refine ih (v + 1) nx (by omega) (by omega) (wk_PC hI (fun c hc => ?_))
          rw [← wk_kpF (v := v) (decide_eq_false (Int32.not_le.mpr y))]
        · refine wx_send z z hn hI (fun nx' hI' => nm_r (nI_1 v) (ih (v + 1) nx' (by omega) (by omega) (wk_PC hI' (fun c hc => ?_))))
          rw [← wk_kpT (v := v) (decide_eq_true (Int32.not_lt.mp y))]
          omega
      · have z2 : v = 8 := by omega
        subst z2
        rw [wX_keepWithNumber_2]
        refine br_t wk_le8 (k nx (wk_PC hI (fun c hc => ?_)))
        rw [wk_kp8]
        simp only [decide_eq_true_eq]
  exact ⟨9, key2 9 0 nx (by omega) (by omega) (wk_PC hx (fun c hc => by rw [wk_kp0]; rfl))⟩
theorem wx_home {ec : Int32} (hn : wk_P now g) (hx : wk_P nx (fun _ => 0))
    (k : ∀ nx', wk_P nx' (fun c => if c / 8 = c % 8 then g c else 0) → post (ec, sc, st, M, Ba, Ea, L, Ka, Va, now, nx')) : wpX_keepHome post (ec, sc, st, M, Ba, Ea, L, Ka, Va, now, nx) := by
  have key : ∀ f s nx, s ≤ 8 → 8 - s < f → wk_P nx (fun c => if c / 8 = c % 8 ∧ c % 8 < s then g c else 0) → wX_keepHome_2 post ec sc st f (nI s) M Ba Ea L Ka Va now nx := by
    intro f
    induction f with
    | zero => intro s nx _ h; omega
    | succ f ih =>
      intro s nx hs hf hI
      rcases Nat.lt_or_ge s 8 with z | z
      · have z3 := wk_ge8 z
        have i1 : vp_in (nI (8 * s + s)) 64 := vp_in_nI (by omega) (by omega)
        have c1 : (nI (8 * s + s)).toNatClampNeg = 8 * s + s := nI_clamp (by omega)
        simp only [wX_keepHome_2, z3, wk_ix, i1, c1, not_false_iff, true_implies, false_implies, true_and, forall_eq, nI_1]
        refine ih (s + 1) _ (by omega) (by omega) (wk_PU hI ?_ ?_)
        · rw [hn _ (by omega)]
          refine congrArg nI ?_
          rw [if_pos (by omega)]
        · intro c hc hne
          have e : (c / 8 = c % 8 ∧ c % 8 < s) ↔ (c / 8 = c % 8 ∧ c % 8 < s + 1) := by omega
          simp only [e]
      · have z2 : s = 8 := by omega
        subst z2
        simp only [wX_keepHome_2, wk_le8, not_true, true_implies, false_implies, and_true]
        refine k nx (wk_PC hI (fun c hc => ?_))
        have e : (c / 8 = c % 8 ∧ c % 8 < 8) ↔ c / 8 = c % 8 := by omega
        simp only [e]
  exact ⟨9, key 9 0 nx (by omega) (by omega) (wk_PC hx (fun c hc => by simp))⟩
theorem wx_away {ec : Int32} (hn : wk_P now g) (hx : wk_P nx (fun _ => 0))
    (k : ∀ nx', wk_P nx' (fun c => if c / 8 = c % 8 then 0 else g c) → post (ec, sc, st, M, Ba, Ea, L, Ka, Va, now, nx')) : wpX_keepAway post (ec, sc, st, M, Ba, Ea, L, Ka, Va, now, nx) := by
  have key2 : ∀ (s : Nat) (J : Int32 → (Nat → Int32) → (Nat → Int32) → (Nat → Int32) → (Nat → Int32) → (Nat → Int32) → (Nat → Int32) → (Nat → Int32) → (Nat → Int32) → Prop), s < 8 → (∀ nx, wk_P nx (fun c => if c / 8 ≠ c % 8 ∧ c < 8 * (s + 1) then g c else 0) → J (nI (s + 1)) M Ba Ea L Ka Va now nx) →
      ∀ f v nx, v ≤ 8 → 8 - v < f → wk_P nx (fun c => if c / 8 ≠ c % 8 ∧ c < 8 * s + v then g c else 0) → wX_keepAway_10 post J (nI s) ec sc st f (nI v) M Ba Ea L Ka Va now nx := by
    intro s J hs hJ f
    induction f with
    | zero => intro s nx _ h; omega
    | succ f ih =>
      intro v nx hv hf hI
      rcases Nat.lt_or_ge v 8 with z | z
      · have z3 := wk_ge8 z
        have i1 : vp_in (nI (8 * s + v)) 64 := vp_in_nI (by omega) (by omega)
        have c1 : (nI (8 * s + v)).toNatClampNeg = 8 * s + v := nI_clamp (by omega)
        by_cases y : s = v
        · have y2 : nI s = nI v := by rw [y]
          simp only [wX_keepAway_10, z3, y2, not_false_iff, not_true, true_implies, false_implies, true_and, and_true, forall_eq, nI_1]
          rw [← y2]
          refine ih (v + 1) _ (by omega) (by omega) (wk_PC hI (fun c hc => ?_))
          have e : (c / 8 ≠ c % 8 ∧ c < 8 * s + v) ↔ (c / 8 ≠ c % 8 ∧ c < 8 * s + (v + 1)) := by omega
          simp only [e]
        · have y2 : ¬ nI s = nI v := fun w => y ((nI_eq (by omega) (by omega)).mp w)
          simp only [wX_keepAway_10, z3, y2, wk_ix, i1, c1, not_false_iff, true_implies, false_implies, true_and, forall_eq, nI_1]
          refine ih (v + 1) _ (by omega) (by omega) (wk_PU hI ?_ ?_)
          · rw [hn _ (by omega)]
            refine congrArg nI ?_
            rw [if_pos (by omega)]
          · intro c hc hne
            have e : (c / 8 ≠ c % 8 ∧ c < 8 * s + v) ↔ (c / 8 ≠ c % 8 ∧ c < 8 * s + (v + 1)) := by omega
            simp only [e]
      · have z2 : v = 8 := by omega
        subst z2
        simp only [wX_keepAway_10, wk_le8, not_true, true_implies, false_implies, and_true, forall_eq, nI_1]
        refine hJ nx (wk_PC hI (fun c hc => ?_))
        have e : (c / 8 ≠ c % 8 ∧ c < 8 * s + 8) ↔ (c / 8 ≠ c % 8 ∧ c < 8 * (s + 1)) := by omega
        simp only [e]
  have key : ∀ f s nx, s ≤ 8 → 8 - s < f → wk_P nx (fun c => if c / 8 ≠ c % 8 ∧ c < 8 * s then g c else 0) → wX_keepAway_2 post ec sc st f (nI s) M Ba Ea L Ka Va now nx := by
    intro f
    induction f with
    | zero => intro s nx _ h; omega
    | succ f ih =>
      intro s nx hs hf hI
      rcases Nat.lt_or_ge s 8 with z | z
      · rw [wX_keepAway_2]
        exact br_f (wk_ge8 z) ⟨9, key2 s _ z (fun nx h => ih (s + 1) nx (by omega) (by omega) h) 9 0 nx (by omega) (by omega) hI⟩
      · have z2 : s = 8 := by omega
        subst z2
        rw [wX_keepAway_2]
        refine br_t wk_le8 (k nx (wk_PC hI (fun c hc => ?_)))
        by_cases y : c / 8 = c % 8
        · rw [if_neg (fun w => w.1 y), if_pos y]
        · rw [if_pos ⟨y, by omega⟩, if_neg y]
  exact ⟨9, key 9 0 nx (by omega) (by omega) (wk_PC hx (fun c hc => by simp))⟩
/-- one at each vertex: cell c -/
def wk_one (g : Nat → Nat) (c : Nat) : Nat := if 0 < g c ∧ wk_L g (c % 8) (c / 8) = false then 1 else 0
theorem wx_one {ec : Int32} (hg : ∀ c, c < 64 → g c < 2 ^ 31) (hn : wk_P now g) (hx : wk_P nx (fun _ => 0))
    (k : ∀ nx', wk_P nx' (wk_one g) → post (ec, sc, st, M, Ba, Ea, L, Ka, Va, now, nx')) : wpX_keepOneAtEachVertex post (ec, sc, st, M, Ba, Ea, L, Ka, Va, now, nx) := by
  have key2 : ∀ (v : Nat) (nx : Nat → Int32) (J : Int32 → (Nat → Int32) → (Nat → Int32) → (Nat → Int32) → (Nat → Int32) → (Nat → Int32) → (Nat → Int32) → (Nat → Int32) → (Nat → Int32) → Prop), v < 8 → wk_P nx (fun c => if c % 8 < v then wk_one g c else 0) → (∀ nx, wk_P nx (fun c => if c % 8 < v + 1 then wk_one g c else 0) → J (nI (v + 1)) M Ba Ea L Ka Va now nx) →
      ∀ f s, s ≤ 8 → 8 - s < f → wk_L g v s = false → wX_keepOneAtEachVertex_10 post J (nI v) ec sc st M Ba Ea L Ka Va now nx f (nI s) := by
    intro v nx J hv hI hJ f
    induction f with
    | zero => intro s _ h; omega
    | succ f ih =>
      intro s hs hf hL
      rcases Nat.lt_or_ge s 8 with z | z
      · have z3 := wk_ge8 z
        have i1 : vp_in (nI (8 * s + v)) 64 := vp_in_nI (by omega) (by omega)
        have c1 : (nI (8 * s + v)).toNatClampNeg = 8 * s + v := nI_clamp (by omega)
        have c2 := hn (8 * s + v) (by omega)
        have q1 : (8 * s + v) % 8 = v := by omega
        have q2 : (8 * s + v) / 8 = s := by omega
        by_cases y : 0 < g (8 * s + v)
        · have y2 : ¬ nI (g (8 * s + v)) ≤ 0 := fun w => by rw [wk_le0 (hg _ (by omega))] at w; omega
          simp only [wX_keepOneAtEachVertex_10, z3, wk_ix, i1, c1, c2, y2, not_false_iff, true_implies, false_implies, true_and, forall_eq, nI_1]
          refine hJ _ (wk_PU hI ?_ ?_)
          · show (1 : Int32) = nI _
            rw [q1, if_pos (by omega)]
            unfold wk_one
            rw [q1, q2, if_pos ⟨y, hL⟩]
            rfl
          · intro c hc hne
            by_cases w : c % 8 = v
            · rw [if_neg (by omega), if_pos (by omega)]
              unfold wk_one
              rw [w]
              refine (if_neg (fun w2 => ?_)).symm
              rcases Nat.lt_or_ge (c / 8) s with w3 | w3
              · have := wk_LI (g := g) (v := v) (r := c / 8) s w3 (by rw [show 8 * (c / 8) + v = c by omega]; exact w2.1)
                rw [hL] at this; exact nomatch this
              · have := wk_LI (g := g) (v := v) (r := s) (c / 8) (by omega) y
                rw [w2.2] at this; exact nomatch this
            · have e : c % 8 < v ↔ c % 8 < v + 1 := by omega
              simp only [e]
        · have y2 : nI (g (8 * s + v)) ≤ 0 := by rw [wk_le0 (hg _ (by omega))]; omega
          simp only [wX_keepOneAtEachVertex_10, z3, wk_ix, i1, c1, c2, y2, not_false_iff, not_true, true_implies, false_implies, true_and, and_true, forall_eq, nI_1]
          refine ih (s + 1) (by omega) (by omega) ?_
          show (wk_L g v s || decide (0 < g (8 * s + v))) = false
          rw [hL, decide_eq_false y]; rfl
      · have z2 : s = 8 := by omega
        subst z2
        simp only [wX_keepOneAtEachVertex_10, wk_le8, not_true, true_implies, false_implies, and_true, forall_eq, nI_1]
        refine hJ nx (wk_PC hI (fun c hc => ?_))
        by_cases w : c % 8 = v
        · rw [if_neg (by omega), if_pos (by omega)]
          unfold wk_one
          refine (if_neg (fun w2 => ?_)).symm
          have := wk_LI (g := g) (v := v) (r := c / 8) 8 (by omega) (by rw [show 8 * (c / 8) + v = c by omega]; exact w2.1)
          rw [hL] at this; exact nomatch this
        · have e : c % 8 < v ↔ c % 8 < v + 1 := by omega
          simp only [e]
  have key : ∀ f v nx, v ≤ 8 → 8 - v < f → wk_P nx (fun c => if c % 8 < v then wk_one g c else 0) → wX_keepOneAtEachVertex_2 post ec sc st f (nI v) M Ba Ea L Ka Va now nx := by
    intro f
    induction f with
    | zero => intro s nx _ h; omega
    | succ f ih =>
      intro v nx hv hf hI
      rcases Nat.lt_or_ge v 8 with z | z
      · rw [wX_keepOneAtEachVertex_2]
        exact br_f (wk_ge8 z) ⟨9, key2 v nx _ z hI (fun nx h => ih (v + 1) nx (by omega) (by omega) h) 9 0 (by omega) (by omega) rfl⟩
      · have z2 : v = 8 := by omega
        subst z2
        rw [wX_keepOneAtEachVertex_2]
        refine br_t wk_le8 (k nx (wk_PC hI (fun c hc => ?_)))
        rw [if_pos (by omega)]
  exact ⟨9, key 9 0 nx (by omega) (by omega) (wk_PC hx (fun c hc => by simp))⟩
end WKX
end
section
section WKX2
variable {sc st n : Int32} {M Ba Ea L Ka Va now nx : Nat → Int32} {B E Kn : Nat → Nat} {m : Nat} {g h : Nat → Nat} {post : SX → Prop}
theorem wx_copy {ec : Int32} (hx : wk_P nx h) (k : ∀ now', wk_P now' h → post (ec, sc, st, M, Ba, Ea, L, Ka, Va, now', nx)) : ∃ q, wX_doStep_134 post ec sc st q 0 M Ba Ea L Ka Va now nx := by
  have key : ∀ f i now, i ≤ 64 → 64 - i < f → (∀ c, c < i → now c = nI (h c)) → wX_doStep_134 post ec sc st f (nI i) M Ba Ea L Ka Va now nx := by
    intro f
    induction f with
    | zero => intro s nx _ h; omega
    | succ f ih =>
      intro i now hi hf hI
      rcases Nat.lt_or_ge i 64 with z | z
      · have z3 := wk_ge64 z
        have i1 : vp_in (nI i) 64 := vp_in_nI (by omega) (by omega)
        have c1 : (nI i).toNatClampNeg = i := nI_clamp (by omega)
        simp only [wX_doStep_134, z3, i1, c1, not_false_iff, true_implies, false_implies, true_and, forall_eq, nI_1]
        refine ih (i + 1) _ (by omega) (by omega) (fun c hc => ?_)
        by_cases e : c = i
        · subst e; rw [pk_us]; exact hx c z
        · rw [pk_un e]; exact hI c (by omega)
      · have z2 : i = 64 := by omega
        subst z2
        simp only [wX_doStep_134, wk_le64, not_true, true_implies, false_implies, and_true]
        exact k now hI
  exact ⟨65, key 65 0 now (by omega) (by omega) (fun c hc => by omega)⟩
theorem wx_step {k : Nat} (hk : k < 8) (hm : m ≤ 10) (hB : ∀ e, B e < 8) (hE : ∀ e, E e < 8) (eB : ∀ e, Ba e = nI (B e)) (eE : ∀ e, Ea e = nI (E e)) (hg : ∀ c, c < 64 → g c < 2 ^ 31) (hn : wk_P now g)
    (K : ∀ now' nx', wk_P now' (wk_st B E L M m k n g) → post (nI m, sc, st, M, Ba, Ea, L, Ka, Va, now', nx')) : wpX_doStep post (nI m, sc, st, M, Ba, Ea, L, Ka, Va, now, nx) (nI k) n := by
  have key : ∀ f i nx, i ≤ 64 → 64 - i < f → (∀ c, c < i → nx c = 0) → wX_doStep_2 post (nI k) n (nI m) sc st f (nI i) M Ba Ea L Ka Va now nx := by
    intro f
    induction f with
    | zero => intro s nx _ h; omega
    | succ f ih =>
      intro i nx hi hf hI
      rcases Nat.lt_or_ge i 64 with z | z
      · have i1 : vp_in (nI i) 64 := vp_in_nI (by omega) (by omega)
        have c1 : (nI i).toNatClampNeg = i := nI_clamp (by omega)
        rw [wX_doStep_2]
        dsimp only
        rw [c1]
        refine br_f (wk_ge64 z) ⟨i1, nm_e (nm_r (nI_1 i) (ih (i + 1) _ (by omega) (by omega) (fun c hc => ?_)))⟩
        by_cases e : c = i
        · subst e; rw [pk_us]
        · rw [pk_un e]; exact hI c (by omega)
      · have z2 : i = 64 := by omega
        subst z2
        have h0 : wk_P nx (fun _ => 0) := fun c hc => by rw [hI c hc]; rfl
        rw [wX_doStep_2]
        refine br_t wk_le64 ?_
        obtain rfl | rfl | rfl | rfl | rfl | rfl | rfl | rfl : k = 0 ∨ k = 1 ∨ k = 2 ∨ k = 3 ∨ k = 4 ∨ k = 5 ∨ k = 6 ∨ k = 7 := by omega
        · refine br_f (by decide) (br_f (by decide) (br_t (by decide) ?_))
          exact wx_out hm hB hE eB eE hn h0 (fun nx' h1 => wx_copy h1 (fun now' h2 => K now' nx' (wk_PC h2 (fun c hc => Nat.zero_add _))))
        · refine br_f (by decide) (br_f (by decide) (br_f (by decide) (br_t (by decide) ?_)))
          exact wx_in hm hB hE eB eE hn h0 (fun nx' h1 => wx_copy h1 (fun now' h2 => K now' nx' (wk_PC h2 (fun c hc => Nat.zero_add _))))
        · refine br_f (by decide) (br_f (by decide) (br_f (by decide) (br_f (by decide) (br_t (by decide) ?_))))
          refine wx_out hm hB hE eB eE hn h0 (fun nx' h1 => wx_in hm hB hE eB eE hn h1 (fun nx' h1 => wx_copy h1 (fun now' h2 => K now' nx' (wk_PC h2 (fun c hc => ?_)))))
          show 0 + _ + _ = _
          rw [Nat.zero_add]
          rfl
        · refine br_f (by decide) (br_f (by decide) (br_f (by decide) (br_f (by decide) (br_f (by decide) (br_t (by decide) ?_)))))
          refine wx_out hm hB hE eB eE hn h0 (fun nx' h1 => wx_stay hm hB eB hn h1 (fun nx' h1 => wx_copy h1 (fun now' h2 => K now' nx' (wk_PC h2 (fun c hc => ?_)))))
          show 0 + _ + _ = _
          rw [Nat.zero_add]
          rfl
        · refine br_f (by decide) (br_f (by decide) (br_f (by decide) (br_f (by decide) (br_f (by decide) (br_f (by decide) (br_t (by decide) ?_))))))
          exact wx_number hn h0 (fun nx' h1 => wx_copy h1 (fun now' h2 => K now' nx' (wk_PC h2 (fun c hc => Nat.zero_add _))))
        · refine br_f (by decide) (br_f (by decide) (br_f (by decide) (br_f (by decide) (br_f (by decide) (br_f (by decide) (br_f (by decide) (br_t (by decide) ?_)))))))
          exact wx_away hn h0 (fun nx' h1 => wx_copy h1 (fun now' h2 => K now' nx' (wk_PC h2 (fun c hc => rfl))))
        · refine br_f (by decide) (br_f (by decide) (br_f (by decide) (br_f (by decide) (br_f (by decide) (br_f (by decide) (br_f (by decide) (br_f (by decide) (br_t (by decide) ?_))))))))
          exact wx_home hn h0 (fun nx' h1 => wx_copy h1 (fun now' h2 => K now' nx' (wk_PC h2 (fun c hc => rfl))))
        · refine br_f (by decide) (br_t (by decide) ?_)
          exact wx_one hg hn h0 (fun nx' h1 => wx_copy h1 (fun now' h2 => K now' nx' (wk_PC h2 (fun c hc => rfl))))
  exact ⟨65, key 65 0 nx (by omega) (by omega) (fun c hc => by omega)⟩
theorem wx_place {ec : Int32} (k : ∀ now', wk_P now' (wk_g0 st) → post (ec, sc, st, M, Ba, Ea, L, Ka, Va, now', nx)) : wpX_placeAtStarts post (ec, sc, st, M, Ba, Ea, L, Ka, Va, now, nx) := by
  have key2 : ∀ f s now, s ≤ 8 → 8 - s < f → wk_P now (fun c => if c / 8 = c % 8 ∧ c % 8 < s then wk_b st (c / 8) else 0) → wX_placeAtStarts_23 post ec sc st f (nI s) M Ba Ea L Ka Va now nx := by
    intro f
    induction f with
    | zero => intro s nx _ h; omega
    | succ f ih =>
      intro s now hs hf hI
      rcases Nat.lt_or_ge s 8 with z | z
      · have z3 := wk_ge8 z
        have i1 : vp_in (nI (8 * s + s)) 64 := vp_in_nI (by omega) (by omega)
        have c1 : (nI (8 * s + s)).toNatClampNeg = 8 * s + s := nI_clamp (by omega)
        simp only [wX_placeAtStarts_23, z3, wk_ix, i1, c1, wk_bE, not_false_iff, true_implies, false_implies, true_and, forall_eq, nI_1]
        refine ih (s + 1) _ (by omega) (by omega) (wk_PU hI ?_ ?_)
        · refine congrArg nI ?_
          have q : (8 * s + s) / 8 = s := by omega
          rw [if_pos (by omega), q]
        · intro c hc hne
          have e : (c / 8 = c % 8 ∧ c % 8 < s) ↔ (c / 8 = c % 8 ∧ c % 8 < s + 1) := by omega
          simp only [e]
      · have z2 : s = 8 := by omega
        subst z2
        simp only [wX_placeAtStarts_23, wk_le8, not_true, true_implies, false_implies, and_true]
        refine k now (wk_PC hI (fun c hc => ?_))
        have e : (c / 8 = c % 8 ∧ c % 8 < 8) ↔ c / 8 = c % 8 := by omega
        simp only [e]
        rfl
  have key : ∀ f i now, i ≤ 64 → 64 - i < f → (∀ c, c < i → now c = 0) → wX_placeAtStarts_2 post ec sc st f (nI i) M Ba Ea L Ka Va now nx := by
    intro f
    induction f with
    | zero => intro s nx _ h; omega
    | succ f ih =>
      intro i now hi hf hI
      rcases Nat.lt_or_ge i 64 with z | z
      · have i1 : vp_in (nI i) 64 := vp_in_nI (by omega) (by omega)
        have c1 : (nI i).toNatClampNeg = i := nI_clamp (by omega)
        rw [wX_placeAtStarts_2]
        dsimp only
        rw [c1]
        refine br_f (wk_ge64 z) ⟨i1, nm_e (nm_r (nI_1 i) (ih (i + 1) _ (by omega) (by omega) (fun c hc => ?_)))⟩
        by_cases e : c = i
        · subst e; rw [pk_us]
        · rw [pk_un e]; exact hI c (by omega)
      · have z2 : i = 64 := by omega
        subst z2
        rw [wX_placeAtStarts_2]
        exact br_t wk_le64 ⟨9, key2 9 0 now (by omega) (by omega) (fun c hc => by rw [hI c hc]; dsimp only; rw [if_neg (fun w => by omega)]; rfl)⟩
  exact ⟨65, key 65 0 now (by omega) (by omega) (fun c hc => by omega)⟩
theorem wx_walk {j : Nat} (hj : j ≤ 6) (hm : m ≤ 10) (hB : ∀ e, B e < 8) (hE : ∀ e, E e < 8) (eB : ∀ e, Ba e = nI (B e)) (eE : ∀ e, Ea e = nI (E e)) (hK : ∀ i, Kn i < 8) (eK : ∀ i, Ka i = nI (Kn i))
    (k : ∀ now' nx', wk_P now' (wk_g B E L M m Kn Va st j) → post (nI m, sc, st, M, Ba, Ea, L, Ka, Va, now', nx')) : wpX_walk post (nI m, sc, st, M, Ba, Ea, L, Ka, Va, now, nx) (nI j) := by
  have key : ∀ f i now nx, i ≤ j → j - i < f → wk_P now (wk_g B E L M m Kn Va st i) → wX_walk_6 post (nI j) f (nI i) (nI m) sc st M Ba Ea L Ka Va now nx := by
    intro f
    induction f with
    | zero => intro i now nx _ h; omega
    | succ f ih =>
      intro i now nx hi hf hI
      rcases Nat.lt_or_ge i j with z | z
      · have i1 : vp_in (nI i) 6 := vp_in_nI (by omega) (by omega)
        have c1 : (nI i).toNatClampNeg = i := nI_clamp (by omega)
        rw [wX_walk_6]
        dsimp only
        rw [c1, eK]
        exact br_f (nI_ge z (by omega)) ⟨i1, i1, wx_step (hK i) hm hB hE eB eE (fun c hc => by have := wk_gB6 (L := L) (M := M) (K := Kn) (V := Va) (st := st) hB hE hm (i := i) (by omega) hc; omega) hI (fun now' nx' h' => nm_r (nI_1 i) (ih (i + 1) now' nx' (by omega) (by omega) h'))⟩
      · have z2 : i = j := by omega
        subst z2
        rw [wX_walk_6]
        exact br_t (nI_le (Nat.le_refl _) (by omega)) (k now nx hI)
  unfold wpX_walk
  dsimp only
  exact wx_place (fun now' h0 => ⟨j + 1, key (j + 1) 0 now' nx (by omega) (by omega) h0⟩)
theorem wx_countAt {ec : Int32} {post : Int32 → Prop} {v : Nat} (hv : v < 8) (hn : wk_P now g) (k : post (nI (wk_sm (fun s => g (8 * s + v)) 8))) : wpX_countAt post (ec, sc, st, M, Ba, Ea, L, Ka, Va, now, nx) (nI v) := by
  have key : ∀ f s, s ≤ 8 → 8 - s < f → wX_countAt_4 post (nI v) ec sc st M Ba Ea L Ka Va now nx f (nI (wk_sm (fun s => g (8 * s + v)) s)) (nI s) := by
    intro f
    induction f with
    | zero => intro s _ h; omega
    | succ f ih =>
      intro s hs hf
      rcases Nat.lt_or_ge s 8 with z | z
      · have z3 := wk_ge8 z
        have i1 : vp_in (nI (8 * s + v)) 64 := vp_in_nI (by omega) (by omega)
        have c1 : (nI (8 * s + v)).toNatClampNeg = 8 * s + v := nI_clamp (by omega)
        have c2 := hn (8 * s + v) (by omega)
        simp only [wX_countAt_4, z3, wk_ix, i1, c1, c2, not_false_iff, true_implies, false_implies, true_and, forall_eq, nI_1, nI_add]
        exact ih (s + 1) (by omega) (by omega)
      · have z2 : s = 8 := by omega
        subst z2
        simp only [wX_countAt_4, wk_le8, not_true, true_implies, false_implies, and_true]
        exact k
  exact ⟨9, key 9 0 (by omega) (by omega)⟩
theorem wx_countAll {ec : Int32} {post : Int32 → Prop} (hn : wk_P now g) (k : post (nI (wk_sm g 64))) : wpX_countAll post (ec, sc, st, M, Ba, Ea, L, Ka, Va, now, nx) := by
  have key : ∀ f s, s ≤ 64 → 64 - s < f → wX_countAll_4 post ec sc st M Ba Ea L Ka Va now nx f (nI (wk_sm g s)) (nI s) := by
    intro f
    induction f with
    | zero => intro s _ h; omega
    | succ f ih =>
      intro s hs hf
      rcases Nat.lt_or_ge s 64 with z | z
      · have z3 := wk_ge64 z
        have i1 : vp_in (nI s) 64 := vp_in_nI (by omega) (by omega)
        have c1 : (nI s).toNatClampNeg = s := nI_clamp (by omega)
        have c2 := hn s (by omega)
        simp only [wX_countAll_4, z3, i1, c1, c2, not_false_iff, true_implies, false_implies, true_and, forall_eq, nI_1, nI_add]
        exact ih (s + 1) (by omega) (by omega)
      · have z2 : s = 64 := by omega
        subst z2
        simp only [wX_countAll_4, wk_le64, not_true, true_implies, false_implies, and_true]
        exact k
  exact ⟨65, key 65 0 (by omega) (by omega)⟩
/-- are there walkers at i -/
def wk_R (g : Nat → Nat) (i : Nat) : Bool := decide (i < 8 ∧ 0 < wk_sm (fun s => g (8 * s + i)) 8)
theorem wx_reached {ec : Int32} {post : Int32 → SX → Prop} (hg : ∀ c, c < 64 → g c ≤ 64000000) (hn : wk_P now g) (k : ∀ w, (∀ i, i < 32 → bt w i = wk_R g i) → post w (ec, sc, st, M, Ba, Ea, L, Ka, Va, now, nx)) : ∃ q, wX_reached_12 post ec sc st M Ba Ea L Ka Va now nx q 0 0 := by
  have key : ∀ f v w, v ≤ 8 → 8 - v < f → (∀ i, i < 32 → bt w i = (decide (i < v) && wk_R g i)) → wX_reached_12 post ec sc st M Ba Ea L Ka Va now nx f w (nI v) := by
    intro f
    induction f with
    | zero => intro v w _ h; omega
    | succ f ih =>
      intro v w hv hf hI
      rcases Nat.lt_or_ge v 8 with z | z
      · rw [wX_reached_12]
        have hb : wk_sm (fun s => g (8 * s + v)) 8 < 2 ^ 31 := Nat.lt_of_le_of_lt (wk_smB (K := 64000000) (fun s hs => hg _ (by omega))) (by decide)
        refine br_f (wk_ge8 z) (wx_countAt z hn (br_c (fun y => nm_r (nI_1 v) (ih (v + 1) w (by omega) (by omega) (fun i hi => ?_))) (fun y => nm_e (nm_r (nI_1 v) (ih (v + 1) _ (by omega) (by omega) (fun i hi => ?_))))))
        · rw [wk_le0 hb] at y
          rw [hI i hi]
          by_cases q : i = v
          · subst q
            have r0 : wk_R g i = false := decide_eq_false (fun w => by omega)
            rw [r0, Bool.and_false, Bool.and_false]
          · have e : i < v ↔ i < v + 1 := by omega
            simp only [e]
        · rw [wk_le0 hb] at y
          rw [wk_btO w (by omega) hi, hI i hi]
          by_cases q : i = v
          · subst q
            have r0 : wk_R g i = true := decide_eq_true ⟨z, by omega⟩
            rw [r0, decide_eq_true (rfl : i = i), decide_eq_true (by omega : i < i + 1), Bool.or_true]
            rfl
          · have e : i < v ↔ i < v + 1 := by omega
            rw [decide_eq_false q, Bool.or_false]
            simp only [e]
      · have z2 : v = 8 := by omega
        subst z2
        rw [wX_reached_12]
        refine br_t wk_le8 (k w (fun i hi => ?_))
        rw [hI i hi]
        by_cases q : i < 8
        · rw [decide_eq_true q, Bool.true_and]
        · have r0 : wk_R g i = false := decide_eq_false (fun w => q w.1)
          rw [r0, Bool.and_false]
  exact ⟨9, key 9 0 0 (by omega) (by omega) (fun i hi => by rw [b_0, decide_eq_false (by omega), Bool.false_and])⟩
theorem wx_startsAt {ec : Int32} {post : Int32 → SX → Prop} {v : Nat} (hv : v < 8) (hg : ∀ c, c < 64 → g c < 2 ^ 31) (hn : wk_P now g) (k : post (wk_S g v 8) (ec, sc, st, M, Ba, Ea, L, Ka, Va, now, nx)) : ∃ q, wX_startsAt_21 post (nI v) ec sc st M Ba Ea L Ka Va now nx q 0 0 := by
  have key : ∀ f s, s ≤ 8 → 8 - s < f → wX_startsAt_21 post (nI v) ec sc st M Ba Ea L Ka Va now nx f (wk_S g v s) (nI s) := by
    intro f
    induction f with
    | zero => intro s _ h; omega
    | succ f ih =>
      intro s hs hf
      rcases Nat.lt_or_ge s 8 with z | z
      · have z3 := wk_ge8 z
        have i1 : vp_in (nI (8 * s + v)) 64 := vp_in_nI (by omega) (by omega)
        have c1 : (nI (8 * s + v)).toNatClampNeg = 8 * s + v := nI_clamp (by omega)
        have c2 := hn (8 * s + v) (by omega)
        have c3 := wk_le0 (hg (8 * s + v) (by omega))
        have I := ih (s + 1) (by omega) (by omega)
        have e : wk_S g v (s + 1) = if 0 < g (8 * s + v) then wk_S g v s ||| ((1 : Int32) <<< (nI s &&& 31)) else wk_S g v s := rfl
        rw [e] at I
        rw [wX_startsAt_21]
        dsimp only
        rw [wk_ix, c1, c2]
        refine br_f z3 ⟨i1, br_c (fun y => nm_r (nI_1 s) ?_) (fun y => nm_e (nm_r (nI_1 s) ?_))⟩
        · rw [c3] at y
          rw [if_neg (by omega)] at I
          exact I
        · rw [c3] at y
          rw [if_pos (by omega)] at I
          exact I
      · have z2 : s = 8 := by omega
        subst z2
        rw [wX_startsAt_21]
        exact br_t wk_le8 k
  exact ⟨9, key 9 0 (by omega) (by omega)⟩
/-- the least number of steps after which none is left -/
def wk_D (G : Nat → Nat → Nat) : Nat → Nat → Int32
  | 0, _ => -1
  | d + 1, i => if nI (wk_sm (G i) 64) = 0 then nI i else wk_D G d (i + 1)
theorem wx_dies {p : Nat} {post : Int32 → SX → Prop} (hp : p ≤ 6) (hm : m ≤ 10) (hB : ∀ e, B e < 8) (hE : ∀ e, E e < 8) (eB : ∀ e, Ba e = nI (B e)) (eE : ∀ e, Ea e = nI (E e)) (hK : ∀ i, Kn i < 8) (eK : ∀ i, Ka i = nI (Kn i)) :
    ∀ d i now nx, i + d = p + 1 → (∀ now nx, post (wk_D (wk_g B E L M m Kn Va st) d i) (nI m, nI p, st, M, Ba, Ea, L, Ka, Va, now, nx)) → wX_diesAfter_2 post (d + 1) (nI i) (nI m) (nI p) st M Ba Ea L Ka Va now nx := by
  intro d
  induction d with
  | zero =>
    intro i now nx hi k
    rw [wX_diesAfter_2]
    exact br_t (nI_lt (by omega) (by omega)) (k now nx)
  | succ d ih =>
    intro i now nx hi k
    rw [wX_diesAfter_2]
    have e : wk_D (wk_g B E L M m Kn Va st) (d + 1) i = if nI (wk_sm (wk_g B E L M m Kn Va st i) 64) = 0 then nI i else wk_D (wk_g B E L M m Kn Va st) d (i + 1) := rfl
    rw [e] at k
    refine br_f (nI_nlt (by omega) (by omega)) (wx_walk (j := i) (by omega) hm hB hE eB eE hK eK (fun now' nx' h => ?_))
    dsimp only
    refine wx_countAll h (br_c (fun y => ?_) (fun y => nm_r (nI_1 i) ?_))
    · rw [if_pos y] at k
      exact k now' nx'
    · rw [if_neg y] at k
      exact ih (i + 1) now' nx' (by omega) k
end WKX2
end
section
section WKY
variable {sc st n : Int32} {M Ba Ea L Ka Va Vb now nx : Nat → Int32} {B E Kn : Nat → Nat} {m : Nat} {g h : Nat → Nat}
theorem wk_dv {c : Nat} (h : c < 64) : nI c / 8 = nI (c / 8) := pk_div (d := 8) (by omega) (by decide) (by decide)
theorem wk_rm {c : Nat} (h : c < 64) : nI c - nI c / 8 * 8 = nI (c % 8) := pk_rem (d := 8) (by omega) (by decide) (by decide)
theorem wk_n8 : ¬ (8 : Int32) = 0 := by decide
/-- what one edge brings from cell 8 s + v to cell x -/
theorem wk_dE {F : Nat → Bool} {o i : Bool} {s v x e : Nat} (hs : s < 8) (hv : v < 8) (hx : x < 64) (hB : ∀ e, B e < 8) (hE : ∀ e, E e < 8) : wk_d B E F o i g (8 * s + v) x e = (if (F e = true ∧ o = true ∧ B e = v) ∧ x = 8 * s + E e then g (8 * s + v) else 0) + (if (F e = true ∧ i = true ∧ E e = v) ∧ x = 8 * s + B e then g (8 * s + v) else 0) := by
  have h1 := hB e
  have h2 := hE e
  have e1 : (F e = true ∧ o = true ∧ E e = x % 8 ∧ 8 * (x / 8) + B e = 8 * s + v) ↔ ((F e = true ∧ o = true ∧ B e = v) ∧ x = 8 * s + E e) := ⟨fun w => ⟨⟨w.1, w.2.1, by omega⟩, by omega⟩, fun w => ⟨w.1.1, w.1.2.1, by omega, by omega⟩⟩
  have e2 : (F e = true ∧ i = true ∧ B e = x % 8 ∧ 8 * (x / 8) + E e = 8 * s + v) ↔ ((F e = true ∧ i = true ∧ E e = v) ∧ x = 8 * s + B e) := ⟨fun w => ⟨⟨w.1, w.2.1, by omega⟩, by omega⟩, fun w => ⟨w.1.1, w.1.2.1, by omega, by omega⟩⟩
  unfold wk_d
  simp only [e1, e2]
def wk_i (b : Bool) : Int32 := if b = true then 1 else 0
theorem wk_iT {b : Bool} (h : b = true) : ¬ wk_i b = 0 := by rw [h]; decide
theorem wk_iF {b : Bool} (h : b = false) : wk_i b = 0 := by rw [h]; rfl
theorem wy_93 {post : Int32 → SY → Prop} {J : Int32 → Int32 → (Nat → Int32) → (Nat → Int32) → (Nat → Int32) → (Nat → Int32) → (Nat → Int32) → (Nat → Int32) → (Nat → Int32) → (Nat → Int32) → Prop} {s v e N : Nat} {l : Int32} {fb o i : Bool} (hs : s < 8) (hv : v < 8) (he : e < 10) (hB : ∀ e, B e < 8) (hE : ∀ e, E e < 8) (eB : ∀ e, Ba e = nI (B e)) (eE : ∀ e, Ea e = nI (E e)) (hn : wk_P now g) (hx : wk_P nx h)
    (k : ∀ nx', wk_P nx' (fun x => h x + (if (fb = true ∧ i = true ∧ E e = v) ∧ x = 8 * s + B e then g (8 * s + v) else 0)) → J (nI (N + (if fb = true ∧ i = true ∧ E e = v then 1 else 0))) (nI (e + 1)) M Ba Ea L Ka Vb now nx') :
    wY_send_93 post J (nI s) (nI v) l (wk_i o) (wk_i i) (nI N) (nI e) (wk_i fb) (nI m) sc st M Ba Ea L Ka Vb now nx := by
  have i1 : vp_in (nI e) 10 := vp_in_nI (by omega) (by omega)
  have c1 : (nI e).toNatClampNeg = e := nI_clamp (by omega)
  have hb := hB e
  have c2 : (nI (8 * s + B e)).toNatClampNeg = 8 * s + B e := nI_clamp (by omega)
  have c3 : (nI (8 * s + v)).toNatClampNeg = 8 * s + v := nI_clamp (by omega)
  have j1 : vp_in (nI (8 * s + B e)) 64 := vp_in_nI (by omega) (by omega)
  have j2 : vp_in (nI (8 * s + v)) 64 := vp_in_nI (by omega) (by omega)
  unfold wY_send_93
  rw [c1, eB, eE, wk_iy, wk_iy, c2, c3]
  by_cases q : fb = true ∧ i = true ∧ E e = v
  · rw [if_pos q] at k
    refine br_f (wk_iT q.1) (br_f (wk_iT q.2.1) ⟨i1, br_t (by rw [q.2.2]) ⟨i1, j1, j2, j1, nm_e (nm_r (nI_1 N) (nm_r (nI_1 e) (k _ (wk_PU hx ?_ ?_))))⟩⟩)
    · rw [hx _ (by omega), hn _ (by omega), nI_add, if_pos ⟨q, rfl⟩]
    · intro c hc hne
      rw [if_neg (fun w => hne w.2), Nat.add_zero]
  · rw [if_neg q, Nat.add_zero] at k
    have K := k nx (wk_PC hx (fun c hc => by rw [if_neg (fun w => q w.1), Nat.add_zero]))
    refine br_c (fun _ => nm_r (nI_1 e) K) (fun z1 => br_c (fun _ => nm_r (nI_1 e) K) (fun z2 => ⟨i1, br_f (fun w => q ?_) (nm_r (nI_1 e) K)⟩))
    have h2 := hE e
    refine ⟨?_, ?_, (nI_eq (by omega) (by omega)).mp w⟩
    · cases hq : fb
      · exact absurd (wk_iF hq) z1
      · rfl
    · cases hq : i
      · exact absurd (wk_iF hq) z2
      · rfl
theorem wy_36 {post : Int32 → SY → Prop} {J : Int32 → Int32 → (Nat → Int32) → (Nat → Int32) → (Nat → Int32) → (Nat → Int32) → (Nat → Int32) → (Nat → Int32) → (Nat → Int32) → (Nat → Int32) → Prop} {s v e N : Nat} {l : Int32} {fb o i : Bool} (hs : s < 8) (hv : v < 8) (he : e < 10) (hB : ∀ e, B e < 8) (hE : ∀ e, E e < 8) (eB : ∀ e, Ba e = nI (B e)) (eE : ∀ e, Ea e = nI (E e)) (hn : wk_P now g) (hx : wk_P nx h)
    (k : ∀ nx', wk_P nx' (fun x => h x + (if (fb = true ∧ o = true ∧ B e = v) ∧ x = 8 * s + E e then g (8 * s + v) else 0)) → wY_send_93 post J (nI s) (nI v) l (wk_i o) (wk_i i) (nI (N + (if fb = true ∧ o = true ∧ B e = v then 1 else 0))) (nI e) (wk_i fb) (nI m) sc st M Ba Ea L Ka Vb now nx') :
    wY_send_36 post J (nI s) (nI v) l (wk_i o) (wk_i i) (nI N) (nI e) (wk_i fb) (nI m) sc st M Ba Ea L Ka Vb now nx := by
  have i1 : vp_in (nI e) 10 := vp_in_nI (by omega) (by omega)
  have c1 : (nI e).toNatClampNeg = e := nI_clamp (by omega)
  have hb := hE e
  have c2 : (nI (8 * s + E e)).toNatClampNeg = 8 * s + E e := nI_clamp (by omega)
  have c3 : (nI (8 * s + v)).toNatClampNeg = 8 * s + v := nI_clamp (by omega)
  have j1 : vp_in (nI (8 * s + E e)) 64 := vp_in_nI (by omega) (by omega)
  have j2 : vp_in (nI (8 * s + v)) 64 := vp_in_nI (by omega) (by omega)
  unfold wY_send_36
  rw [c1, eB, eE, wk_iy, wk_iy, c2, c3]
  by_cases q : fb = true ∧ o = true ∧ B e = v
  · rw [if_pos q] at k
    refine br_f (wk_iT q.1) (br_f (wk_iT q.2.1) ⟨i1, br_t (by rw [q.2.2]) ⟨i1, j1, j2, j1, nm_e (nm_r (nI_1 N) (k _ (wk_PU hx ?_ ?_)))⟩⟩)
    · rw [hx _ (by omega), hn _ (by omega), nI_add, if_pos ⟨q, rfl⟩]
    · intro c hc hne
      rw [if_neg (fun w => hne w.2), Nat.add_zero]
  · rw [if_neg q, Nat.add_zero] at k
    have K := k nx (wk_PC hx (fun c hc => by rw [if_neg (fun w => q w.1), Nat.add_zero]))
    refine br_c (fun _ => K) (fun z1 => br_c (fun _ => K) (fun z2 => ⟨i1, br_f (fun w => q ?_) K⟩))
    have h2 := hB e
    refine ⟨?_, ?_, (nI_eq (by omega) (by omega)).mp w⟩
    · cases hq : fb
      · exact absurd (wk_iF hq) z1
      · rfl
    · cases hq : o
      · exact absurd (wk_iF hq) z2
      · rfl
theorem wy_send {post : Int32 → SY → Prop} {s v : Nat} {o i : Bool} (hs : s < 8) (hv : v < 8) (hm : m ≤ 10) (hB : ∀ e, B e < 8) (hE : ∀ e, E e < 8) (eB : ∀ e, Ba e = nI (B e)) (eE : ∀ e, Ea e = nI (E e)) (hn : wk_P now g) (hx : wk_P nx h)
    (k : ∀ nx', wk_P nx' (fun x => h x + wk_sm (wk_d B E (wk_F L n) o i g (8 * s + v) x) m) → post (nI (wk_N B E (wk_F L n) o i v m)) (nI m, sc, st, M, Ba, Ea, L, Ka, Vb, now, nx')) : wpY_send post (nI m, sc, st, M, Ba, Ea, L, Ka, Vb, now, nx) (nI s) (nI v) n (wk_i o) (wk_i i) := by
  have key : ∀ f e nx, e ≤ m → m - e < f → wk_P nx (fun x => h x + wk_sm (wk_d B E (wk_F L n) o i g (8 * s + v) x) e) → wY_send_6 post (nI s) (nI v) n (wk_i o) (wk_i i) (nI m) sc st f (nI (wk_N B E (wk_F L n) o i v e)) (nI e) M Ba Ea L Ka Vb now nx := by
    intro f
    induction f with
    | zero => intro s nx _ h; omega
    | succ f ih =>
      intro e nx he hf hI
      rcases Nat.lt_or_ge e m with z | z
      · have i1 : vp_in (nI e) 10 := vp_in_nI (by omega) (by omega)
        have c1 : (nI e).toNatClampNeg = e := nI_clamp (by omega)
        have main : wY_send_36 post (wY_send_6 post (nI s) (nI v) n (wk_i o) (wk_i i) (nI m) sc st f) (nI s) (nI v) n (wk_i o) (wk_i i) (nI (wk_N B E (wk_F L n) o i v e)) (nI e) (wk_i (wk_F L n e)) (nI m) sc st M Ba Ea L Ka Vb now nx := by
          refine wy_36 hs hv (by omega) hB hE eB eE hn hI (fun nx1 h1 => wy_93 hs hv (by omega) hB hE eB eE hn h1 (fun nx2 h2 => ?_))
          refine ih (e + 1) nx2 (by omega) (by omega) (wk_PC h2 (fun x hx => ?_))
          show _ = h x + (wk_sm (wk_d B E (wk_F L n) o i g (8 * s + v) x) e + wk_d B E (wk_F L n) o i g (8 * s + v) x e)
          rw [wk_dE hs hv hx hB hE]
          omega
        rw [wY_send_6]
        dsimp only
        rw [c1]
        refine br_f (nI_ge z (by omega)) (br_c (fun y => ?_) (fun y => ⟨i1, br_c (fun w => ?_) (fun w => ?_)⟩))
        · have hF : wk_F L n e = true := decide_eq_true (Or.inl y)
          rw [hF] at main
          exact main
        · have hF : wk_F L n e = true := decide_eq_true (Or.inr w)
          rw [hF] at main
          exact main
        · have hF : wk_F L n e = false := decide_eq_false (fun q => q.elim y w)
          rw [hF] at main
          exact main
      · have z2 : e = m := by omega
        subst z2
        rw [wY_send_6]
        exact br_t (nI_le (Nat.le_refl _) (by omega)) (k nx hI)
  exact ⟨m + 1, key (m + 1) 0 nx (by omega) (by omega) (wk_PC hx (fun c hc => rfl))⟩
theorem wy_lesser {post : Int32 → Prop} {ec : Int32} {s v : Nat} (hs : s < 8) (hv : v < 8) (hg : ∀ c, c < 64 → g c < 2 ^ 31) (hn : wk_P now g) (k : post (wk_i (wk_L g v s))) : wpY_lesser post (ec, sc, st, M, Ba, Ea, L, Ka, Vb, now, nx) (nI s) (nI v) := by
  have key : ∀ f r, r ≤ s → s - r < f → wY_lesser_5 post (nI s) (nI v) ec sc st M Ba Ea L Ka Vb now nx f (wk_i (wk_L g v r)) (nI r) := by
    intro f
    induction f with
    | zero => intro r _ h; omega
    | succ f ih =>
      intro r hr hf
      rcases Nat.lt_or_ge r s with z | z
      · have i1 : vp_in (nI (8 * r + v)) 64 := vp_in_nI (by omega) (by omega)
        have c1 : (nI (8 * r + v)).toNatClampNeg = 8 * r + v := nI_clamp (by omega)
        have c2 := hn (8 * r + v) (by omega)
        have c3 := wk_le0 (hg (8 * r + v) (by omega))
        have I := ih (r + 1) (by omega) (by omega)
        have e : wk_L g v (r + 1) = (wk_L g v r || decide (0 < g (8 * r + v))) := rfl
        rw [e] at I
        rw [wY_lesser_5]
        dsimp only
        rw [wk_iy, c1, c2]
        refine br_f (nI_ge z (by omega)) ?_
        cases hL : wk_L g v r
        · rw [hL] at I
          refine br_t rfl ⟨i1, br_c (fun y => nm_r (nI_1 r) ?_) (fun y => nm_r (nI_1 r) ?_)⟩
          · rw [c3] at y
            rw [decide_eq_false (by omega)] at I
            exact I
          · rw [c3] at y
            rw [decide_eq_true (by omega)] at I
            exact I
        · rw [hL, Bool.true_or] at I
          exact br_f (by decide) (nm_r (nI_1 r) I)
      · have z2 : r = s := by omega
        subst z2
        rw [wY_lesser_5]
        refine br_t (nI_le (Nat.le_refl _) (by omega)) ⟨?_, k⟩
        cases wk_L g v r <;> rfl
  exact ⟨s + 1, key (s + 1) 0 (by omega) (by omega)⟩
/-- the reference's picture when the cells below c are done -/
def wk_V (B E : Nat → Nat) (L M : Nat → Int32) (m k : Nat) (n : Int32) (g : Nat → Nat) (c x : Nat) : Nat :=
  if k ≤ 3 then wk_T B E (wk_F L n) (decide (k ≠ 1)) (decide (k = 1 ∨ k = 2)) (decide (k = 3)) m g c x
  else if x < c then wk_st B E L M m k n g x else 0
theorem wk_V0 {k : Nat} (x : Nat) : wk_V B E L M m k n g 0 x = 0 := by
  unfold wk_V
  split
  · exact wk_T0 _ _ _ _ _ _ _ _ _
  · exact if_neg (by omega)
theorem wk_st0 {k c : Nat} (hk : ¬ k ≤ 3) (h : g c = 0) : wk_st B E L M m k n g c = 0 := by
  have h0 : ¬ k = 0 := by omega
  have h1 : ¬ k = 1 := by omega
  have h2 : ¬ k = 2 := by omega
  have h3 : ¬ k = 3 := by omega
  unfold wk_st
  simp [h0, h1, h2, h3, h]
theorem wk_VZ {k c : Nat} (h : g c = 0) (x : Nat) : wk_V B E L M m k n g (c + 1) x = wk_V B E L M m k n g c x := by
  unfold wk_V
  split
  · exact wk_TZ h x
  · rename_i hk
    by_cases z : x = c
    · subst z
      rw [if_pos (by omega), if_neg (by omega)]
      exact wk_st0 hk h
    · have e : x < c + 1 ↔ x < c := by omega
      simp only [e]
theorem wk_Ve {k : Nat} (hk : k < 8) (hB : ∀ e, B e < 8) (hE : ∀ e, E e < 8) {x : Nat} (hx : x < 64) : wk_V B E L M m k n g 64 x = wk_st B E L M m k n g x := by
  unfold wk_V
  split
  · rename_i h3
    rw [wk_Te hB hE hx]
    obtain rfl | rfl | rfl | rfl : k = 0 ∨ k = 1 ∨ k = 2 ∨ k = 3 := by omega
    · simp [wk_st]
    · simp [wk_st]
    · simp [wk_st]
    · simp [wk_st]
  · first | rfl | exact if_pos hx
theorem wy_step {post : SY → Prop} {k s v : Nat} (hk : k < 8) (hs : s < 8) (hv : v < 8) (hm : m ≤ 10) (hB : ∀ e, B e < 8) (hE : ∀ e, E e < 8) (eB : ∀ e, Ba e = nI (B e)) (eE : ∀ e, Ea e = nI (E e)) (hg : ∀ c, c < 64 → g c < 2 ^ 31) (hp : 0 < g (8 * s + v)) (hn : wk_P now g) (hx : wk_P nx (wk_V B E L M m k n g (8 * s + v)))
    (K : ∀ nx', wk_P nx' (wk_V B E L M m k n g (8 * s + v + 1)) → post (nI m, sc, st, M, Ba, Ea, L, Ka, Vb, now, nx')) : wpY_step post (nI m, sc, st, M, Ba, Ea, L, Ka, Vb, now, nx) (nI k) n (nI s) (nI v) := by
  have i5 : vp_in (nI (8 * s + v)) 64 := vp_in_nI (by omega) (by omega)
  have c5 : (nI (8 * s + v)).toNatClampNeg = 8 * s + v := nI_clamp (by omega)
  have q1 : (8 * s + v) % 8 = v := by omega
  have q2 : (8 * s + v) / 8 = s := by omega
  have lo : ∀ (o i : Bool), k ≤ 3 → decide (k ≠ 1) = o → decide (k = 1 ∨ k = 2) = i → wY_step_44 post (nI k) (nI (8 * s + v)) (wk_i i) (wk_i o) n (nI v) (nI s) (nI m) sc st M Ba Ea L Ka Vb now nx := by
    intro o i h3 ho hi
    have hV : ∀ c x, wk_V B E L M m k n g c x = wk_T B E (wk_F L n) o i (decide (k = 3)) m g c x := fun c x => by
      unfold wk_V; rw [if_pos h3, ho, hi]
    unfold wY_step_44
    refine wy_send hs hv hm hB hE eB eE hn hx (fun nx' h' => ?_)
    dsimp only
    rw [c5]
    have hN : wk_N B E (wk_F L n) o i v m < 2 ^ 31 := by have := wk_NB B E (wk_F L n) o i v m; omega
    by_cases e3 : k = 3
    · subst e3
      have ho' : o = true := by rw [← ho]; rfl
      have hi' : i = false := by rw [← hi]; rfl
      subst ho' hi'
      refine br_t (by decide) (br_c (fun y => ⟨i5, i5, i5, nm_e (K _ (wk_PU h' ?_ ?_))⟩) (fun y => K _ (wk_PC h' (fun x hx => ?_))))
      · rw [wk_eq0 hN, wk_NW] at y
        rw [h' _ (by omega), hn _ (by omega), nI_add]
        refine congrArg nI ?_
        dsimp only
        rw [hV, hV, wk_TS, q1, if_pos ⟨rfl, rfl, y⟩]
      · rw [wk_eq0 hN, wk_NW] at y
        intro c hc hne
        rw [hV, hV, wk_TS, if_neg (fun w => hne w.2.1), Nat.add_zero]
      · rw [wk_eq0 hN, wk_NW] at y
        rw [hV, hV, wk_TS, if_neg, Nat.add_zero]
        intro w
        have w2 := w.2.2
        rw [w.2.1, q1] at w2
        exact y w2
    · refine br_f (fun w => e3 ((nI_eq (b := 3) (by omega) (by decide)).mp w)) (K _ (wk_PC h' (fun x hx => ?_)))
      rw [hV, hV, wk_TS, if_neg (fun w => e3 (of_decide_eq_true w.1)), Nat.add_zero]
  have hV4 : ∀ c x, ¬ k ≤ 3 → wk_V B E L M m k n g c x = if x < c then wk_st B E L M m k n g x else 0 := fun c x h3 => by
    unfold wk_V; rw [if_neg h3]
  have put : ∀ y : Int32, ¬ k ≤ 3 → y = nI (wk_st B E L M m k n g (8 * s + v)) → post (nI m, sc, st, M, Ba, Ea, L, Ka, Vb, now, (upd nx (8 * s + v) y)) := fun y h3 e => K _ (wk_PU hx (by
      rw [e, hV4 _ _ h3, if_pos (by omega)]) (fun c hc hne => by
      rw [hV4 _ _ h3, hV4 _ _ h3]
      have e : c < 8 * s + v ↔ c < 8 * s + v + 1 := by omega
      simp only [e]))
  have leave : ¬ k ≤ 3 → wk_st B E L M m k n g (8 * s + v) = 0 → post (nI m, sc, st, M, Ba, Ea, L, Ka, Vb, now, nx) := fun h3 e => K _ (wk_PC hx (fun c hc => by
      rw [hV4 _ _ h3, hV4 _ _ h3]
      by_cases z : c = 8 * s + v
      · subst z
        rw [if_neg (by omega), if_pos (by omega), e]
      · have e : c < 8 * s + v ↔ c < 8 * s + v + 1 := by omega
        simp only [e]))
  unfold wpY_step
  dsimp only
  refine nm_r (wk_iy s v) ?_
  obtain rfl | rfl | rfl | rfl | rfl | rfl | rfl | rfl : k = 0 ∨ k = 1 ∨ k = 2 ∨ k = 3 ∨ k = 4 ∨ k = 5 ∨ k = 6 ∨ k = 7 := by omega
  · exact br_f (by decide) (br_f (by decide) (br_f (by decide) (br_f (by decide) (lo true false (by decide) (by decide) (by decide)))))
  · exact br_f (by decide) (br_t (by decide) (br_t (by decide) (lo false true (by decide) (by decide) (by decide))))
  · exact br_f (by decide) (br_f (by decide) (br_f (by decide) (br_t (by decide) (lo true true (by decide) (by decide) (by decide)))))
  · exact br_f (by decide) (br_f (by decide) (br_f (by decide) (br_f (by decide) (lo true false (by decide) (by decide) (by decide)))))
  · have i8 : vp_in (nI v) 8 := vp_in_nI (by omega) (by omega)
    have c8 : (nI v).toNatClampNeg = v := nI_clamp (by omega)
    have e : wk_st B E L M m 4 n g (8 * s + v) = if n ≤ M v then g (8 * s + v) else 0 := by simp [wk_st, q1]
    rw [c8]
    refine br_t (by decide) (br_f (by decide) (br_t (by decide) ⟨i8, br_c (fun y => leave (by decide) ?_) (fun y => ?_)⟩))
    · rw [e, if_neg (Int32.not_le.mpr y)]
    · unfold wY_step_159
      rw [c5]
      refine ⟨i5, i5, nm_e (put _ (by decide) ?_)⟩
      rw [hn _ (by omega), e, if_pos (Int32.not_lt.mp y)]
  · have e : wk_st B E L M m 5 n g (8 * s + v) = if s = v then 0 else g (8 * s + v) := by simp [wk_st, q1, q2]
    refine br_t (by decide) (br_f (by decide) (br_f (by decide) (br_t (by decide) (br_c (fun y => leave (by decide) ?_) (fun y => ?_)))))
    · rw [e, if_pos ((nI_eq (by omega) (by omega)).mp y)]
    · unfold wY_step_159
      rw [c5]
      refine ⟨i5, i5, nm_e (put _ (by decide) ?_)⟩
      rw [hn _ (by omega), e, if_neg (fun w => y (by rw [w]))]
  · have e : wk_st B E L M m 6 n g (8 * s + v) = if s = v then g (8 * s + v) else 0 := by simp [wk_st, q1, q2]
    refine br_t (by decide) (br_f (by decide) (br_f (by decide) (br_f (by decide) (br_c (fun y => ?_) (fun y => leave (by decide) ?_)))))
    · unfold wY_step_159
      rw [c5]
      refine ⟨i5, i5, nm_e (put _ (by decide) ?_)⟩
      rw [hn _ (by omega), e, if_pos ((nI_eq (by omega) (by omega)).mp y)]
    · rw [e, if_neg (fun w => y (by rw [w]))]
  · have e : wk_st B E L M m 7 n g (8 * s + v) = if 0 < g (8 * s + v) ∧ wk_L g v s = false then 1 else 0 := by simp [wk_st, q1, q2]
    have y0 : ¬ now (8 * s + v) ≤ 0 := fun w => by rw [hn _ (by omega), wk_le0 (hg _ (by omega))] at w; omega
    rw [c5]
    refine br_t (by decide) (br_t (by decide) ⟨i5, br_f y0 (wy_lesser hs hv hg hn (br_c (fun y => ⟨i5, nm_e (put _ (by decide) ?_)⟩) (fun y => ⟨i5, nm_e (put _ (by decide) ?_)⟩)))⟩)
    · cases hL : wk_L g v s
      · rw [e, if_pos ⟨hp, hL⟩]; rfl
      · rw [hL] at y; exact absurd y (by decide)
    · cases hL : wk_L g v s
      · rw [hL] at y; exact absurd rfl y
      · rw [e, if_neg (fun w => by rw [hL] at w; exact nomatch w.2)]; rfl
theorem wy_once {post : SY → Prop} {k : Nat} (hk : k < 8) (hm : m ≤ 10) (hB : ∀ e, B e < 8) (hE : ∀ e, E e < 8) (eB : ∀ e, Ba e = nI (B e)) (eE : ∀ e, Ea e = nI (E e)) (hg : ∀ c, c < 64 → g c < 2 ^ 31) (hn : wk_P now g)
    (K : ∀ now' nx', wk_P now' (wk_st B E L M m k n g) → post (nI m, sc, st, M, Ba, Ea, L, Ka, Vb, now', nx')) : wpY_once post (nI m, sc, st, M, Ba, Ea, L, Ka, Vb, now, nx) (nI k) n := by
  have key3 : ∀ nx, wk_P nx (wk_st B E L M m k n g) → ∀ f i now, i ≤ 64 → 64 - i < f → (∀ c, c < i → now c = nI (wk_st B E L M m k n g c)) → wY_once_60 post (nI m) sc st f (nI i) M Ba Ea L Ka Vb now nx := by
    intro nx hx f
    induction f with
    | zero => intro s nx _ h; omega
    | succ f ih =>
      intro i now hi hf hI
      rcases Nat.lt_or_ge i 64 with z | z
      · have z3 := wk_ge64 z
        have i1 : vp_in (nI i) 64 := vp_in_nI (by omega) (by omega)
        have c1 : (nI i).toNatClampNeg = i := nI_clamp (by omega)
        simp only [wY_once_60, z3, i1, c1, not_false_iff, true_implies, false_implies, true_and, forall_eq, nI_1]
        refine ih (i + 1) _ (by omega) (by omega) (fun c hc => ?_)
        by_cases e : c = i
        · subst e; rw [pk_us]; exact hx c z
        · rw [pk_un e]; exact hI c (by omega)
      · have z2 : i = 64 := by omega
        subst z2
        simp only [wY_once_60, wk_le64, not_true, true_implies, false_implies, and_true]
        exact K now nx hI
  have key2 : ∀ f c nx, c ≤ 64 → 64 - c < f → wk_P nx (wk_V B E L M m k n g c) → wY_once_23 post (nI k) n f (nI c) (nI m) sc st M Ba Ea L Ka Vb now nx := by
    intro f
    induction f with
    | zero => intro s nx _ h; omega
    | succ f ih =>
      intro c nx hc hf hI
      rcases Nat.lt_or_ge c 64 with z | z
      · have i1 : vp_in (nI c) 64 := vp_in_nI (by omega) (by omega)
        have c1 : (nI c).toNatClampNeg = c := nI_clamp (by omega)
        have ec : 8 * (c / 8) + c % 8 = c := by omega
        rw [wY_once_23]
        dsimp only
        rw [wk_rm z, wk_dv z, c1, hn c z]
        refine br_f (wk_ge64 z) ⟨i1, br_c (fun y => nm_r (nI_1 c) ?_) (fun y => ⟨wk_n8, wk_n8, ?_⟩)⟩
        · rw [wk_le0 (hg c z)] at y
          exact ih (c + 1) nx (by omega) (by omega) (wk_PC hI (fun x hx => (wk_VZ y x).symm))
        · rw [wk_le0 (hg c z)] at y
          refine wy_step hk (by omega) (by omega) hm hB hE eB eE hg (by rw [ec]; omega) hn (by rw [ec]; exact hI) (fun nx' h' => nm_r (nI_1 c) (ih (c + 1) nx' (by omega) (by omega) ?_))
          rw [ec] at h'
          exact h'
      · have z2 : c = 64 := by omega
        subst z2
        rw [wY_once_23]
        exact br_t wk_le64 ⟨65, key3 nx (wk_PC hI (fun x hx => wk_Ve hk hB hE hx)) 65 0 now (by omega) (by omega) (fun c hc => by omega)⟩
  have key : ∀ f i nx, i ≤ 64 → 64 - i < f → (∀ c, c < i → nx c = 0) → wY_once_2 post (nI k) n (nI m) sc st f (nI i) M Ba Ea L Ka Vb now nx := by
    intro f
    induction f with
    | zero => intro s nx _ h; omega
    | succ f ih =>
      intro i nx hi hf hI
      rcases Nat.lt_or_ge i 64 with z | z
      · have i1 : vp_in (nI i) 64 := vp_in_nI (by omega) (by omega)
        have c1 : (nI i).toNatClampNeg = i := nI_clamp (by omega)
        rw [wY_once_2]
        dsimp only
        rw [c1]
        refine br_f (wk_ge64 z) ⟨i1, nm_e (nm_r (nI_1 i) (ih (i + 1) _ (by omega) (by omega) (fun c hc => ?_)))⟩
        by_cases e : c = i
        · subst e; rw [pk_us]
        · rw [pk_un e]; exact hI c (by omega)
      · have z2 : i = 64 := by omega
        subst z2
        rw [wY_once_2]
        exact br_t wk_le64 ⟨65, key2 65 0 nx (by omega) (by omega) (fun c hc => by rw [hI c hc, wk_V0]; rfl)⟩
  exact ⟨65, key 65 0 nx (by omega) (by omega) (fun c hc => by omega)⟩
theorem wy_walk {post : SY → Prop} {j : Nat} (hj : j ≤ 6) (hm : m ≤ 10) (hB : ∀ e, B e < 8) (hE : ∀ e, E e < 8) (eB : ∀ e, Ba e = nI (B e)) (eE : ∀ e, Ea e = nI (E e)) (hK : ∀ i, Kn i < 8) (eK : ∀ i, Ka i = nI (Kn i)) (eV : ∀ i, Kn i ≤ 4 → Vb i = Va i)
    (k : ∀ now' nx', wk_P now' (wk_g B E L M m Kn Va st j) → post (nI m, sc, st, M, Ba, Ea, L, Ka, Vb, now', nx')) : wpY_walk post (nI m, sc, st, M, Ba, Ea, L, Ka, Vb, now, nx) (nI j) := by
  have key2 : ∀ f i now nx, i ≤ j → j - i < f → wk_P now (wk_g B E L M m Kn Va st i) → wY_walk_53 post (nI j) f (nI i) (nI m) sc st M Ba Ea L Ka Vb now nx := by
    intro f
    induction f with
    | zero => intro i now nx _ h; omega
    | succ f ih =>
      intro i now nx hi hf hI
      rcases Nat.lt_or_ge i j with z | z
      · have i1 : vp_in (nI i) 6 := vp_in_nI (by omega) (by omega)
        have c1 : (nI i).toNatClampNeg = i := nI_clamp (by omega)
        rw [wY_walk_53]
        dsimp only
        rw [c1, eK]
        refine br_f (nI_ge z (by omega)) ⟨i1, i1, wy_once (hK i) hm hB hE eB eE (fun c hc => by have := wk_gB6 (L := L) (M := M) (K := Kn) (V := Va) (st := st) hB hE hm (i := i) (by omega) hc; omega) hI (fun now' nx' h' => nm_r (nI_1 i) (ih (i + 1) now' nx' (by omega) (by omega) ?_))⟩
        rw [wk_stN (eV i)] at h'
        exact h'
      · have z2 : i = j := by omega
        subst z2
        rw [wY_walk_53]
        exact br_t (nI_le (Nat.le_refl _) (by omega)) (k now nx hI)
  have key : ∀ f c now, c ≤ 64 → 64 - c < f → (∀ x, x < c → now x = nI (wk_g0 st x)) → wY_walk_2 post (nI j) (nI m) sc st f (nI c) M Ba Ea L Ka Vb now nx := by
    intro f
    induction f with
    | zero => intro i now _ h; omega
    | succ f ih =>
      intro c now hc hf hI
      rcases Nat.lt_or_ge c 64 with z | z
      · have i1 : vp_in (nI c) 64 := vp_in_nI (by omega) (by omega)
        have c1 : (nI c).toNatClampNeg = c := nI_clamp (by omega)
        have put : ∀ y : Int32, y = nI (wk_g0 st c) → wY_walk_2 post (nI j) (nI m) sc st f (nI (c + 1)) M Ba Ea L Ka Vb (upd now c y) nx := fun y e => ih (c + 1) _ (by omega) (by omega) (fun x hx => by
          by_cases q : x = c
          · subst q; rw [pk_us]; exact e
          · rw [pk_un q]; exact hI x (by omega))
        have hb := wk_b2 st (c / 8)
        rw [wY_walk_2]
        dsimp only
        rw [wk_rm z, wk_dv z, c1, wk_bE]
        refine br_f (wk_ge64 z) ⟨wk_n8, wk_n8, br_c (fun y => ⟨wk_n8, br_c (fun w => ⟨i1, nm_e (nm_r (nI_1 c) (put _ ?_))⟩) (fun w => ⟨i1, nm_e (nm_r (nI_1 c) (put _ ?_))⟩)⟩) (fun y => ⟨i1, nm_e (nm_r (nI_1 c) (put _ ?_))⟩)⟩
        · have y' := (nI_eq (by omega) (by omega)).mp y
          unfold wk_g0
          rw [if_pos y', w]
        · have y' := (nI_eq (by omega) (by omega)).mp y
          have w' : ¬ wk_b st (c / 8) = 1 := fun q => w (by rw [q]; rfl)
          unfold wk_g0
          rw [if_pos y', show wk_b st (c / 8) = 0 by omega]
          rfl
        · have y' : ¬ c / 8 = c % 8 := fun q => y (by rw [q])
          unfold wk_g0
          rw [if_neg y']
          rfl
      · have z2 : c = 64 := by omega
        subst z2
        rw [wY_walk_2]
        exact br_t wk_le64 ⟨j + 1, key2 (j + 1) 0 now nx (by omega) (by omega) hI⟩
  exact ⟨65, key 65 0 now (by omega) (by omega) (fun c hc => by omega)⟩
end WKY
end
section
section WKA
variable {sc st n : Int32} {M Ba Ea L Ka Va Vb now nx now2 nx2 : Nat → Int32} {B E Kn : Nat → Nat} {m : Nat} {g h : Nat → Nat}
theorem wk_vc (x : Int32) : (x < 0) ∨ (∃ j, 8 ≤ j ∧ j < 2 ^ 31 ∧ x = nI j) ∨ (∃ j, j < 8 ∧ x = nI j) := by
  by_cases hx : x < 0
  · exact Or.inl hx
  · obtain ⟨j, hj, rfl⟩ := nI_of hx
    by_cases h : j < 8
    · exact Or.inr (Or.inr ⟨j, h, rfl⟩)
    · exact Or.inr (Or.inl ⟨j, by omega, hj, rfl⟩)
theorem wk_vn {x : Int32} (h : x < 0) : ∀ v, v < 8 → ¬ x = nI v := fun v hv e => nI_pos (n := v) (by omega) (by rw [← e]; exact h)
theorem wk_vb {j : Nat} (h : 8 ≤ j) (hj : j < 2 ^ 31) : ∀ v, v < 8 → ¬ nI j = nI v := fun v hv e => by
  have := (nI_eq hj (by omega)).mp e
  omega
theorem wx_vtx {post : Int32 → Prop} (x : Int32) (h1 : ∀ v, v < 8 → x = nI v → post 1) (h0 : (∀ v, v < 8 → ¬ x = nI v) → post 0) : wpX_isVertex post x := by
  unfold wpX_isVertex
  rcases wk_vc x with hx | ⟨j, h8, hj, rfl⟩ | ⟨j, hj, rfl⟩
  · exact br_t hx (h0 (wk_vn hx))
  · exact br_f (nI_pos hj) (br_t (nI_le (a := 8) h8 hj) (h0 (wk_vb h8 hj)))
  · exact br_f (nI_pos (by omega)) (br_f (wk_ge8 hj) (h1 j hj rfl))
theorem wy_vtx {post : Int32 → Prop} {u : SY} (x : Int32) (h1 : ∀ v, v < 8 → x = nI v → post 1) (h0 : (∀ v, v < 8 → ¬ x = nI v) → post 0) : wpY_vertex post u x := by
  unfold wpY_vertex
  rcases wk_vc x with hx | ⟨j, h8, hj, rfl⟩ | ⟨j, hj, rfl⟩
  · exact br_t hx (h0 (wk_vn hx))
  · exact br_f (nI_pos hj) (br_t (nI_lt (a := 7) (by omega) hj) (h0 (wk_vb h8 hj)))
  · exact br_f (nI_pos (by omega)) (br_f (nI_nlt (a := 7) (by omega) (by decide)) (h1 j hj rfl))
theorem wy_vt {post : Int32 → Prop} {u : SY} {v : Nat} (hv : v < 8) (h1 : post 1) : wpY_vertex post u (nI v) := wy_vtx (nI v) (fun _ _ _ => h1) (fun w => absurd rfl (w v hv))
theorem wy_vf {post : Int32 → Prop} {u : SY} {x : Int32} (hv : ∀ v, v < 8 → ¬ x = nI v) (h0 : post 0) : wpY_vertex post u x := wy_vtx x (fun v h e => absurd e (hv v h)) (fun _ => h0)
theorem wk_find (hm : m ≤ 10) (a b l : Int32) : ∃ r : Int32, (r = -1 ∨ ∃ e, e < m ∧ r = nI e) ∧ (∀ post : Int32 → Prop, post r → wpX_findEdge post (nI m, sc, st, M, Ba, Ea, L, Ka, Va, now, nx) a b l) ∧ (∀ post : Int32 → Prop, post r → wpY_find post (nI m, sc, st, M, Ba, Ea, L, Ka, Vb, now2, nx2) a b l) := by
  have key : ∀ d e, e + d = m → ∃ r : Int32, (r = -1 ∨ ∃ e, e < m ∧ r = nI e) ∧ (∀ post : Int32 → Prop, post r → wX_findEdge_3 post a b l (nI m) sc st M Ba Ea L Ka Va now nx (d + 1) (nI e)) ∧ (∀ post : Int32 → Prop, post r → wY_find_3 post a b l (nI m) sc st M Ba Ea L Ka Vb now2 nx2 (d + 1) (nI e)) := by
    intro d
    induction d with
    | zero =>
      intro e he
      have z : nI m ≤ nI e := nI_le (by omega) (by omega)
      exact ⟨-1, Or.inl rfl, fun _ hp => by rw [wX_findEdge_3]; exact br_t z hp, fun _ hp => by rw [wY_find_3]; exact br_t z hp⟩
    | succ d ih =>
      intro e he
      have z : ¬ nI m ≤ nI e := nI_ge (by omega) (by omega)
      have i1 : vp_in (nI e) 10 := vp_in_nI (by omega) (by omega)
      have c1 : (nI e).toNatClampNeg = e := nI_clamp (by omega)
      obtain ⟨r, hr, hX, hY⟩ := ih (e + 1) (by omega)
      by_cases h1 : Ba e = a
      · by_cases h2 : Ea e = b
        · by_cases h3 : L e = l
          · refine ⟨nI e, Or.inr ⟨e, by omega, rfl⟩, fun post hp => ?_, fun post hp => ?_⟩
            · rw [wX_findEdge_3]; dsimp only; rw [c1]; exact br_f z ⟨i1, br_t h1 ⟨i1, br_t h2 ⟨i1, br_t h3 hp⟩⟩⟩
            · rw [wY_find_3]; dsimp only; rw [c1]; exact br_f z ⟨i1, br_t h1 ⟨i1, br_t h2 ⟨i1, br_t h3 hp⟩⟩⟩
          · refine ⟨r, hr, fun post hp => ?_, fun post hp => ?_⟩
            · rw [wX_findEdge_3]; dsimp only; rw [c1]; exact br_f z ⟨i1, br_t h1 ⟨i1, br_t h2 ⟨i1, br_f h3 (nm_r (nI_1 e) (hX post hp))⟩⟩⟩
            · rw [wY_find_3]; dsimp only; rw [c1]; exact br_f z ⟨i1, br_t h1 ⟨i1, br_t h2 ⟨i1, br_f h3 (nm_r (nI_1 e) (hY post hp))⟩⟩⟩
        · refine ⟨r, hr, fun post hp => ?_, fun post hp => ?_⟩
          · rw [wX_findEdge_3]; dsimp only; rw [c1]; exact br_f z ⟨i1, br_t h1 ⟨i1, br_f h2 (nm_r (nI_1 e) (hX post hp))⟩⟩
          · rw [wY_find_3]; dsimp only; rw [c1]; exact br_f z ⟨i1, br_t h1 ⟨i1, br_f h2 (nm_r (nI_1 e) (hY post hp))⟩⟩
      · refine ⟨r, hr, fun post hp => ?_, fun post hp => ?_⟩
        · rw [wX_findEdge_3]; dsimp only; rw [c1]; exact br_f z ⟨i1, br_f h1 (nm_r (nI_1 e) (hX post hp))⟩
        · rw [wY_find_3]; dsimp only; rw [c1]; exact br_f z ⟨i1, br_f h1 (nm_r (nI_1 e) (hY post hp))⟩
  obtain ⟨r, hr, hX, hY⟩ := key m 0 (by omega)
  exact ⟨r, hr, fun post hp => ⟨m + 1, hX post hp⟩, fun post hp => ⟨m + 1, hY post hp⟩⟩
theorem wy_atL {ec : Int32} {post : Int32 → SY → Prop} {v : Nat} (hv : v < 8) (hn : wk_P now g) (k : post (nI (wk_sm (fun s => g (8 * s + v)) 8)) (ec, sc, st, M, Ba, Ea, L, Ka, Vb, now, nx)) : ∃ q, wY_at_12 post (nI v) ec sc st M Ba Ea L Ka Vb now nx q 0 0 := by
  have key : ∀ f s, s ≤ 8 → 8 - s < f → wY_at_12 post (nI v) ec sc st M Ba Ea L Ka Vb now nx f (nI (wk_sm (fun s => g (8 * s + v)) s)) (nI s) := by
    intro f
    induction f with
    | zero => intro s _ h; omega
    | succ f ih =>
      intro s hs hf
      rcases Nat.lt_or_ge s 8 with z | z
      · have i1 : vp_in (nI (8 * s + v)) 64 := vp_in_nI (by omega) (by omega)
        have c1 : (nI (8 * s + v)).toNatClampNeg = 8 * s + v := nI_clamp (by omega)
        have c2 := hn (8 * s + v) (by omega)
        rw [wY_at_12]
        dsimp only
        rw [wk_iy, c1, c2]
        exact br_f (wk_ge8 z) (wy_vt hv (br_f (by decide) ⟨i1, nm_r (nI_add _ _) (nm_r (nI_1 s) (ih (s + 1) (by omega) (by omega)))⟩))
      · have z2 : s = 8 := by omega
        subst z2
        rw [wY_at_12]
        exact br_t wk_le8 k
  exact ⟨9, key 9 0 (by omega) (by omega)⟩
theorem wy_sum {ec : Int32} {post : Int32 → SY → Prop} (hn : wk_P now g) (k : post (nI (wk_sm g 64)) (ec, sc, st, M, Ba, Ea, L, Ka, Vb, now, nx)) : ∃ q, wY_after_23 post ec sc st M Ba Ea L Ka Vb now nx q 0 0 := by
  have key : ∀ f s, s ≤ 64 → 64 - s < f → wY_after_23 post ec sc st M Ba Ea L Ka Vb now nx f (nI (wk_sm g s)) (nI s) := by
    intro f
    induction f with
    | zero => intro s _ h; omega
    | succ f ih =>
      intro s hs hf
      rcases Nat.lt_or_ge s 64 with z | z
      · have i1 : vp_in (nI s) 64 := vp_in_nI (by omega) (by omega)
        have c1 : (nI s).toNatClampNeg = s := nI_clamp (by omega)
        have c2 := hn s (by omega)
        rw [wY_after_23]
        dsimp only
        rw [c1, c2]
        exact br_f (wk_ge64 z) ⟨i1, nm_r (nI_add _ _) (nm_r (nI_1 s) (ih (s + 1) (by omega) (by omega)))⟩
      · have z2 : s = 64 := by omega
        subst z2
        rw [wY_after_23]
        exact br_t wk_le64 k
  exact ⟨65, key 65 0 (by omega) (by omega)⟩
def wk_Q (g : Nat → Nat) (i : Nat) : Nat → Bool
  | 0 => false
  | c + 1 => wk_Q g i c || (decide (c % 8 = i) && decide (0 < g c))
theorem wk_Qi {i : Nat} : ∀ c, wk_Q g i c = true ↔ ∃ x, x < c ∧ x % 8 = i ∧ 0 < g x := by
  intro c
  induction c with
  | zero => exact ⟨fun w => (nomatch w), fun w => by obtain ⟨x, hx, _⟩ := w; omega⟩
  | succ c ih =>
    show (wk_Q g i c || (decide (c % 8 = i) && decide (0 < g c))) = true ↔ _
    rw [Bool.or_eq_true, ih, Bool.and_eq_true, decide_eq_true_eq, decide_eq_true_eq]
    constructor
    · rintro (⟨x, hx, h⟩ | h)
      · exact ⟨x, by omega, h⟩
      · exact ⟨c, by omega, h⟩
    · rintro ⟨x, hx, h⟩
      by_cases z : x < c
      · exact Or.inl ⟨x, z, h⟩
      · have z2 : x = c := by omega
        subst z2
        exact Or.inr h
theorem wk_QR (g : Nat → Nat) (i : Nat) : wk_Q g i 64 = wk_R g i := by
  apply Bool.eq_iff_iff.mpr
  rw [wk_Qi]
  unfold wk_R
  rw [decide_eq_true_eq]
  constructor
  · rintro ⟨x, hx, h1, h2⟩
    refine ⟨by omega, ?_⟩
    have e : 8 * (x / 8) + i = x := by omega
    have := wk_smL (f := fun s => g (8 * s + i)) (m := 8) (e := x / 8) (by omega)
    rw [e] at this
    omega
  · rintro ⟨h1, h2⟩
    obtain ⟨s, hs, h3⟩ := wk_smP h2
    exact ⟨8 * s + i, by omega, by omega, h3⟩
theorem wy_reached {ec : Int32} {post : Int32 → SY → Prop} (hg : ∀ c, c < 64 → g c < 2 ^ 31) (hn : wk_P now g) (k : ∀ w, (∀ i, i < 32 → bt w i = wk_R g i) → post w (ec, sc, st, M, Ba, Ea, L, Ka, Vb, now, nx)) : ∃ q, wY_reached_12 post ec sc st M Ba Ea L Ka Vb now nx q 0 0 := by
  have key : ∀ f c w, c ≤ 64 → 64 - c < f → (∀ i, i < 32 → bt w i = wk_Q g i c) → wY_reached_12 post ec sc st M Ba Ea L Ka Vb now nx f w (nI c) := by
    intro f
    induction f with
    | zero => intro v w _ h; omega
    | succ f ih =>
      intro c w hc hf hI
      rcases Nat.lt_or_ge c 64 with z | z
      · have i1 : vp_in (nI c) 64 := vp_in_nI (by omega) (by omega)
        have c1 : (nI c).toNatClampNeg = c := nI_clamp (by omega)
        rw [wY_reached_12]
        dsimp only
        rw [wk_rm z, c1, hn c z]
        refine br_f (wk_ge64 z) ⟨i1, br_c (fun y => nm_r (nI_1 c) (ih (c + 1) w (by omega) (by omega) (fun i hi => ?_))) (fun y => ⟨wk_n8, nm_e (nm_r (nI_1 c) (ih (c + 1) _ (by omega) (by omega) (fun i hi => ?_)))⟩)⟩
        · rw [wk_le0 (hg c z)] at y
          show _ = (wk_Q g i c || (decide (c % 8 = i) && decide (0 < g c)))
          rw [hI i hi, decide_eq_false (by omega : ¬ 0 < g c), Bool.and_false, Bool.or_false]
        · rw [wk_le0 (hg c z)] at y
          show _ = (wk_Q g i c || (decide (c % 8 = i) && decide (0 < g c)))
          rw [wk_btO w (by omega) hi, hI i hi, decide_eq_true (by omega : 0 < g c), Bool.and_true]
          have e : (i = c % 8) ↔ (c % 8 = i) := eq_comm
          simp only [e]
      · have z2 : c = 64 := by omega
        subst z2
        rw [wY_reached_12]
        exact br_t wk_le64 (k w (fun i hi => by rw [hI i hi, wk_QR]))
  exact ⟨65, key 65 0 0 (by omega) (by omega) (fun i hi => b_0 i)⟩
theorem wy_startsAt {ec : Int32} {post : Int32 → SY → Prop} {v : Nat} (hv : v < 8) (hg : ∀ c, c < 64 → g c < 2 ^ 31) (hn : wk_P now g) (k : post (wk_S g v 8) (ec, sc, st, M, Ba, Ea, L, Ka, Vb, now, nx)) : ∃ q, wY_startsAt_12 post (nI v) ec sc st M Ba Ea L Ka Vb now nx q 0 0 := by
  have key : ∀ f s, s ≤ 8 → 8 - s < f → wY_startsAt_12 post (nI v) ec sc st M Ba Ea L Ka Vb now nx f (wk_S g v s) (nI s) := by
    intro f
    induction f with
    | zero => intro s _ h; omega
    | succ f ih =>
      intro s hs hf
      rcases Nat.lt_or_ge s 8 with z | z
      · have i1 : vp_in (nI (8 * s + v)) 64 := vp_in_nI (by omega) (by omega)
        have c1 : (nI (8 * s + v)).toNatClampNeg = 8 * s + v := nI_clamp (by omega)
        have c2 := hn (8 * s + v) (by omega)
        have c3 := wk_le0 (hg (8 * s + v) (by omega))
        have I := ih (s + 1) (by omega) (by omega)
        have e : wk_S g v (s + 1) = if 0 < g (8 * s + v) then wk_S g v s ||| ((1 : Int32) <<< (nI s &&& 31)) else wk_S g v s := rfl
        rw [e] at I
        rw [wY_startsAt_12]
        dsimp only
        rw [wk_iy, c1, c2]
        refine br_f (wk_ge8 z) (wy_vt hv (br_f (by decide) ⟨i1, br_c (fun y => nm_r (nI_1 s) ?_) (fun y => nm_e (nm_r (nI_1 s) ?_))⟩))
        · rw [c3] at y
          rw [if_neg (by omega)] at I
          exact I
        · rw [c3] at y
          rw [if_pos (by omega)] at I
          exact I
      · have z2 : s = 8 := by omega
        subst z2
        rw [wY_startsAt_12]
        exact br_t wk_le8 k
  exact ⟨9, key 9 0 (by omega) (by omega)⟩
theorem wy_after {p j : Nat} {post : Int32 → SY → Prop} (hjp : j ≤ p) (hp : p ≤ 6) (hm : m ≤ 10) (hB : ∀ e, B e < 8) (hE : ∀ e, E e < 8) (eB : ∀ e, Ba e = nI (B e)) (eE : ∀ e, Ea e = nI (E e)) (hK : ∀ i, Kn i < 8) (eK : ∀ i, Ka i = nI (Kn i)) (eV : ∀ i, Kn i ≤ 4 → Vb i = Va i)
    (k : ∀ now nx, post (nI (wk_sm (wk_g B E L M m Kn Va st j) 64)) (nI m, nI p, st, M, Ba, Ea, L, Ka, Vb, now, nx)) : wpY_after post (nI m, nI p, st, M, Ba, Ea, L, Ka, Vb, now, nx) (nI j) := by
  unfold wpY_after
  dsimp only
  exact br_f (nI_pos (by omega)) (br_t (nI_le hjp (by omega)) (wy_walk (by omega) hm hB hE eB eE hK eK eV (fun now' nx' hw => wy_sum hw (k now' nx'))))
theorem wy_dies {p : Nat} {post : Int32 → SY → Prop} (hp : p ≤ 6) (hm : m ≤ 10) (hB : ∀ e, B e < 8) (hE : ∀ e, E e < 8) (eB : ∀ e, Ba e = nI (B e)) (eE : ∀ e, Ea e = nI (E e)) (hK : ∀ i, Kn i < 8) (eK : ∀ i, Ka i = nI (Kn i)) (eV : ∀ i, Kn i ≤ 4 → Vb i = Va i) :
    ∀ d i now nx, i + d = p + 1 → (∀ now nx, post (wk_D (wk_g B E L M m Kn Va st) d i) (nI m, nI p, st, M, Ba, Ea, L, Ka, Vb, now, nx)) → wY_diesAfter_2 post (d + 1) (nI i) (nI m) (nI p) st M Ba Ea L Ka Vb now nx := by
  intro d
  induction d with
  | zero =>
    intro i now nx hi k
    rw [wY_diesAfter_2]
    exact br_t (nI_lt (by omega) (by omega)) (k now nx)
  | succ d ih =>
    intro i now nx hi k
    rw [wY_diesAfter_2]
    have e : wk_D (wk_g B E L M m Kn Va st) (d + 1) i = if nI (wk_sm (wk_g B E L M m Kn Va st i) 64) = 0 then nI i else wk_D (wk_g B E L M m Kn Va st) d (i + 1) := rfl
    rw [e] at k
    refine br_f (nI_nlt (by omega) (by omega)) (wy_after (j := i) (by omega) hp hm hB hE eB eE hK eK eV (fun now' nx' => ?_))
    dsimp only
    refine br_c (fun y => ?_) (fun y => nm_r (nI_1 i) ?_)
    · rw [if_pos y] at k
      exact k now' nx'
    · rw [if_neg y] at k
      exact ih (i + 1) now' nx' (by omega) k
/-! the steps that add takes -/
def wk_sk (k : Nat) (n : Int32) : Prop := (k ≤ 3 → ¬ n < 0 ∧ ¬ 2 < n) ∧ (k = 4 → ¬ n < 0 ∧ ¬ 9 < n)
theorem wk_sk3 {k : Nat} (h : k ≤ 3) : wk_sk k n ↔ ¬ n < 0 ∧ ¬ 2 < n := ⟨fun w => w.1 h, fun w => ⟨fun _ => w, fun e => by omega⟩⟩
theorem wk_sk4 : wk_sk 4 n ↔ ¬ n < 0 ∧ ¬ 9 < n := ⟨fun w => w.2 rfl, fun w => ⟨fun e => by omega, fun _ => w⟩⟩
theorem wk_sk5 {k : Nat} (h : 5 ≤ k) : wk_sk k n := ⟨fun e => by omega, fun e => by omega⟩
theorem wx_isStep {post : Int32 → Prop} {k : Nat} (hk : k < 8) (h1 : wk_sk k n → post 1) (h0 : ¬ wk_sk k n → post 0) : wpX_isStep post (nI k) n := by
  have lo : k ≤ 3 → wX_isStep_48 post n := fun h3 => by
    unfold wX_isStep_48
    rw [wk_sk3 h3] at h1 h0
    exact br_c (fun y => h0 (fun w => w.1 y)) (fun y => br_c (fun z => h0 (fun w => w.2 z)) (fun z => h1 ⟨y, z⟩))
  unfold wpX_isStep
  obtain rfl | rfl | rfl | rfl | rfl | rfl | rfl | rfl : k = 0 ∨ k = 1 ∨ k = 2 ∨ k = 3 ∨ k = 4 ∨ k = 5 ∨ k = 6 ∨ k = 7 := by omega
  · exact br_f (by decide) (br_f (by decide) (br_t (by decide) (lo (by decide))))
  · exact br_f (by decide) (br_f (by decide) (br_f (by decide) (br_t (by decide) (lo (by decide)))))
  · exact br_f (by decide) (br_f (by decide) (br_f (by decide) (br_f (by decide) (br_t (by decide) (lo (by decide))))))
  · exact br_f (by decide) (br_f (by decide) (br_f (by decide) (br_f (by decide) (br_f (by decide) (br_t (by decide) (lo (by decide)))))))
  · refine br_f (by decide) (br_f (by decide) (br_f (by decide) (br_f (by decide) (br_f (by decide) (br_f (by decide) (br_t (by decide) ?_))))))
    unfold wpX_isNumber
    rw [wk_sk4] at h1 h0
    exact br_c (fun y => ⟨rfl, h0 (fun w => w.1 y)⟩) (fun y => br_c (fun z => ⟨rfl, h0 (fun w => w.2 z)⟩) (fun z => ⟨rfl, h1 ⟨y, z⟩⟩))
  · exact br_f (by decide) (br_f (by decide) (br_f (by decide) (br_f (by decide) (br_f (by decide) (br_f (by decide) (br_f (by decide) (br_t (by decide) (h1 (wk_sk5 (by decide))))))))))
  · exact br_f (by decide) (br_f (by decide) (br_f (by decide) (br_f (by decide) (br_f (by decide) (br_f (by decide) (br_f (by decide) (br_f (by decide) (br_t (by decide) (h1 (wk_sk5 (by decide)))))))))))
  · exact br_f (by decide) (br_f (by decide) (br_f (by decide) (br_f (by decide) (br_f (by decide) (br_f (by decide) (br_f (by decide) (br_f (by decide) (br_f (by decide) (br_t (by decide) (h1 (wk_sk5 (by decide))))))))))))
theorem wy_add {post : Int32 → SY → Prop} {k : Nat} (hk : k < 8) (h1 : wk_sk k n → wY_add_41 post (nI k) n (nI m) sc st M Ba Ea L Ka Vb now nx) (h0 : ¬ wk_sk k n → post (-1) (nI m, sc, st, M, Ba, Ea, L, Ka, Vb, now, nx)) : wpY_add post (nI m, sc, st, M, Ba, Ea, L, Ka, Vb, now, nx) (nI k) n := by
  have p7 : ¬ (7 : Int32) < nI k := nI_nlt (a := 7) (by omega) (by decide)
  have p0 : ¬ nI k < 0 := nI_pos (by omega)
  unfold wpY_add
  dsimp only
  refine br_f p0 (br_f p7 ?_)
  by_cases h3 : k ≤ 3
  · have n4 : ¬ nI k = 4 := fun w => by have := (nI_eq (b := 4) (by omega) (by decide)).mp w; omega
    rw [wk_sk3 h3] at h1 h0
    refine br_f (nI_nlt (a := 3) h3 (by decide)) (br_c (fun y => h0 (fun w => w.1 y)) (fun y => br_c (fun z => h0 (fun w => w.2 z)) (fun z => ?_)))
    unfold wY_add_24
    exact br_f n4 (h1 ⟨y, z⟩)
  · refine br_t (nI_lt (a := 3) (by omega) (by omega)) ?_
    unfold wY_add_24
    by_cases h4 : k = 4
    · subst h4
      rw [wk_sk4] at h1 h0
      exact br_t (by decide) (br_c (fun y => h0 (fun w => w.1 y)) (fun y => br_c (fun z => h1 ⟨y, Int32.not_lt.mpr z⟩) (fun z => h0 (fun w => z (Int32.not_lt.mp w.2)))))
    · exact br_f (fun w => h4 ((nI_eq (b := 4) (by omega) (by decide)).mp w)) (h1 (wk_sk5 (by omega)))
theorem wk_12 (x : Int32) : 1 < x ↔ ¬ x < 2 := by
  rw [Int32.lt_iff_toInt_lt, Int32.lt_iff_toInt_lt, show (1 : Int32).toInt = 1 by decide, show (2 : Int32).toInt = 2 by decide]
  omega
end WKA
end
section
section WKO
def wk_ok (m p : Nat) (Ba Ea Ka Va Vb : Nat → Int32) (B E Kn : Nat → Nat) : Prop := m ≤ 10 ∧ p ≤ 6 ∧ (∀ e, B e < 8) ∧ (∀ e, E e < 8) ∧ (∀ e, Ba e = nI (B e)) ∧ (∀ e, Ea e = nI (E e)) ∧ (∀ i, Kn i < 8) ∧ (∀ i, Ka i = nI (Kn i)) ∧ (∀ i, Kn i ≤ 4 → Vb i = Va i)
/-- both sides hold the same graph, the same kinds and starts; the numbers of the steps agree where they are used; now and next are free -/
def i_Rel (_ : Nat) (u : SX) (v : SY) : Prop := ∃ (m p : Nat) (st : Int32) (M Ba Ea L Ka Va Vb n1 x1 n2 x2 : Nat → Int32) (B E Kn : Nat → Nat), u = (nI m, nI p, st, M, Ba, Ea, L, Ka, Va, n1, x1) ∧ v = (nI m, nI p, st, M, Ba, Ea, L, Ka, Vb, n2, x2) ∧ wk_ok m p Ba Ea Ka Va Vb B E Kn
theorem i_mk {k m p : Nat} {st : Int32} {M Ba Ea L Ka Va Vb n1 x1 n2 x2 : Nat → Int32} {B E Kn : Nat → Nat} (h : wk_ok m p Ba Ea Ka Va Vb B E Kn) : i_Rel k (nI m, nI p, st, M, Ba, Ea, L, Ka, Va, n1, x1) (nI m, nI p, st, M, Ba, Ea, L, Ka, Vb, n2, x2) := ⟨m, p, st, M, Ba, Ea, L, Ka, Va, Vb, n1, x1, n2, x2, B, E, Kn, rfl, rfl, h⟩
theorem i_up {k : Nat} {u : SX} {v : SY} (h : i_Rel k u v) : i_Rel (k + 4) u v := h
theorem i_vc0 : wpX_init (fun u => wpY_init (fun v => i_Rel 0 u v)) := i_mk (k := 0) (m := 0) (p := 0) (B := fun _ => 0) (E := fun _ => 0) (Kn := fun _ => 0) ⟨by omega, by omega, fun _ => Nat.zero_lt_succ 7, fun _ => Nat.zero_lt_succ 7, fun _ => rfl, fun _ => rfl, fun _ => Nat.zero_lt_succ 7, fun _ => rfl, fun _ _ => rfl⟩
theorem wk_uE {A : Nat → Int32} {P : Nat → Nat} (h : ∀ e, A e = nI (P e)) {i a : Nat} {x : Int32} (hx : x = nI a) : ∀ e, upd A i x e = nI (if e = i then a else P e) := by
  intro e
  unfold upd
  split
  · exact hx
  · exact h e
theorem wk_uB {P : Nat → Nat} {N : Nat} (h : ∀ e, P e < N) {i a : Nat} (ha : a < N) : ∀ e, (if e = i then a else P e) < N := by
  intro e
  split
  · exact ha
  · exact h e
theorem i_vc_mark {k : Nat} {u : SX} {v : SY} (I : i_Rel k u v) (hk : k + 4 ≤ 2048) (v1 : Int32) (v2 : Int32) : wpX_mark (fun r u' => wpY_mark (fun r' v' => r' = r ∧ i_Rel (k + 4) u' v') v v1 v2) u v1 v2 := by
  obtain ⟨m, p, st, M, Ba, Ea, L, Ka, Va, Vb, n1, x1, n2, x2, B, E, Kn, rfl, rfl, h⟩ := I
  obtain ⟨hm, hp, hB, hE, eB, eE, hK, eK, eV⟩ := id h
  unfold wpX_mark wpY_mark
  dsimp only
  refine wx_vtx v1 (fun v hv e => br_f (by decide) ?_) (fun hv => br_t rfl (wy_vf hv (br_t rfl ⟨rfl, i_mk h⟩)))
  subst e
  have i8 : vp_in (nI v) 8 := vp_in_nI hv (by omega)
  unfold wpX_isNumber
  refine br_c (fun y => br_t rfl (wy_vt hv (br_f (by decide) (br_t y ⟨rfl, i_mk h⟩)))) (fun y => br_c (fun w => br_t rfl (wy_vt hv (br_f (by decide) (br_f y (br_f (Int32.not_le.mpr w) ⟨rfl, i_mk h⟩))))) (fun w => br_f (by decide) ⟨i8, nm_e (wy_vt hv (br_f (by decide) (br_f y (br_t (Int32.not_lt.mp w) ⟨i8, nm_e ⟨rfl, i_mk h⟩⟩))))⟩))
theorem i_vc_join {k : Nat} {u : SX} {v : SY} (I : i_Rel k u v) (hk : k + 4 ≤ 2048) (v1 : Int32) (v2 : Int32) (v3 : Int32) : wpX_join (fun r u' => wpY_join (fun r' v' => r' = r ∧ i_Rel (k + 4) u' v') v v1 v2 v3) u v1 v2 v3 := by
  obtain ⟨m, p, st, M, Ba, Ea, L, Ka, Va, Vb, n1, x1, n2, x2, B, E, Kn, rfl, rfl, h⟩ := I
  obtain ⟨hm, hp, hB, hE, eB, eE, hK, eK, eV⟩ := id h
  unfold wpX_join wpY_join
  dsimp only
  by_cases e0 : v1 = v2
  · exact br_t e0 (br_t e0 ⟨rfl, i_mk h⟩)
  refine br_f e0 ?_
  refine wx_vtx v1 (fun a ha ea => br_f (by decide) ?_) (fun hv => br_t rfl (br_f e0 (wy_vf hv (br_t rfl ⟨rfl, i_mk h⟩))))
  subst ea
  refine wx_vtx v2 (fun b hb eb => br_f (by decide) ?_) (fun hv => br_t rfl (br_f e0 (wy_vt ha (br_f (by decide) (wy_vf hv (br_t rfl ⟨rfl, i_mk h⟩))))))
  subst eb
  by_cases l0 : v3 < 0
  · exact br_t l0 (br_f e0 (wy_vt ha (br_f (by decide) (wy_vt hb (br_f (by decide) (br_t l0 ⟨rfl, i_mk h⟩))))))
  refine br_f l0 ?_
  by_cases l2 : v3 < 2
  · have l1 : ¬ 1 < v3 := fun w => (wk_12 v3).mp w l2
    refine br_t l2 ?_
    obtain ⟨r, hr, fx, fy⟩ := wk_find (sc := nI p) (st := st) (M := M) (Ba := Ba) (Ea := Ea) (L := L) (Ka := Ka) (Va := Va) (Vb := Vb) (now := n1) (nx := x1) (now2 := n2) (nx2 := x2) hm (nI a) (nI b) v3
    by_cases m10 : m < 10
    · have i10 : vp_in (nI m) 10 := vp_in_nI m10 (by omega)
      refine br_f (nI_ge (b := 10) m10 (by decide)) (fx _ ?_)
      rcases hr with rfl | ⟨e, he, rfl⟩
      · refine br_t rfl ⟨i10, nm_e ⟨i10, nm_e ⟨i10, nm_e (nm_r (nI_1 m) ?_)⟩⟩⟩
        refine br_f e0 (wy_vt ha (br_f (by decide) (wy_vt hb (br_f (by decide) (br_f l0 (br_f l1 (fy _ ?_)))))))
        refine br_f (by decide) (br_t (nI_lt (b := 10) m10 (by decide)) ⟨i10, nm_e ⟨i10, nm_e ⟨i10, nm_e (nm_r (nI_1 m) ⟨rfl, ?_⟩)⟩⟩⟩)
        exact i_mk ⟨m10, hp, wk_uB hB ha, wk_uB hE hb, wk_uE eB rfl, wk_uE eE rfl, hK, eK, eV⟩
      · have ne : ¬ nI e = -1 := fun w => nI_pos (n := e) (by omega) (by rw [w]; decide)
        exact br_f ne (br_f e0 (wy_vt ha (br_f (by decide) (wy_vt hb (br_f (by decide) (br_f l0 (br_f l1 (fy _ (br_t (nI_pos' (by omega)) ⟨rfl, i_mk h⟩)))))))))
    · refine br_t (nI_le (a := 10) (by omega) (by omega)) (br_f e0 (wy_vt ha (br_f (by decide) (wy_vt hb (br_f (by decide) (br_f l0 (br_f l1 (fy _ ?_))))))))
      rcases hr with rfl | ⟨e, he, rfl⟩
      · exact br_f (by decide) (br_f (nI_nlt (b := 10) (by omega) (by omega)) ⟨rfl, i_mk h⟩)
      · exact br_t (nI_pos' (by omega)) ⟨rfl, i_mk h⟩
  · exact br_f l2 (br_f e0 (wy_vt ha (br_f (by decide) (wy_vt hb (br_f (by decide) (br_f l0 (br_t ((wk_12 v3).mpr l2) ⟨rfl, i_mk h⟩)))))))
theorem i_vc_cut {k : Nat} {u : SX} {v : SY} (I : i_Rel k u v) (hk : k + 4 ≤ 2048) (v1 : Int32) (v2 : Int32) (v3 : Int32) : wpX_cut (fun r u' => wpY_cut (fun r' v' => r' = r ∧ i_Rel (k + 4) u' v') v v1 v2 v3) u v1 v2 v3 := by
  obtain ⟨m, p, st, M, Ba, Ea, L, Ka, Va, Vb, n1, x1, n2, x2, B, E, Kn, rfl, rfl, h⟩ := I
  obtain ⟨hm, hp, hB, hE, eB, eE, hK, eK, eV⟩ := id h
  unfold wpX_cut wpY_cut
  dsimp only
  obtain ⟨r, hr, fx, fy⟩ := wk_find (sc := nI p) (st := st) (M := M) (Ba := Ba) (Ea := Ea) (L := L) (Ka := Ka) (Va := Va) (Vb := Vb) (now := n1) (nx := x1) (now2 := n2) (nx2 := x2) hm v1 v2 v3
  refine fx _ ?_
  rcases hr with rfl | ⟨e, he, rfl⟩
  · exact br_t rfl (fy _ (br_f (by decide) ⟨rfl, i_mk h⟩))
  · obtain ⟨q, rfl⟩ : ∃ q, m = q + 1 := ⟨m - 1, by omega⟩
    have ne : ¬ nI e = -1 := fun w => nI_pos (n := e) (by omega) (by rw [w]; decide)
    have i1 : vp_in (nI q) 10 := vp_in_nI (by omega) (by omega)
    have i2 : vp_in (nI e) 10 := vp_in_nI (by omega) (by omega)
    refine br_f ne (nm_r (nI_pred q) ⟨i1, i2, nm_e ⟨i1, i2, nm_e ⟨i1, i2, nm_e (fy _ (br_t (nI_pos' (by omega)) (nm_r (nI_pred q) ⟨i1, i2, nm_e ⟨i1, i2, nm_e ⟨i1, i2, nm_e ⟨rfl, ?_⟩⟩⟩⟩)))⟩⟩⟩)
    exact i_mk ⟨by omega, hp, wk_uB hB (hB _), wk_uB hE (hE _), wk_uE eB (eB _), wk_uE eE (eE _), hK, eK, eV⟩
theorem i_vc_add {k : Nat} {u : SX} {v : SY} (I : i_Rel k u v) (hk : k + 4 ≤ 2048) (v1 : Int32) (v2 : Int32) : wpX_add (fun r u' => wpY_add (fun r' v' => r' = r ∧ i_Rel (k + 4) u' v') v v1 v2) u v1 v2 := by
  obtain ⟨m, p, st, M, Ba, Ea, L, Ka, Va, Vb, n1, x1, n2, x2, B, E, Kn, rfl, rfl, h⟩ := I
  obtain ⟨hm, hp, hB, hE, eB, eE, hK, eK, eV⟩ := id h
  unfold wpX_add
  dsimp only
  rcases wk_vc v1 with hx | ⟨j, h8, hj, rfl⟩ | ⟨j, hj, rfl⟩
  · unfold wpX_isStep wpY_add
    exact br_t hx (br_t rfl (br_t hx ⟨rfl, i_mk h⟩))
  · have l7 : 7 < nI j := nI_lt (a := 7) (by omega) hj
    unfold wpX_isStep wpY_add
    exact br_f (nI_pos hj) (br_t l7 (br_t rfl (br_f (nI_pos hj) (br_t l7 ⟨rfl, i_mk h⟩))))
  · refine wx_isStep hj (fun hs => br_f (by decide) ?_) (fun hs => br_t rfl (wy_add hj (fun w => absurd w hs) (fun _ => ⟨rfl, i_mk h⟩)))
    by_cases p6 : p < 6
    · have i6 : vp_in (nI p) 6 := vp_in_nI p6 (by omega)
      have l6 : nI p < 6 := nI_lt (b := 6) p6 (by decide)
      refine br_t l6 ⟨i6, nm_e (br_c (fun y => ?_) (fun y => ?_))⟩
      · unfold wX_add_50
        refine ⟨i6, nm_e (nm_r (nI_1 p) (wy_add hj (fun _ => ?_) (fun w => absurd hs w)))⟩
        unfold wY_add_41
        refine br_t l6 ⟨i6, nm_e ⟨i6, nm_e (nm_r (nI_1 p) ⟨rfl, ?_⟩)⟩⟩
        refine i_mk ⟨hm, p6, hB, hE, eB, eE, wk_uB hK hj, wk_uE eK rfl, fun i hi => ?_⟩
        have j4 : 4 < j := (nI_ltI (a := 4) (by decide) (by omega)).mp y
        unfold upd
        by_cases q : i = (nI p).toNatClampNeg
        · rw [if_pos q] at hi
          omega
        · rw [if_neg q] at hi
          rw [if_neg q, if_neg q]
          exact eV i hi
      · unfold wX_add_50
        refine ⟨i6, nm_e (nm_r (nI_1 p) (wy_add hj (fun _ => ?_) (fun w => absurd hs w)))⟩
        unfold wY_add_41
        refine br_t l6 ⟨i6, nm_e ⟨i6, nm_e (nm_r (nI_1 p) ⟨rfl, ?_⟩)⟩⟩
        refine i_mk ⟨hm, p6, hB, hE, eB, eE, wk_uB hK hj, wk_uE eK rfl, fun i hi => ?_⟩
        unfold upd
        by_cases q : i = (nI p).toNatClampNeg
        · rw [if_pos q, if_pos q]
        · rw [if_neg q] at hi
          rw [if_neg q, if_neg q]
          exact eV i hi
    · have l6 : ¬ nI p < 6 := nI_nlt (b := 6) (by omega) (by omega)
      refine br_f l6 (wy_add hj (fun _ => ?_) (fun w => absurd hs w))
      unfold wY_add_41
      exact br_f l6 ⟨rfl, i_mk h⟩
theorem i_vc_drop {k : Nat} {u : SX} {v : SY} (I : i_Rel k u v) (hk : k + 4 ≤ 2048) : wpX_drop (fun r u' => wpY_drop (fun r' v' => r' = r ∧ i_Rel (k + 4) u' v') v) u := by
  obtain ⟨m, p, st, M, Ba, Ea, L, Ka, Va, Vb, n1, x1, n2, x2, B, E, Kn, rfl, rfl, h⟩ := I
  obtain ⟨hm, hp, hB, hE, eB, eE, hK, eK, eV⟩ := id h
  unfold wpX_drop wpY_drop
  dsimp only
  by_cases p0 : p = 0
  · subst p0
    exact br_t rfl (br_t rfl ⟨rfl, i_mk h⟩)
  · obtain ⟨q, rfl⟩ : ∃ q, p = q + 1 := ⟨p - 1, by omega⟩
    have ne : ¬ nI (q + 1) = 0 := nI_ne0 (by omega) (by omega)
    exact br_f ne (nm_r (nI_pred q) (br_f ne (nm_r (nI_pred q) ⟨rfl, i_mk ⟨hm, by omega, hB, hE, eB, eE, hK, eK, eV⟩⟩)))
theorem i_vc_from {k : Nat} {u : SX} {v : SY} (I : i_Rel k u v) (hk : k + 4 ≤ 2048) (v1 : Int32) : wpX_from (fun r u' => wpY_from (fun r' v' => r' = r ∧ i_Rel (k + 4) u' v') v v1) u v1 := by
  obtain ⟨m, p, st, M, Ba, Ea, L, Ka, Va, Vb, n1, x1, n2, x2, B, E, Kn, rfl, rfl, h⟩ := I
  obtain ⟨hm, hp, hB, hE, eB, eE, hK, eK, eV⟩ := id h
  unfold wpX_from wpY_from
  dsimp only
  exact br_c (fun y => br_t y ⟨rfl, i_mk h⟩) (fun y => br_c (fun w => br_f y (br_t w ⟨rfl, i_mk h⟩)) (fun w => br_f y (br_f w ⟨rfl, i_mk h⟩)))
theorem i_vc_at {k : Nat} {u : SX} {v : SY} (I : i_Rel k u v) (hk : k + 4 ≤ 2048) (v1 : Int32) : wpX_at (fun r u' => wpY_at (fun r' v' => r' = r ∧ i_Rel (k + 4) u' v') v v1) u v1 := by
  obtain ⟨m, p, st, M, Ba, Ea, L, Ka, Va, Vb, n1, x1, n2, x2, B, E, Kn, rfl, rfl, h⟩ := I
  obtain ⟨hm, hp, hB, hE, eB, eE, hK, eK, eV⟩ := id h
  unfold wpX_at wpY_at
  dsimp only
  refine wx_vtx v1 (fun v hv e => br_f (by decide) ?_) (fun hv => br_t rfl (wy_walk (by omega) hm hB hE eB eE hK eK eV (fun now2 nx2 hw2 => ⟨1, ?_⟩)))
  · subst e
    refine wx_walk (by omega) hm hB hE eB eE hK eK (fun now' nx' hw => ?_)
    dsimp only
    refine wx_countAt hv hw (wy_walk (by omega) hm hB hE eB eE hK eK eV (fun now2 nx2 hw2 => ?_))
    dsimp only
    exact wy_atL hv hw2 ⟨rfl, i_mk h⟩
  · rw [wY_at_12]
    exact br_f (by decide) (wy_vf hv (br_t rfl ⟨rfl, i_mk h⟩))
theorem i_vc_walkers {k : Nat} {u : SX} {v : SY} (I : i_Rel k u v) (hk : k + 4 ≤ 2048) : wpX_walkers (fun r u' => wpY_walkers (fun r' v' => r' = r ∧ i_Rel (k + 4) u' v') v) u := by
  obtain ⟨m, p, st, M, Ba, Ea, L, Ka, Va, Vb, n1, x1, n2, x2, B, E, Kn, rfl, rfl, h⟩ := I
  obtain ⟨hm, hp, hB, hE, eB, eE, hK, eK, eV⟩ := id h
  unfold wpX_walkers wpY_walkers
  dsimp only
  refine wx_walk (by omega) hm hB hE eB eE hK eK (fun now' nx' hw => ?_)
  dsimp only
  refine wx_countAll hw (wy_after (Nat.le_refl p) hp hm hB hE eB eE hK eK eV (fun now2 nx2 => ?_))
  dsimp only
  exact ⟨rfl, i_mk h⟩
theorem i_vc_after {k : Nat} {u : SX} {v : SY} (I : i_Rel k u v) (hk : k + 4 ≤ 2048) (v1 : Int32) : wpX_after (fun r u' => wpY_after (fun r' v' => r' = r ∧ i_Rel (k + 4) u' v') v v1) u v1 := by
  obtain ⟨m, p, st, M, Ba, Ea, L, Ka, Va, Vb, n1, x1, n2, x2, B, E, Kn, rfl, rfl, h⟩ := I
  obtain ⟨hm, hp, hB, hE, eB, eE, hK, eK, eV⟩ := id h
  unfold wpX_after
  dsimp only
  by_cases hx : v1 < 0
  · refine br_t hx ?_
    unfold wpY_after
    exact br_t hx ⟨rfl, i_mk h⟩
  · obtain ⟨j, hj, rfl⟩ := nI_of hx
    refine br_f hx ?_
    by_cases hjp : j ≤ p
    · refine br_t (nI_le hjp (by omega)) (wx_walk (by omega) hm hB hE eB eE hK eK (fun now' nx' hw => ?_))
      dsimp only
      exact wx_countAll hw (wy_after hjp hp hm hB hE eB eE hK eK eV (fun now2 nx2 => ⟨rfl, i_mk h⟩))
    · have nl : ¬ nI j ≤ nI p := nI_ge (by omega) hj
      refine br_f nl ?_
      unfold wpY_after
      exact br_f hx (br_f nl ⟨rfl, i_mk h⟩)
theorem i_vc_between {k : Nat} {u : SX} {v : SY} (I : i_Rel k u v) (hk : k + 4 ≤ 2048) (v1 : Int32) (v2 : Int32) : wpX_between (fun r u' => wpY_between (fun r' v' => r' = r ∧ i_Rel (k + 4) u' v') v v1 v2) u v1 v2 := by
  obtain ⟨m, p, st, M, Ba, Ea, L, Ka, Va, Vb, n1, x1, n2, x2, B, E, Kn, rfl, rfl, h⟩ := I
  obtain ⟨hm, hp, hB, hE, eB, eE, hK, eK, eV⟩ := id h
  unfold wpX_between wpY_between
  dsimp only
  refine wx_vtx v1 (fun s hs es => br_f (by decide) ?_) (fun hv => br_t rfl (wy_walk (by omega) hm hB hE eB eE hK eK eV (fun now2 nx2 hw2 => ?_)))
  · subst es
    refine wx_vtx v2 (fun v hv ev => br_f (by decide) ?_) (fun hv => br_t rfl (wy_walk (by omega) hm hB hE eB eE hK eK eV (fun now2 nx2 hw2 => ?_)))
    · subst ev
      refine wx_walk (by omega) hm hB hE eB eE hK eK (fun now' nx' hw => ?_)
      dsimp only
      have i1 : vp_in (nI (8 * s + v)) 64 := vp_in_nI (by omega) (by omega)
      have c1 : (nI (8 * s + v)).toNatClampNeg = 8 * s + v := nI_clamp (by omega)
      rw [wk_ix, c1]
      refine ⟨i1, wy_walk (by omega) hm hB hE eB eE hK eK eV (fun now2 nx2 hw2 => ?_)⟩
      dsimp only
      rw [wk_iy, c1]
      exact wy_vt hs (br_f (by decide) (wy_vt hv (br_f (by decide) ⟨i1, by rw [hw _ (by omega), hw2 _ (by omega)], i_mk h⟩)))
    · dsimp only
      exact wy_vt hs (br_f (by decide) (wy_vf hv (br_t rfl ⟨rfl, i_mk h⟩)))
  · dsimp only
    exact wy_vf hv (br_t rfl ⟨rfl, i_mk h⟩)
theorem i_vc_reached {k : Nat} {u : SX} {v : SY} (I : i_Rel k u v) (hk : k + 4 ≤ 2048) : wpX_reached (fun r u' => wpY_reached (fun r' v' => r' = r ∧ i_Rel (k + 4) u' v') v) u := by
  obtain ⟨m, p, st, M, Ba, Ea, L, Ka, Va, Vb, n1, x1, n2, x2, B, E, Kn, rfl, rfl, h⟩ := I
  obtain ⟨hm, hp, hB, hE, eB, eE, hK, eK, eV⟩ := id h
  have hb : ∀ c, c < 64 → wk_g B E L M m Kn Va st p c ≤ 64000000 := fun c hc => wk_gB6 hB hE hm hp hc
  unfold wpX_reached wpY_reached
  dsimp only
  refine wx_walk (by omega) hm hB hE eB eE hK eK (fun now' nx' hw => ?_)
  dsimp only
  refine wx_reached hb hw (fun w hw1 => wy_walk (by omega) hm hB hE eB eE hK eK eV (fun now2 nx2 hw2 => ?_))
  dsimp only
  refine wy_reached (fun c hc => by have := hb c hc; omega) hw2 (fun w2 hw3 => ⟨b_ext (fun i hi => by rw [hw3 i hi, hw1 i hi]), i_mk h⟩)
theorem i_vc_startsAt {k : Nat} {u : SX} {v : SY} (I : i_Rel k u v) (hk : k + 4 ≤ 2048) (v1 : Int32) : wpX_startsAt (fun r u' => wpY_startsAt (fun r' v' => r' = r ∧ i_Rel (k + 4) u' v') v v1) u v1 := by
  obtain ⟨m, p, st, M, Ba, Ea, L, Ka, Va, Vb, n1, x1, n2, x2, B, E, Kn, rfl, rfl, h⟩ := I
  obtain ⟨hm, hp, hB, hE, eB, eE, hK, eK, eV⟩ := id h
  have hb : ∀ c, c < 64 → wk_g B E L M m Kn Va st p c < 2 ^ 31 := fun c hc => by have := wk_gB6 (L := L) (M := M) (K := Kn) (V := Va) (st := st) hB hE hm hp hc; omega
  unfold wpX_startsAt wpY_startsAt
  dsimp only
  refine wx_vtx v1 (fun v hv e => br_f (by decide) ?_) (fun hv => br_t rfl (wy_walk (by omega) hm hB hE eB eE hK eK eV (fun now2 nx2 hw2 => ⟨1, ?_⟩)))
  · subst e
    refine wx_walk (by omega) hm hB hE eB eE hK eK (fun now' nx' hw => ?_)
    dsimp only
    refine wx_startsAt hv hb hw (wy_walk (by omega) hm hB hE eB eE hK eK eV (fun now2 nx2 hw2 => ?_))
    dsimp only
    exact wy_startsAt hv hb hw2 ⟨rfl, i_mk h⟩
  · rw [wY_startsAt_12]
    exact br_f (by decide) (wy_vf hv (br_t rfl ⟨rfl, i_mk h⟩))
theorem i_vc_diesAfter {k : Nat} {u : SX} {v : SY} (I : i_Rel k u v) (hk : k + 4 ≤ 2048) : wpX_diesAfter (fun r u' => wpY_diesAfter (fun r' v' => r' = r ∧ i_Rel (k + 4) u' v') v) u := by
  obtain ⟨m, p, st, M, Ba, Ea, L, Ka, Va, Vb, n1, x1, n2, x2, B, E, Kn, rfl, rfl, h⟩ := I
  obtain ⟨hm, hp, hB, hE, eB, eE, hK, eK, eV⟩ := id h
  refine ⟨p + 2, wx_dies hp hm hB hE eB eE hK eK (p + 1) 0 n1 x1 (by omega) (fun now nx => ⟨p + 2, wy_dies hp hm hB hE eB eE hK eK eV (p + 1) 0 n2 x2 (by omega) (fun now2 nx2 => ⟨rfl, i_mk h⟩)⟩)⟩
theorem i_vc_edges {k : Nat} {u : SX} {v : SY} (I : i_Rel k u v) (hk : k + 4 ≤ 2048) : wpX_edges (fun r => wpY_edges (fun r' => r' = r ∧ i_Rel (k + 4) u v) v) u := by
  obtain ⟨m, p, st, M, Ba, Ea, L, Ka, Va, Vb, n1, x1, n2, x2, B, E, Kn, rfl, rfl, h⟩ := I
  obtain ⟨hm, hp, hB, hE, eB, eE, hK, eK, eV⟩ := id h
  exact ⟨rfl, i_mk h⟩
end WKO
end

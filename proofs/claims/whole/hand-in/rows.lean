section
theorem pk_us {f : Nat → Int32} {k : Nat} {x : Int32} : upd f k x k = x := if_pos rfl
theorem pk_un {f : Nat → Int32} {k j : Nat} {x : Int32} (h : j ≠ k) : upd f k x j = f j := if_neg h
theorem pk_sub {a b : Nat} (h : b ≤ a) : nI a - nI b = nI (a - b) := by
  obtain ⟨c, rfl⟩ : ∃ c, a = c + b := ⟨a - b, by omega⟩
  rw [← nI_add, Int32.add_sub_cancel, Nat.add_sub_cancel]
theorem pk_m1 (n : Nat) : nI (n + 1) + (-1) = nI n := by
  rw [← nI_1, Int32.add_assoc, show (1 : Int32) + (-1) = 0 from rfl, Int32.add_zero]
theorem pk_mul (a b : Nat) : nI a * nI b = nI (a * b) := (Int32.ofNat_mul a b).symm
theorem pk_le {x y : Int32} {A B : Prop} (a b : Nat) (f : a ≤ b → A) (g : b < a → B) (hx : x = nI a := by rfl) (hy : y = nI b := by rfl) (ha : a < 2 ^ 31 := by omega) (hb : b < 2 ^ 31 := by omega) : (x ≤ y → A) ∧ (¬ x ≤ y → B) := by
  subst hx hy
  rw [nI_leI ha hb]
  exact ⟨f, fun z => g (by omega)⟩
theorem pk_lt {x y : Int32} {A B : Prop} (a b : Nat) (f : a < b → A) (g : b ≤ a → B) (hx : x = nI a := by rfl) (hy : y = nI b := by rfl) (ha : a < 2 ^ 31 := by omega) (hb : b < 2 ^ 31 := by omega) : (x < y → A) ∧ (¬ x < y → B) := by
  subst hx hy
  rw [nI_ltI ha hb]
  exact ⟨f, fun z => g (by omega)⟩
theorem pk_eq {x y : Int32} {A B : Prop} (a b : Nat) (f : a = b → A) (g : a ≠ b → B) (hx : x = nI a := by rfl) (hy : y = nI b := by rfl) (ha : a < 2 ^ 31 := by omega) (hb : b < 2 ^ 31 := by omega) : (x = y → A) ∧ (¬ x = y → B) := by
  subst hx hy
  rw [nI_eq ha hb]
  exact ⟨f, g⟩
/-! own rows: bytes, sizes, the relation -/
theorem sd_and (x : Int32) : (x &&& 255) &&& 255 = x &&& 255 := by rw [Int32.and_assoc, Int32.and_self]
theorem sd_subI {a b : Nat} (ha : a < 2 ^ 31) (hb : b < 2 ^ 31) : (nI a - nI b).toInt = (a : Int) - b := by
  rw [Int32.toInt_sub, nI_toInt ha, nI_toInt hb]
  exact Int.bmod_eq_of_le (by omega) (by omega)
theorem sd_96 {n : Nat} (h : n ≤ 96) : (96 : Int32) - nI n = nI (96 - n) := pk_sub (a := 96) h
theorem sd_m96 (j : Nat) : nI j * 96 = nI (j * 96) := pk_mul j 96
theorem sd_n2 : ¬ (-2 : Int32) = 0 := by decide
theorem sd_n4 : ¬ (-4 : Int32) = 0 := by decide
theorem sd_n42 : ¬ (-4 : Int32) = -2 := by decide
theorem sd_n02 : ¬ (0 : Int32) = -2 := by decide
theorem sd_n1 : ¬ (1 : Int32) = 0 := by decide
theorem sd_l2 : (-2 : Int32) < 0 := by decide
theorem sd_l4 : (-4 : Int32) < 0 := by decide
theorem sd_g2 : ¬ (0 : Int32) ≤ -2 := by decide
theorem sd_g4 : ¬ (0 : Int32) ≤ -4 := by decide
theorem sd_nm2 {m : Nat} (h : m < 2 ^ 31) : ¬ nI m = -2 := fun e => nI_pos h (by rw [e]; exact sd_l2)
theorem sd_neg {p q : Int32} (h : p < 0) (hq : ¬ q < 0) : p ≤ q := Int32.le_trans (Int32.le_of_lt h) (Int32.not_lt.mp hq)
theorem sd_nle {p : Int32} (h : p < 0) : ¬ 0 ≤ p := Int32.not_le.mpr h
/-- every cell holds a byte -/
def sd_M (a : Nat → Int32) : Prop := ∀ j, a j &&& 255 = a j
theorem sd_z255 : (0 : Int32) &&& 255 = 0 := by decide
theorem sd_M0 : sd_M (fun _ => 0) := fun _ => sd_z255
theorem sd_Mu {a : Nat → Int32} (h : sd_M a) (k : Nat) {x : Int32} (hx : x &&& 255 = x) : sd_M (upd a k x) := by
  intro j
  by_cases e : j = k
  · subst e; rw [pk_us]; exact hx
  · rw [pk_un e]; exact h j
/-- every cell holds a size -/
def sd_Z (z : Nat → Int32) : Prop := ∀ j, ∃ m : Nat, m ≤ 96 ∧ z j = nI m
theorem sd_Z0 : sd_Z (fun _ => 0) := fun _ => ⟨0, by omega, rfl⟩
theorem sd_Zu {z : Nat → Int32} (h : sd_Z z) (k : Nat) {n : Nat} (hn : n ≤ 96) : sd_Z (upd z k (nI n)) := by
  intro j
  by_cases e : j = k
  · subst e; exact ⟨n, hn, pk_us⟩
  · rw [pk_un e]; exact h j
/-- the two objects hold the same stage, sizes, marks and bytes -/
def i_Rel (k : Nat) (u : SX) (v : SY) : Prop := ∃ (n : Nat) (a b z w : Nat → Int32), u = (nI n, a, b, z, w) ∧ v = (nI n, a, w, z, b) ∧ n ≤ 96 ∧ sd_M a ∧ sd_M b ∧ sd_Z z
theorem sd_rel {k n : Nat} {a b z w : Nat → Int32} (hn : n ≤ 96) (ha : sd_M a) (hb : sd_M b) (hz : sd_Z z) : i_Rel k (nI n, a, b, z, w) (nI n, a, w, z, b) := ⟨n, a, b, z, w, rfl, rfl, hn, ha, hb, hz⟩
theorem i_up {k : Nat} {u : SX} {v : SY} (h : i_Rel k u v) : i_Rel (k + 4) u v := h
theorem i_vc0 : wpX_init (fun u => wpY_init (fun v => i_Rel 0 u v)) := sd_rel (k := 0) (n := 0) (by omega) sd_M0 sd_M0 sd_Z0
/-! the private methods -/
theorem sd_room {post : Int32 → Prop} {a b z w : Nat → Int32} (n c : Nat) (hn : n ≤ 96) (hc : c < 2 ^ 31) (f : n + c ≤ 96 → post 1) (g : 96 < n + c → post 0) : wpX_stageHasRoom post (nI n, a, b, z, w) (nI c) :=
  pk_lt (96 - n) c (fun h => g (by omega)) (fun h => f (by omega)) (sd_96 hn) rfl (by omega) hc
theorem sd_app {post : SX → Prop} {a b z w : Nat → Int32} {x : Int32} (n : Nat) (hn : n < 96) (h : post (nI (n + 1), upd a n (x &&& 255), b, z, w)) : wpX_append post (nI n, a, b, z, w) x := by
  refine ⟨vp_in_nI hn (by omega), fun a2 e2 f3 e3 => ?_⟩
  rw [nI_clamp (by omega)] at e2
  rw [nI_1] at e3
  subst e2 e3
  exact h
theorem sd_ixT {post : Int32 → Prop} {j n : Nat} (h : j < n) (hn : n < 2 ^ 31) (hp : post 1) : wpX_isIndex post (nI j) (nI n) :=
  br_f (nI_pos (by omega)) (br_f (nI_ge h hn) hp)
/-- no place below n -/
def sd_B (p : Int32) (n : Nat) : Prop := p < 0 ∨ ∃ j : Nat, n ≤ j ∧ j < 2 ^ 31 ∧ p = nI j
theorem sd_at (p : Int32) (n : Nat) : sd_B p n ∨ ∃ j : Nat, j < n ∧ p = nI j := by
  by_cases h : p < 0
  · exact Or.inl (Or.inl h)
  · obtain ⟨j, hj, rfl⟩ := nI_of h
    by_cases h2 : j < n
    · exact Or.inr ⟨j, h2, rfl⟩
    · exact Or.inl (Or.inr ⟨j, by omega, hj, rfl⟩)
theorem sd_ixB {post : Int32 → Prop} {p : Int32} {n : Nat} (h : sd_B p n) (hp : post 0) : wpX_isIndex post p (nI n) := by
  rcases h with h | ⟨j, h, hj, rfl⟩
  · exact br_t h hp
  · exact br_f (nI_pos hj) (br_t (nI_le h hj) hp)
theorem sd_xBad {post : Int32 → Prop} {s p : Int32} {a b z w : Nat → Int32} (h : sd_B p 6) (hp : post (-2)) : wpX_sizeOrRefusal post (s, a, b, z, w) p := by
  unfold wpX_sizeOrRefusal
  exact sd_ixB h (br_t rfl hp)
theorem sd_yBad {post : Int32 → Prop} {s p : Int32} {a b z w : Nat → Int32} (h : sd_B p 6) (hp : post (-2)) : wpY_missing post (s, a, w, z, b) p := by
  rcases h with h | ⟨j, h, hj, rfl⟩
  · exact br_t h hp
  · exact br_f (nI_pos hj) (br_f (nI_ge (a := 5) (by omega) hj) hp)
theorem sd_xNo {post : Int32 → Prop} {s : Int32} {a b z w : Nat → Int32} {j : Nat} (hj : j < 6) (hw : w j = 0) (hp : post (-4)) : wpX_sizeOrRefusal post (s, a, b, z, w) (nI j) := by
  unfold wpX_sizeOrRefusal
  refine sd_ixT (n := 6) hj (by omega) (br_f sd_n1 ⟨vp_in_nI hj (by omega), ?_⟩)
  rw [nI_clamp (by omega)]
  exact br_t hw hp
theorem sd_xYes {post : Int32 → Prop} {s : Int32} {a b z w : Nat → Int32} {j : Nat} (hj : j < 6) (hw : ¬ w j = 0) (hp : post (z j)) : wpX_sizeOrRefusal post (s, a, b, z, w) (nI j) := by
  unfold wpX_sizeOrRefusal
  refine sd_ixT (n := 6) hj (by omega) (br_f sd_n1 ⟨vp_in_nI hj (by omega), ?_⟩)
  rw [nI_clamp (by omega)]
  exact br_f hw ⟨vp_in_nI hj (by omega), hp⟩
theorem sd_yNo {post : Int32 → Prop} {s : Int32} {a b z w : Nat → Int32} {j : Nat} (hj : j < 6) (hw : w j = 0) (hp : post (-4)) : wpY_missing post (s, a, w, z, b) (nI j) := by
  refine br_f (nI_pos (by omega)) (br_t (nI_le (b := 5) (by omega) (by omega)) ⟨vp_in_nI hj (by omega), ?_⟩)
  rw [nI_clamp (by omega)]
  exact br_t hw hp
theorem sd_yYes {post : Int32 → Prop} {s : Int32} {a b z w : Nat → Int32} {j : Nat} (hj : j < 6) (hw : ¬ w j = 0) (hp : post 0) : wpY_missing post (s, a, w, z, b) (nI j) := by
  refine br_f (nI_pos (by omega)) (br_t (nI_le (b := 5) (by omega) (by omega)) ⟨vp_in_nI hj (by omega), ?_⟩)
  rw [nI_clamp (by omega)]
  exact br_f hw hp
/-- X's look at a slot and Y's -/
theorem sd_look (s : Int32) (a b w : Nat → Int32) {z : Nat → Int32} (hz : sd_Z z) (p : Int32) : ∃ rx ry : Int32, (∀ post : Int32 → Prop, post rx → wpX_sizeOrRefusal post (s, a, b, z, w) p) ∧ (∀ post : Int32 → Prop, post ry → wpY_missing post (s, a, w, z, b) p) ∧ ((rx = -2 ∧ ry = -2) ∨ (rx = -4 ∧ ry = -4) ∨ ∃ j m : Nat, j < 6 ∧ p = nI j ∧ m ≤ 96 ∧ z j = nI m ∧ rx = nI m ∧ ry = 0) := by
  rcases sd_at p 6 with h | ⟨j, hj, rfl⟩
  · exact ⟨-2, -2, fun _ hp => sd_xBad h hp, fun _ hp => sd_yBad h hp, Or.inl ⟨rfl, rfl⟩⟩
  · by_cases hw : w j = 0
    · exact ⟨-4, -4, fun _ hp => sd_xNo hj hw hp, fun _ hp => sd_yNo hj hw hp, Or.inr (Or.inl ⟨rfl, rfl⟩)⟩
    · obtain ⟨m, hm, e⟩ := hz j
      exact ⟨z j, 0, fun _ hp => sd_xYes hj hw hp, fun _ hp => sd_yYes hj hw hp, Or.inr (Or.inr ⟨j, m, hj, rfl, hm, e, e, rfl⟩)⟩
/-- no range of m cells -/
def sd_RB (p q : Int32) (m : Nat) : Prop := p < 0 ∨ (¬ p < 0 ∧ q < 0) ∨ ∃ i c : Nat, i < 2 ^ 31 ∧ c < 2 ^ 31 ∧ p = nI i ∧ q = nI c ∧ m < i + c
theorem sd_rng (p q : Int32) (m : Nat) : sd_RB p q m ∨ ∃ i c : Nat, p = nI i ∧ q = nI c ∧ i + c ≤ m := by
  by_cases h : p < 0
  · exact Or.inl (Or.inl h)
  · by_cases h2 : q < 0
    · exact Or.inl (Or.inr (Or.inl ⟨h, h2⟩))
    · obtain ⟨i, hi, rfl⟩ := nI_of h
      obtain ⟨c, hc, rfl⟩ := nI_of h2
      by_cases h3 : i + c ≤ m
      · exact Or.inr ⟨i, c, rfl, rfl, h3⟩
      · exact Or.inl (Or.inr (Or.inr ⟨i, c, hi, hc, rfl, rfl, by omega⟩))
theorem sd_rX0 {post : Int32 → Prop} {p q : Int32} {m : Nat} (hm : m ≤ 96) (h : sd_RB p q m) (hp : post 0) : wpX_isRange post p q (nI m) := by
  rcases h with h | ⟨h0, h⟩ | ⟨i, c, hi, hc, rfl, rfl, h⟩
  · exact br_t h hp
  · exact br_f h0 (br_t h hp)
  · refine br_f (nI_pos hi) (br_f (nI_pos hc) (br_t ?_ hp))
    rw [Int32.lt_iff_toInt_lt, sd_subI (by omega) hc, nI_toInt hi]
    omega
theorem sd_rX1 {post : Int32 → Prop} {i c m : Nat} (hm : m ≤ 96) (h : i + c ≤ m) (hp : post 1) : wpX_isRange post (nI i) (nI c) (nI m) := by
  refine br_f (nI_pos (by omega)) (br_f (nI_pos (by omega)) (br_f ?_ hp))
  rw [pk_sub (by omega)]
  exact nI_nlt (by omega) (by omega)
end
section
/-! the loops of the two classes in lockstep -/
theorem sd_run (x1 x2 : Int32) (b z w : Nat → Int32) (c n0 : Nat) (hc : n0 + c ≤ 96) : ∀ d i : Nat, i + d = c → ∀ a : Nat → Int32, sd_M a → ∃ a' : Nat → Int32, sd_M a' ∧ (∀ post : Int32 → SX → Prop, post (nI (n0 + c)) (nI (n0 + c), a', b, z, w) → wX_feedRun_25 post x1 x2 (nI c) (d + 1) (nI i) (nI (n0 + i)) a b z w) ∧ (∀ post : Int32 → SY → Prop, post (nI (n0 + c)) (nI (n0 + c), a', w, z, b) → wY_feedRun_16 post x1 x2 (nI c) (nI n0) (d + 1) (nI i) a w z b) := by
  intro d
  induction d with
  | zero =>
    intro i hi a ha
    have e : i = c := by omega
    subst e
    refine ⟨a, ha, fun post hp => br_t (nI_le (Nat.le_refl _) (by omega)) hp, fun post hp => br_t (nI_le (Nat.le_refl _) (by omega)) ?_⟩
    refine pk_le i 0 (fun h => ?_) (fun h => nm_r (nI_add n0 i) hp)
    have e : i = 0 := by omega
    subst e
    exact hp
  | succ d ih =>
    intro i hi a ha
    obtain ⟨a', h1, hX, hY⟩ := ih (i + 1) (by omega) (upd a (n0 + i) ((x1 + nI i * x2) &&& 255)) (sd_Mu ha _ (sd_and _))
    refine ⟨a', h1, fun post hp => br_f (nI_ge (by omega) (by omega)) (sd_app (n0 + i) (by omega) ?_), fun post hp => br_f (nI_ge (by omega) (by omega)) ?_⟩
    · intro x ex
      rw [nI_1] at ex
      subst ex
      exact hX post hp
    · rw [nI_add]
      refine ⟨vp_in_nI (by omega) (by omega), fun a2 e2 x ex => ?_⟩
      rw [nI_clamp (by omega)] at e2
      rw [nI_1] at ex
      subst e2 ex
      exact hY post hp
theorem sd_from (b z w : Nat → Int32) (hb : sd_M b) (c n0 j f : Nat) (hc : n0 + c ≤ 96) (hj : j < 6) (hf : f + c ≤ 96) : ∀ d i : Nat, i + d = c → ∀ a : Nat → Int32, sd_M a → ∃ a' : Nat → Int32, sd_M a' ∧ (∀ post : Int32 → SX → Prop, post (nI (n0 + c)) (nI (n0 + c), a', b, z, w) → wX_feedFrom_49 post (nI c) (nI (j * 96 + f)) (d + 1) (nI i) (nI (n0 + i)) a b z w) ∧ (∀ post : Int32 → SY → Prop, post (nI (n0 + c)) (nI (n0 + c), a', w, z, b) → wY_feedFrom_64 post (nI j) (nI f) (nI c) (nI n0) (d + 1) (nI i) a w z b) := by
  intro d
  induction d with
  | zero =>
    intro i hi a ha
    have e : i = c := by omega
    subst e
    exact ⟨a, ha, fun post hp => br_t (nI_le (Nat.le_refl _) (by omega)) hp, fun post hp => br_t (nI_le (Nat.le_refl _) (by omega)) (nm_r (nI_add n0 i) hp)⟩
  | succ d ih =>
    intro i hi a ha
    obtain ⟨a', h1, hX, hY⟩ := ih (i + 1) (by omega) (upd a (n0 + i) (b (j * 96 + f + i))) (sd_Mu ha _ (hb _))
    refine ⟨a', h1, fun post hp => br_f (nI_ge (by omega) (by omega)) ?_, fun post hp => br_f (nI_ge (by omega) (by omega)) ?_⟩
    · rw [nI_add, nI_clamp (by omega)]
      refine ⟨vp_in_nI (by omega) (by omega), sd_app (n0 + i) (by omega) ?_⟩
      intro x ex
      rw [nI_1] at ex
      subst ex
      rw [hb]
      exact hX post hp
    · rw [sd_m96, nI_add, nI_add, nI_add]
      refine ⟨vp_in_nI (by omega) (by omega), vp_in_nI (by omega) (by omega), fun a2 e2 x ex => ?_⟩
      rw [nI_clamp (by omega), nI_clamp (by omega)] at e2
      rw [nI_1] at ex
      subst e2 ex
      exact hY post hp
theorem sd_ins (x2 : Int32) (b z w : Nat → Int32) (p n : Nat) (hn : n < 96) : ∀ d : Nat, p + d ≤ n → ∀ a : Nat → Int32, sd_M a → ∃ a' : Nat → Int32, sd_M a' ∧ (∀ post : Int32 → SX → Prop, post (nI (n + 1)) (nI (n + 1), a', b, z, w) → wX_insert_30 post (nI p) x2 (nI n) (d + 1) (nI (p + d)) a b z w) ∧ (∀ post : Int32 → SY → Prop, post (nI (n + 1)) (nI (n + 1), a', w, z, b) → wY_insert_31 post (nI p) x2 (nI n) (d + 1) (nI (p + d)) a w z b) := by
  intro d
  induction d with
  | zero =>
    intro hi a ha
    refine ⟨upd a p (x2 &&& 255), sd_Mu ha _ (sd_and _), fun post hp => br_t (nI_le (Nat.le_refl _) (by omega)) ⟨vp_in_nI (by omega) (by omega), fun a2 e2 x ex => ?_⟩, fun post hp => br_t (nI_le (Nat.le_refl _) (by omega)) ⟨vp_in_nI (by omega) (by omega), fun a2 e2 x ex => ?_⟩⟩
    all_goals
      rw [nI_clamp (by omega)] at e2
      rw [nI_1] at ex
      subst e2 ex
      exact hp
  | succ d ih =>
    intro hi a ha
    obtain ⟨a', h1, hX, hY⟩ := ih (by omega) (upd a (p + d + 1) (a (p + d))) (sd_Mu ha _ (ha _))
    refine ⟨a', h1, fun post hp => br_f (nI_ge (by omega) (by omega)) ?_, fun post hp => br_f (nI_ge (by omega) (by omega)) ?_⟩
    · rw [← Nat.add_assoc, nI_pred]
      refine ⟨vp_in_nI (by omega) (by omega), vp_in_nI (by omega) (by omega), fun a2 e2 x ex => ?_⟩
      rw [nI_clamp (by omega), nI_clamp (by omega)] at e2
      rw [pk_m1] at ex
      subst e2 ex
      exact hX post hp
    · rw [← Nat.add_assoc, nI_pred]
      refine ⟨vp_in_nI (by omega) (by omega), vp_in_nI (by omega) (by omega), fun a2 e2 x ex => ?_⟩
      rw [nI_clamp (by omega), nI_clamp (by omega)] at e2
      rw [pk_m1] at ex
      subst e2 ex
      exact hY post hp
theorem sd_cut (b z w : Nat → Int32) (c n : Nat) (hn : n ≤ 96) : ∀ d i : Nat, i + c + d = n → ∀ a : Nat → Int32, sd_M a → ∃ a' : Nat → Int32, sd_M a' ∧ (∀ post : Int32 → SX → Prop, post (nI (n - c)) (nI (n - c), a', b, z, w) → wX_cut_19 post (nI c) (nI n) (d + 1) (nI (i + c)) a b z w) ∧ (∀ post : Int32 → SY → Prop, post (nI (n - c)) (nI (n - c), a', w, z, b) → wY_cut_31 post (nI c) (nI n) (d + 1) (nI i) a w z b) := by
  intro d
  induction d with
  | zero =>
    intro i hi a ha
    refine ⟨a, ha, fun post hp => br_t (nI_le (by omega) (by omega)) (nm_r (pk_sub (by omega)) hp), fun post hp => br_t ?_ (nm_r (pk_sub (by omega)) hp)⟩
    rw [nI_add]
    exact nI_le (by omega) (by omega)
  | succ d ih =>
    intro i hi a ha
    obtain ⟨a', h1, hX, hY⟩ := ih (i + 1) (by omega) (upd a i (a (i + c))) (sd_Mu ha _ (ha _))
    have e1 : i + 1 + c = i + c + 1 := by omega
    refine ⟨a', h1, fun post hp => br_f (nI_ge (by omega) (by omega)) ?_, fun post hp => br_f ?_ ?_⟩
    · rw [pk_sub (by omega), Nat.add_sub_cancel]
      refine ⟨vp_in_nI (by omega) (by omega), vp_in_nI (by omega) (by omega), fun a2 e2 x ex => ?_⟩
      rw [nI_clamp (by omega), nI_clamp (by omega)] at e2
      rw [nI_1, ← e1] at ex
      subst e2 ex
      exact hX post hp
    · rw [nI_add]
      exact nI_ge (by omega) (by omega)
    · rw [nI_add]
      refine ⟨vp_in_nI (by omega) (by omega), vp_in_nI (by omega) (by omega), fun a2 e2 x ex => ?_⟩
      rw [nI_clamp (by omega), nI_clamp (by omega)] at e2
      rw [nI_1] at ex
      subst e2 ex
      exact hY post hp
theorem sd_save (a z w : Nat → Int32) (ha : sd_M a) (j n : Nat) (hj : j < 6) (hn : n ≤ 96) : ∀ d i : Nat, i + d = n → ∀ b : Nat → Int32, sd_M b → ∃ b' : Nat → Int32, sd_M b' ∧ (∀ post : Int32 → SX → Prop, post (nI n) (nI n, a, b', upd z j (nI n), upd w j (vp_nar .boolean 1)) → wX_save_31 post (nI j) (nI (j * 96)) (nI n) (d + 1) (nI i) a b z w) ∧ (∀ post : Int32 → SY → Prop, post (nI n) (nI n, a, upd w j (vp_nar .boolean 1), upd z j (nI n), b') → wY_save_24 post (nI j) (nI n) (d + 1) (nI i) a w z b) := by
  intro d
  induction d with
  | zero =>
    intro i hi b hb
    refine ⟨b, hb, fun post hp => br_t (nI_le (by omega) (by omega)) ⟨vp_in_nI hj (by omega), fun z2 e2 => ⟨vp_in_nI hj (by omega), fun w2 e3 => ?_⟩⟩, fun post hp => br_t (nI_le (by omega) (by omega)) ⟨vp_in_nI hj (by omega), fun z2 e2 => ⟨vp_in_nI hj (by omega), fun w2 e3 => ?_⟩⟩⟩
    all_goals
      rw [nI_clamp (by omega)] at e2 e3
      subst e2 e3
      exact hp
  | succ d ih =>
    intro i hi b hb
    obtain ⟨b', h1, hX, hY⟩ := ih (i + 1) (by omega) (upd b (j * 96 + i) (a i)) (sd_Mu hb _ (ha _))
    refine ⟨b', h1, fun post hp => br_f (nI_ge (by omega) (by omega)) ?_, fun post hp => br_f (nI_ge (by omega) (by omega)) ?_⟩
    · rw [nI_add]
      refine ⟨vp_in_nI (by omega) (by omega), vp_in_nI (by omega) (by omega), fun a2 e2 x ex => ?_⟩
      rw [nI_clamp (by omega), nI_clamp (by omega)] at e2
      rw [nI_1] at ex
      subst e2 ex
      exact hX post hp
    · rw [sd_m96, nI_add]
      refine ⟨vp_in_nI (by omega) (by omega), vp_in_nI (by omega) (by omega), fun a2 e2 x ex => ?_⟩
      rw [nI_clamp (by omega), nI_clamp (by omega)] at e2
      rw [nI_1] at ex
      subst e2 ex
      exact hY post hp
theorem sd_sum (s : Int32) (a b z w : Nat → Int32) (j m : Nat) (hj : j < 6) (hm : m ≤ 96) (ez : z j = nI m) : ∀ d i : Nat, i + d = m → ∀ t : Int32, ∃ r : Int32, (∀ post : Int32 → Prop, post r → wX_sum_24 post (nI m) (nI (j * 96)) s a b z w (d + 1) t (nI i)) ∧ (∀ post : Int32 → Prop, post r → wY_sum_15 post (nI j) s a w z b (d + 1) t (nI i)) := by
  intro d
  induction d with
  | zero =>
    intro i hi t
    refine ⟨t, fun post hp => br_t (nI_le (by omega) (by omega)) hp, fun post hp => ⟨vp_in_nI hj (by omega), br_t ?_ hp⟩⟩
    rw [nI_clamp (by omega), ez]
    exact nI_le (by omega) (by omega)
  | succ d ih =>
    intro i hi t
    obtain ⟨r, hX, hY⟩ := ih (i + 1) (by omega) (t * 131 + b (j * 96 + i))
    refine ⟨r, fun post hp => br_f (nI_ge (by omega) (by omega)) ?_, fun post hp => ⟨vp_in_nI hj (by omega), br_f ?_ ?_⟩⟩
    · rw [nI_add]
      refine ⟨vp_in_nI (by omega) (by omega), fun t2 e2 x ex => ?_⟩
      rw [nI_clamp (by omega)] at e2
      rw [nI_1] at ex
      subst e2 ex
      exact hX post hp
    · rw [nI_clamp (by omega), ez]
      exact nI_ge (by omega) (by omega)
    · rw [sd_m96, nI_add]
      refine ⟨vp_in_nI (by omega) (by omega), fun t2 e2 x ex => ?_⟩
      rw [nI_clamp (by omega)] at e2
      rw [nI_1] at ex
      subst e2 ex
      exact hY post hp
theorem sd_idle (s p q : Int32) (a b z w : Nat → Int32) (r : Nat) (post : Int32 → Prop) (hp : post (nI r)) : ∀ d i : Nat, i + d = 96 → r < i → wY_commonStart_47 post p q s a w z b (d + 1) (nI r) (nI i) := by
  intro d
  induction d with
  | zero =>
    intro i hi hr
    exact br_t (nI_le (a := 96) (by omega) (by omega)) hp
  | succ d ih =>
    intro i hi hr
    refine br_f (nI_ge (b := 96) (by omega) (by omega)) (br_f ?_ ?_)
    · rw [nI_eq (by omega) (by omega)]
      omega
    · exact nm_r (nI_1 i) (ih (i + 1) (by omega) (by omega))
theorem sd_com (s : Int32) (a b z w : Nat → Int32) (j k m1 m2 m : Nat) (hj : j < 6) (hk : k < 6) (h1 : m1 ≤ 96) (h2 : m2 ≤ 96) (e1 : z j = nI m1) (e2 : z k = nI m2) (hm : m = min m1 m2) : ∀ d i : Nat, i + d = 96 → i ≤ m → ∃ r : Int32, (∀ post : Int32 → Prop, post r → wX_commonStart_70 post (nI m) (nI (j * 96)) (nI (k * 96)) s a b z w (d + 1) (nI i)) ∧ (∀ post : Int32 → Prop, post r → wY_commonStart_47 post (nI j) (nI k) s a w z b (d + 1) (nI i) (nI i)) := by
  intro d
  induction d with
  | zero =>
    intro i hi him
    have e : i = m := by omega
    subst e
    exact ⟨nI i, fun post hp => br_t (nI_le (by omega) (by omega)) hp, fun post hp => br_t (nI_le (a := 96) (by omega) (by omega)) hp⟩
  | succ d ih =>
    intro i hi him
    have h96 : ¬ (96 : Int32) ≤ nI i := nI_ge (b := 96) (by omega) (by omega)
    by_cases e : i = m
    · subst e
      refine ⟨nI i, fun post hp => br_t (nI_le (by omega) (by omega)) hp, fun post hp => br_f h96 (br_t rfl ⟨vp_in_nI hj (by omega), ?_⟩)⟩
      have hid := sd_idle s (nI j) (nI k) a b z w i post hp d (i + 1) (by omega) (by omega)
      rw [nI_clamp (by omega), e1]
      refine pk_le m1 i (fun h => nm_r (nI_1 i) hid) (fun h => ⟨vp_in_nI hk (by omega), ?_⟩)
      rw [nI_clamp (by omega), e2]
      exact br_t (nI_le (by omega) (by omega)) (nm_r (nI_1 i) hid)
    · obtain ⟨r, hX, hY⟩ := ih (i + 1) (by omega) (by omega)
      by_cases eb : b (j * 96 + i) = b (k * 96 + i)
      · refine ⟨r, fun post hp => br_f (nI_ge (by omega) (by omega)) ?_, fun post hp => br_f h96 (br_t rfl ⟨vp_in_nI hj (by omega), ?_⟩)⟩
        · rw [nI_add, nI_add, nI_clamp (by omega), nI_clamp (by omega)]
          exact ⟨vp_in_nI (by omega) (by omega), vp_in_nI (by omega) (by omega), br_t eb (nm_r (nI_1 i) (hX post hp))⟩
        · rw [nI_clamp (by omega), e1]
          refine br_f (nI_ge (by omega) (by omega)) ⟨vp_in_nI hk (by omega), ?_⟩
          rw [nI_clamp (by omega), e2]
          refine br_f (nI_ge (by omega) (by omega)) ?_
          rw [sd_m96, sd_m96, nI_add, nI_add, nI_clamp (by omega), nI_clamp (by omega)]
          exact ⟨vp_in_nI (by omega) (by omega), vp_in_nI (by omega) (by omega), br_t eb (nm_r (nI_1 i) (nm_r (nI_1 i) (hY post hp)))⟩
      · refine ⟨nI i, fun post hp => br_f (nI_ge (by omega) (by omega)) ?_, fun post hp => br_f h96 (br_t rfl ⟨vp_in_nI hj (by omega), ?_⟩)⟩
        · rw [nI_add, nI_add, nI_clamp (by omega), nI_clamp (by omega)]
          exact ⟨vp_in_nI (by omega) (by omega), vp_in_nI (by omega) (by omega), br_f eb hp⟩
        · have hid := sd_idle s (nI j) (nI k) a b z w i post hp d (i + 1) (by omega) (by omega)
          rw [nI_clamp (by omega), e1]
          refine br_f (nI_ge (by omega) (by omega)) ⟨vp_in_nI hk (by omega), ?_⟩
          rw [nI_clamp (by omega), e2]
          refine br_f (nI_ge (by omega) (by omega)) ?_
          rw [sd_m96, sd_m96, nI_add, nI_add, nI_clamp (by omega), nI_clamp (by omega)]
          exact ⟨vp_in_nI (by omega) (by omega), vp_in_nI (by omega) (by omega), br_f eb (nm_r (nI_1 i) hid)⟩
end
section
/-! the methods: what is owed -/
theorem i_vc_begin {k : Nat} {u : SX} {v : SY} (I : i_Rel k u v) (hk : k + 4 ≤ 2048) : wpX_begin (fun u' => wpY_begin (fun v' => i_Rel (k + 4) u' v') v) u := by
  obtain ⟨n, a, b, z, w, rfl, rfl, hn, ha, hb, hz⟩ := I
  exact sd_rel (k := k + 4) (n := 0) (by omega) ha hb hz
theorem i_vc_feed {k : Nat} {u : SX} {v : SY} (I : i_Rel k u v) (hk : k + 4 ≤ 2048) (v1 : Int32) : wpX_feed (fun r u' => wpY_feed (fun r' v' => r' = r ∧ i_Rel (k + 4) u' v') v v1) u v1 := by
  obtain ⟨n, a, b, z, w, rfl, rfl, hn, ha, hb, hz⟩ := I
  unfold wpX_feed wpY_feed
  dsimp only
  refine sd_room n 1 hn (by omega) (fun h => br_f sd_n1 (sd_app n (by omega) ?_)) (fun h => br_t rfl ?_)
  · dsimp only
    unfold wpY_feedRun
    dsimp only
    rw [sd_96 hn]
    refine br_t (nI_le (a := 1) (by omega) (by omega)) ⟨2, ?_⟩
    refine br_f (nI_ge (a := 0) (b := 1) (by omega) (by omega)) ?_
    rw [Int32.zero_mul, Int32.add_zero, Int32.add_zero]
    refine ⟨vp_in_nI (by omega) (by omega), fun a2 e2 x ex => ?_⟩
    rw [nI_clamp (by omega)] at e2
    subst e2 ex
    exact br_t (by decide) (br_f (by decide) (nm_r (nI_1 n) ⟨rfl, sd_rel (by omega) (sd_Mu ha _ (sd_and _)) hb hz⟩))
  · unfold wpY_feedRun
    dsimp only
    rw [sd_96 hn]
    exact br_f (nI_ge (b := 1) (by omega) (by omega)) ⟨rfl, sd_rel hn ha hb hz⟩
theorem i_vc_feedRun {k : Nat} {u : SX} {v : SY} (I : i_Rel k u v) (hk : k + 4 ≤ 2048) (v1 : Int32) (v2 : Int32) (v3 : Int32) : wpX_feedRun (fun r u' => wpY_feedRun (fun r' v' => r' = r ∧ i_Rel (k + 4) u' v') v v1 v2 v3) u v1 v2 v3 := by
  obtain ⟨n, a, b, z, w, rfl, rfl, hn, ha, hb, hz⟩ := I
  unfold wpX_feedRun wpY_feedRun
  dsimp only
  rw [sd_96 hn]
  by_cases h0 : v3 < 0
  · refine br_f (sd_nle h0) ?_
    unfold wX_feedRun_9
    refine sd_room n 0 hn (by omega) (fun h => br_f sd_n1 ⟨1, ?_⟩) (fun h => absurd h (by omega))
    refine br_t (nI_le (a := 0) (b := 0) (by omega) (by omega)) (br_t (sd_neg h0 (nI_pos (by omega))) ⟨1, ?_⟩)
    exact br_t (Int32.le_of_lt h0) (br_t (Int32.le_of_lt h0) ⟨rfl, sd_rel hn ha hb hz⟩)
  · obtain ⟨c, hc, rfl⟩ := nI_of h0
    refine br_t (nI_pos' hc) ?_
    unfold wX_feedRun_9
    refine sd_room n c hn hc (fun h => br_f sd_n1 ?_) (fun h => br_t rfl ?_)
    · obtain ⟨a', h1, hX, hY⟩ := sd_run v1 v2 b z w c n h c 0 (by omega) a ha
      refine ⟨c + 1, hX _ (br_t (nI_le (by omega) (by omega)) ⟨c + 1, hY _ ⟨rfl, ?_⟩⟩)⟩
      exact sd_rel h h1 hb hz
    · exact br_f (nI_ge (by omega) hc) ⟨rfl, sd_rel hn ha hb hz⟩
theorem i_vc_feedFrom {k : Nat} {u : SX} {v : SY} (I : i_Rel k u v) (hk : k + 4 ≤ 2048) (v1 : Int32) (v2 : Int32) (v3 : Int32) : wpX_feedFrom (fun r u' => wpY_feedFrom (fun r' v' => r' = r ∧ i_Rel (k + 4) u' v') v v1 v2 v3) u v1 v2 v3 := by
  obtain ⟨n, a, b, z, w, rfl, rfl, hn, ha, hb, hz⟩ := I
  unfold wpX_feedFrom wpY_feedFrom
  dsimp only
  obtain ⟨rx, ry, hX, hY, hc⟩ := sd_look (nI n) a b w hz v1
  refine hX _ ?_
  rcases hc with ⟨rfl, rfl⟩ | ⟨rfl, rfl⟩ | ⟨j, m, hj, rfl, hm, ez, rfl, rfl⟩
  · exact br_f sd_g2 (hY _ (br_f sd_n2 ⟨rfl, sd_rel hn ha hb hz⟩))
  · exact br_f sd_g4 (hY _ (br_f sd_n4 ⟨rfl, sd_rel hn ha hb hz⟩))
  · refine br_t (nI_pos' (by omega)) ?_
    have hin : vp_in (nI j) 6 := vp_in_nI hj (by omega)
    have ecl : (nI j).toNatClampNeg = j := nI_clamp (by omega)
    rw [ecl, ez, sd_96 hn]
    rcases sd_rng v2 v3 m with h | ⟨f, c, rfl, rfl, h⟩
    · refine sd_rX0 hm h (br_t rfl (hY _ (br_t rfl ?_)))
      rcases h with h | ⟨h0, h⟩ | ⟨i, c, hi, hc, rfl, rfl, h⟩
      · exact br_t h ⟨rfl, sd_rel hn ha hb hz⟩
      · exact br_f h0 (br_t h ⟨rfl, sd_rel hn ha hb hz⟩)
      · refine br_f (nI_pos hi) (br_f (nI_pos hc) ⟨hin, ?_⟩)
        refine pk_lt m i (fun hl => ⟨rfl, sd_rel hn ha hb hz⟩) (fun hl => ⟨hin, ?_⟩)
        rw [pk_sub hl]
        exact br_f (nI_ge (by omega) hc) ⟨rfl, sd_rel hn ha hb hz⟩
    · rw [pk_sub (a := m) (b := f) (by omega)]
      refine sd_rX1 hm h (br_f sd_n1 (sd_room n c hn (by omega) (fun h2 => br_f sd_n1 (fun x ex => ?_)) (fun h2 => br_t rfl ?_)))
      · rw [sd_m96, nI_add] at ex
        subst ex
        obtain ⟨a', h1, hX2, hY2⟩ := sd_from b z w hb c n j f h2 hj (by omega) c 0 (by omega) a ha
        exact ⟨c + 1, hX2 _ (hY _ (br_t rfl (br_f (nI_pos (by omega)) (br_f (nI_pos (by omega)) ⟨hin, br_f (nI_nlt (by omega) (by omega)) ⟨hin, br_t (nI_le (by omega) (by omega)) (br_t (nI_le (by omega) (by omega)) ⟨c + 1, hY2 _ ⟨rfl, sd_rel h2 h1 hb hz⟩⟩)⟩⟩))))⟩
      · exact hY _ (br_t rfl (br_f (nI_pos (by omega)) (br_f (nI_pos (by omega)) ⟨hin, br_f (nI_nlt (by omega) (by omega)) ⟨hin, br_t (nI_le (by omega) (by omega)) (br_f (nI_ge (by omega) (by omega)) ⟨rfl, sd_rel hn ha hb hz⟩)⟩⟩)))
theorem i_vc_poke {k : Nat} {u : SX} {v : SY} (I : i_Rel k u v) (hk : k + 4 ≤ 2048) (v1 : Int32) (v2 : Int32) : wpX_poke (fun r u' => wpY_poke (fun r' v' => r' = r ∧ i_Rel (k + 4) u' v') v v1 v2) u v1 v2 := by
  obtain ⟨n, a, b, z, w, rfl, rfl, hn, ha, hb, hz⟩ := I
  unfold wpX_poke wpY_poke
  dsimp only
  rcases sd_at v1 n with h | ⟨j, hj, rfl⟩
  · refine sd_ixB h (br_t rfl ?_)
    rcases h with h | ⟨j, h, hj, rfl⟩
    · exact br_t h ⟨rfl, sd_rel hn ha hb hz⟩
    · exact br_f (nI_pos hj) (br_f (nI_nlt h hj) ⟨rfl, sd_rel hn ha hb hz⟩)
  · have hin : vp_in (nI j) 96 := vp_in_nI (by omega) (by omega)
    refine sd_ixT hj (by omega) (br_f sd_n1 ⟨hin, fun x ex => ⟨hin, fun a2 e2 => br_f (nI_pos (by omega)) (br_t (nI_lt hj (by omega)) ⟨hin, fun y ey => ⟨hin, fun a3 e3 => ?_⟩⟩)⟩⟩)
    subst ex ey e2 e3
    exact ⟨rfl, sd_rel hn (sd_Mu ha _ (sd_and _)) hb hz⟩
theorem i_vc_insert {k : Nat} {u : SX} {v : SY} (I : i_Rel k u v) (hk : k + 4 ≤ 2048) (v1 : Int32) (v2 : Int32) : wpX_insert (fun r u' => wpY_insert (fun r' v' => r' = r ∧ i_Rel (k + 4) u' v') v v1 v2) u v1 v2 := by
  obtain ⟨n, a, b, z, w, rfl, rfl, hn, ha, hb, hz⟩ := I
  unfold wpX_insert wpY_insert
  dsimp only
  rcases sd_at v1 (n + 1) with h | ⟨p, hp, rfl⟩
  · rcases h with h | ⟨j, h, hj, rfl⟩
    · exact br_t h (br_t h ⟨rfl, sd_rel hn ha hb hz⟩)
    · exact br_f (nI_pos hj) (br_f (nI_ge h hj) (br_f (nI_pos hj) (br_f (nI_ge h hj) ⟨rfl, sd_rel hn ha hb hz⟩)))
  · have hp0 : ¬ nI p < 0 := nI_pos (by omega)
    have hpn : nI p ≤ nI n := nI_le (by omega) (by omega)
    refine br_f hp0 (br_t hpn (sd_room n 1 hn (by omega) (fun h => br_f sd_n1 ?_) (fun h => br_t rfl ?_)))
    · obtain ⟨d, rfl⟩ : ∃ d, n = p + d := ⟨n - p, by omega⟩
      obtain ⟨a', h1, hX, hY⟩ := sd_ins v2 b z w p (p + d) (by omega) d (by omega) a ha
      exact ⟨d + 1, hX _ (br_f hp0 (br_t hpn (br_t (nI_lt (b := 96) (by omega) (by omega)) ⟨d + 1, hY _ ⟨rfl, sd_rel (by omega) h1 hb hz⟩⟩)))⟩
    · exact br_f hp0 (br_t hpn (br_f (nI_nlt (b := 96) (by omega) (by omega)) ⟨rfl, sd_rel hn ha hb hz⟩))
theorem i_vc_cut {k : Nat} {u : SX} {v : SY} (I : i_Rel k u v) (hk : k + 4 ≤ 2048) (v1 : Int32) (v2 : Int32) : wpX_cut (fun r u' => wpY_cut (fun r' v' => r' = r ∧ i_Rel (k + 4) u' v') v v1 v2) u v1 v2 := by
  obtain ⟨n, a, b, z, w, rfl, rfl, hn, ha, hb, hz⟩ := I
  unfold wpX_cut wpY_cut
  dsimp only
  rcases sd_rng v1 v2 n with h | ⟨p, c, rfl, rfl, h⟩
  · refine sd_rX0 hn h (br_t rfl ?_)
    rcases h with h | ⟨h0, h⟩ | ⟨i, c, hi, hc, rfl, rfl, h⟩
    · exact br_t h ⟨rfl, sd_rel hn ha hb hz⟩
    · exact br_f h0 (br_t h ⟨rfl, sd_rel hn ha hb hz⟩)
    · refine br_f (nI_pos hi) (br_f (nI_pos hc) (pk_lt n i (fun hl => ⟨rfl, sd_rel hn ha hb hz⟩) (fun hl => ?_)))
      rw [pk_sub hl]
      exact br_f (nI_ge (by omega) hc) ⟨rfl, sd_rel hn ha hb hz⟩
  · rw [pk_sub (a := n) (b := p) (by omega)]
    refine sd_rX1 hn h (br_f sd_n1 (nm_r (nI_add p c) ?_))
    obtain ⟨a', h1, hX, hY⟩ := sd_cut b z w c n hn (n - (p + c)) p (by omega) a ha
    exact ⟨_, hX _ (br_f (nI_pos (by omega)) (br_f (nI_pos (by omega)) (br_f (nI_nlt (by omega) (by omega)) (br_t (nI_le (by omega) (by omega)) ⟨_, hY _ ⟨rfl, sd_rel (by omega) h1 hb hz⟩⟩))))⟩
theorem i_vc_save {k : Nat} {u : SX} {v : SY} (I : i_Rel k u v) (hk : k + 4 ≤ 2048) (v1 : Int32) : wpX_save (fun r u' => wpY_save (fun r' v' => r' = r ∧ i_Rel (k + 4) u' v') v v1) u v1 := by
  obtain ⟨n, a, b, z, w, rfl, rfl, hn, ha, hb, hz⟩ := I
  unfold wpX_save wpY_save
  dsimp only
  rcases sd_at v1 6 with h | ⟨j, hj, rfl⟩
  · exact sd_ixB h (br_t rfl (sd_yBad h (br_t rfl ⟨rfl, sd_rel hn ha hb hz⟩)))
  · refine sd_ixT (n := 6) hj (by omega) (br_f sd_n1 ⟨vp_in_nI hj (by omega), ?_⟩)
    rw [nI_clamp (by omega)]
    refine br_c (fun hw => nm_r (sd_m96 j) ?_) (fun hw => sd_yYes hj hw (br_f sd_n02 (br_t rfl ⟨rfl, sd_rel hn ha hb hz⟩)))
    obtain ⟨b', h1, hX, hY⟩ := sd_save a z w ha j n hj hn n 0 (by omega) b hb
    exact ⟨_, hX _ (sd_yNo hj hw (br_f sd_n42 (br_f sd_n4 ⟨_, hY _ ⟨rfl, sd_rel hn ha h1 (sd_Zu hz _ hn)⟩⟩)))⟩
theorem i_vc_drop {k : Nat} {u : SX} {v : SY} (I : i_Rel k u v) (hk : k + 4 ≤ 2048) (v1 : Int32) : wpX_drop (fun r u' => wpY_drop (fun r' v' => r' = r ∧ i_Rel (k + 4) u' v') v v1) u v1 := by
  obtain ⟨n, a, b, z, w, rfl, rfl, hn, ha, hb, hz⟩ := I
  unfold wpX_drop wpY_drop
  dsimp only
  obtain ⟨rx, ry, hX, hY, hc⟩ := sd_look (nI n) a b w hz v1
  refine hX _ ?_
  rcases hc with ⟨rfl, rfl⟩ | ⟨rfl, rfl⟩ | ⟨j, m, hj, rfl, hm, ez, rfl, rfl⟩
  · exact br_t sd_l2 (hY _ (br_f sd_n2 ⟨rfl, sd_rel hn ha hb hz⟩))
  · exact br_t sd_l4 (hY _ (br_f sd_n4 ⟨rfl, sd_rel hn ha hb hz⟩))
  · have hin : vp_in (nI j) 6 := vp_in_nI hj (by omega)
    rw [nI_clamp (by omega), ez]
    refine br_f (nI_pos (by omega)) ⟨hin, fun w2 e2 => hY _ (br_t rfl ⟨hin, fun w3 e3 => ⟨hin, ?_⟩⟩)⟩
    subst e2 e3
    exact ⟨rfl, sd_rel hn ha hb hz⟩
theorem i_vc_stageLength {k : Nat} {u : SX} {v : SY} (I : i_Rel k u v) (hk : k + 4 ≤ 2048) : wpX_stageLength (fun r => wpY_stageLength (fun r' => r' = r ∧ i_Rel (k + 4) u v) v) u := by
  obtain ⟨n, a, b, z, w, rfl, rfl, hn, ha, hb, hz⟩ := I
  exact ⟨rfl, sd_rel hn ha hb hz⟩
theorem i_vc_stageByte {k : Nat} {u : SX} {v : SY} (I : i_Rel k u v) (hk : k + 4 ≤ 2048) (v1 : Int32) : wpX_stageByte (fun r => wpY_stageByte (fun r' => r' = r ∧ i_Rel (k + 4) u v) v v1) u v1 := by
  obtain ⟨n, a, b, z, w, rfl, rfl, hn, ha, hb, hz⟩ := I
  unfold wpX_stageByte wpY_stageByte
  dsimp only
  rcases sd_at v1 n with h | ⟨j, hj, rfl⟩
  · refine sd_ixB h (br_t rfl ?_)
    rcases h with h | ⟨j, h, hj, rfl⟩
    · exact br_t h ⟨rfl, sd_rel hn ha hb hz⟩
    · exact br_f (nI_pos hj) (br_f (nI_nlt h hj) ⟨rfl, sd_rel hn ha hb hz⟩)
  · have hin : vp_in (nI j) 96 := vp_in_nI (by omega) (by omega)
    exact sd_ixT hj (by omega) (br_f sd_n1 ⟨hin, br_f (nI_pos (by omega)) (br_t (nI_lt hj (by omega)) ⟨hin, rfl, sd_rel hn ha hb hz⟩)⟩)
theorem i_vc_length {k : Nat} {u : SX} {v : SY} (I : i_Rel k u v) (hk : k + 4 ≤ 2048) (v1 : Int32) : wpX_length (fun r => wpY_length (fun r' => r' = r ∧ i_Rel (k + 4) u v) v v1) u v1 := by
  obtain ⟨n, a, b, z, w, rfl, rfl, hn, ha, hb, hz⟩ := I
  unfold wpX_length wpY_length
  dsimp only
  obtain ⟨rx, ry, hX, hY, hc⟩ := sd_look (nI n) a b w hz v1
  refine hX _ ?_
  rcases hc with ⟨rfl, rfl⟩ | ⟨rfl, rfl⟩ | ⟨j, m, hj, rfl, hm, ez, rfl, rfl⟩
  · exact hY _ (br_f sd_n2 ⟨rfl, sd_rel hn ha hb hz⟩)
  · exact hY _ (br_f sd_n4 ⟨rfl, sd_rel hn ha hb hz⟩)
  · rw [nI_clamp (by omega), ez]
    exact hY _ (br_t rfl ⟨vp_in_nI hj (by omega), rfl, sd_rel hn ha hb hz⟩)
theorem i_vc_byteAt {k : Nat} {u : SX} {v : SY} (I : i_Rel k u v) (hk : k + 4 ≤ 2048) (v1 : Int32) (v2 : Int32) : wpX_byteAt (fun r => wpY_byteAt (fun r' => r' = r ∧ i_Rel (k + 4) u v) v v1 v2) u v1 v2 := by
  obtain ⟨n, a, b, z, w, rfl, rfl, hn, ha, hb, hz⟩ := I
  unfold wpX_byteAt wpY_byteAt
  dsimp only
  obtain ⟨rx, ry, hX, hY, hc⟩ := sd_look (nI n) a b w hz v1
  refine hX _ ?_
  rcases hc with ⟨rfl, rfl⟩ | ⟨rfl, rfl⟩ | ⟨j, m, hj, rfl, hm, ez, rfl, rfl⟩
  · exact br_f sd_g2 (hY _ (br_f sd_n2 ⟨rfl, sd_rel hn ha hb hz⟩))
  · exact br_f sd_g4 (hY _ (br_f sd_n4 ⟨rfl, sd_rel hn ha hb hz⟩))
  · have hin : vp_in (nI j) 6 := vp_in_nI hj (by omega)
    have ecl : (nI j).toNatClampNeg = j := nI_clamp (by omega)
    rw [ecl, ez]
    refine br_t (nI_pos' (by omega)) ?_
    rcases sd_at v2 m with h | ⟨i, hi, rfl⟩
    · refine sd_ixB h (br_t rfl (hY _ (br_t rfl ?_)))
      rcases h with h | ⟨i, h, hi, rfl⟩
      · exact br_t h ⟨rfl, sd_rel hn ha hb hz⟩
      · exact br_f (nI_pos hi) ⟨hin, br_f (nI_nlt h hi) ⟨rfl, sd_rel hn ha hb hz⟩⟩
    · rw [sd_m96, nI_add]
      have hi2 : vp_in (nI (j * 96 + i)) 576 := vp_in_nI (by omega) (by omega)
      exact sd_ixT hi (by omega) (br_f sd_n1 ⟨hi2, hY _ (br_t rfl (br_f (nI_pos (by omega)) ⟨hin, br_t (nI_lt hi (by omega)) ⟨hi2, rfl, sd_rel hn ha hb hz⟩⟩))⟩)
theorem i_vc_sum {k : Nat} {u : SX} {v : SY} (I : i_Rel k u v) (hk : k + 4 ≤ 2048) (v1 : Int32) : wpX_sum (fun r => wpY_sum (fun r' => r' = r ∧ i_Rel (k + 4) u v) v v1) u v1 := by
  obtain ⟨n, a, b, z, w, rfl, rfl, hn, ha, hb, hz⟩ := I
  unfold wpX_sum wpY_sum
  dsimp only
  obtain ⟨rx, ry, hX, hY, hc⟩ := sd_look (nI n) a b w hz v1
  refine hX _ ?_
  rcases hc with ⟨rfl, rfl⟩ | ⟨rfl, rfl⟩ | ⟨j, m, hj, rfl, hm, ez, rfl, rfl⟩
  · exact br_f sd_g2 (hY _ (br_f sd_n2 ⟨rfl, sd_rel hn ha hb hz⟩))
  · exact br_f sd_g4 (hY _ (br_f sd_n4 ⟨rfl, sd_rel hn ha hb hz⟩))
  · obtain ⟨r, hX2, hY2⟩ := sd_sum (nI n) a b z w j m hj hm ez m 0 (by omega) 7
    refine br_t (nI_pos' (by omega)) (nm_r (sd_m96 j) ⟨_, hX2 _ (hY _ (br_t rfl ⟨_, hY2 _ ⟨rfl, sd_rel hn ha hb hz⟩⟩))⟩)
theorem i_vc_commonStart {k : Nat} {u : SX} {v : SY} (I : i_Rel k u v) (hk : k + 4 ≤ 2048) (v1 : Int32) (v2 : Int32) : wpX_commonStart (fun r => wpY_commonStart (fun r' => r' = r ∧ i_Rel (k + 4) u v) v v1 v2) u v1 v2 := by
  obtain ⟨n, a, b, z, w, rfl, rfl, hn, ha, hb, hz⟩ := I
  unfold wpX_commonStart wpY_commonStart
  dsimp only
  obtain ⟨rx, ry, hX, hY, hc⟩ := sd_look (nI n) a b w hz v1
  obtain ⟨qx, qy, kX, kY, kc⟩ := sd_look (nI n) a b w hz v2
  have R : i_Rel (k + 4) (nI n, a, b, z, w) (nI n, a, w, z, b) := sd_rel hn ha hb hz
  refine hX _ (kX _ ?_)
  rcases hc with ⟨rfl, rfl⟩ | ⟨rfl, rfl⟩ | ⟨j, m, hj, rfl, hm, ez, rfl, rfl⟩
  · exact br_t rfl (hY _ (kY _ (br_t rfl ⟨rfl, R⟩)))
  · refine br_f sd_n42 ?_
    rcases kc with ⟨rfl, rfl⟩ | ⟨rfl, rfl⟩ | ⟨i, l, hi, rfl, hl, el, rfl, rfl⟩
    · exact br_t rfl (hY _ (kY _ (br_f sd_n42 (br_t rfl ⟨rfl, R⟩))))
    · exact br_f sd_n42 (br_t sd_l4 (hY _ (kY _ (br_f sd_n42 (br_f sd_n42 (br_f sd_n4 ⟨rfl, R⟩))))))
    · exact br_f (sd_nm2 (by omega)) (br_t sd_l4 (hY _ (kY _ (br_f sd_n42 (br_f sd_n02 (br_f sd_n4 ⟨rfl, R⟩))))))
  · refine br_f (sd_nm2 (by omega)) ?_
    rcases kc with ⟨rfl, rfl⟩ | ⟨rfl, rfl⟩ | ⟨i, l, hi, rfl, hl, el, rfl, rfl⟩
    · exact br_t rfl (hY _ (kY _ (br_f sd_n02 (br_t rfl ⟨rfl, R⟩))))
    · exact br_f sd_n42 (br_f (nI_pos (by omega)) (br_f sd_g4 (hY _ (kY _ (br_f sd_n02 (br_f sd_n42 (br_t rfl (br_f sd_n4 ⟨rfl, R⟩))))))))
    · obtain ⟨r, hX2, hY2⟩ := sd_com (nI n) a b z w j i m l (min m l) hj hi hm hl ez el rfl 96 0 (by omega) (by omega)
      have Y : wpY_missing (fun r_1 => (wpY_missing (fun r_7 => (((r_1 = (-2) → ((-2) = r ∧ i_Rel (k + 4) (nI n, a, b, z, w) (nI n, a, w, z, b))) ∧ (¬ r_1 = (-2) → (((r_7 = (-2) → ((-2) = r ∧ i_Rel (k + 4) (nI n, a, b, z, w) (nI n, a, w, z, b))) ∧ (¬ r_7 = (-2) → (((r_1 = 0 → (((r_7 = 0 → (∃ n47 : Nat, wY_commonStart_47 (fun r' => r' = r ∧ i_Rel (k + 4) (nI n, a, b, z, w) (nI n, a, w, z, b)) (nI j) (nI i) (nI n) a w z b n47 0 0)) ∧ (¬ r_7 = 0 → ((-4) = r ∧ i_Rel (k + 4) (nI n, a, b, z, w) (nI n, a, w, z, b)))))) ∧ (¬ r_1 = 0 → ((-4) = r ∧ i_Rel (k + 4) (nI n, a, b, z, w) (nI n, a, w, z, b)))))))))))) (nI n, a, w, z, b) (nI i))) (nI n, a, w, z, b) (nI j) :=
        hY _ (kY _ (br_f sd_n02 (br_f sd_n02 (br_t rfl (br_t rfl ⟨_, hY2 _ ⟨rfl, R⟩⟩)))))
      refine br_f (sd_nm2 (by omega)) (br_f (nI_pos (by omega)) (br_t (nI_pos' (by omega)) (pk_le l m (fun h => ?_) (fun h => ?_))))
      · rw [Nat.min_eq_right h] at hX2
        exact nm_r (sd_m96 j) (nm_r (sd_m96 i) ⟨_, hX2 _ Y⟩)
      · rw [Nat.min_eq_left (by omega)] at hX2
        exact nm_r (sd_m96 j) (nm_r (sd_m96 i) ⟨_, hX2 _ Y⟩)
end

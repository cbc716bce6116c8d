/-! the loops of the two classes in lockstep -/
theorem sd_run (x1 x2 : Int32) (b z w : Nat → Int32) (c n0 : Nat) (hc : n0 + c ≤ 96) : ∀ d i : Nat, i + d = c → ∀ a : Nat → Int32, sd_M a → ∃ a' : Nat → Int32, sd_M a' ∧ (∀ post : Int32 → SX → Prop, post (nI (n0 + c)) (nI (n0 + c), a', b, z, w) → wX_feedRun_25 post x1 x2 (nI c) (d + 1) (nI i) (nI (n0 + i)) a b z w) ∧ (∀ post : Int32 → SY → Prop, post (nI (n0 + c)) (nI (n0 + c), a', w, z, b) → wY_feedRun_16 post x1 x2 (nI c) (nI n0) (d + 1) (nI i) a w z b) := by
  intro d
  induction d with
  | zero =>
    intro i hi a ha
    have e : i = c := by omega
    subst e
    refine ⟨a, ha, fun post hp => br_t (nI_le (Nat.le_refl _) (by omega)) hp, fun post hp => br_t (nI_le (Nat.le_refl _) (by omega)) ?_⟩
    refine pk_le i 0 (fun h => ?_) (fun h => nm_r (nI_add n0 i) hp)
    have e : i = 0 := by omega
    subst e
    exact hp
  | succ d ih =>
    intro i hi a ha
    obtain ⟨a', h1, hX, hY⟩ := ih (i + 1) (by omega) (upd a (n0 + i) ((x1 + nI i * x2) &&& 255)) (sd_Mu ha _ (sd_and _))
    refine ⟨a', h1, fun post hp => br_f (nI_ge (by omega) (by omega)) (sd_app (n0 + i) (by omega) ?_), fun post hp => br_f (nI_ge (by omega) (by omega)) ?_⟩
    · intro x ex
      rw [nI_1] at ex
      subst ex
      exact hX post hp
    · rw [nI_add]
      refine ⟨vp_in_nI (by omega) (by omega), fun a2 e2 x ex => ?_⟩
      rw [nI_clamp (by omega)] at e2
      rw [nI_1] at ex
      subst e2 ex
      exact hY post hp
theorem sd_from (b z w : Nat → Int32) (hb : sd_M b) (c n0 j f : Nat) (hc : n0 + c ≤ 96) (hj : j < 6) (hf : f + c ≤ 96) : ∀ d i : Nat, i + d = c → ∀ a : Nat → Int32, sd_M a → ∃ a' : Nat → Int32, sd_M a' ∧ (∀ post : Int32 → SX → Prop, post (nI (n0 + c)) (nI (n0 + c), a', b, z, w) → wX_feedFrom_49 post (nI c) (nI (j * 96 + f)) (d + 1) (nI i) (nI (n0 + i)) a b z w) ∧ (∀ post : Int32 → SY → Prop, post (nI (n0 + c)) (nI (n0 + c), a', w, z, b) → wY_feedFrom_64 post (nI j) (nI f) (nI c) (nI n0) (d + 1) (nI i) a w z b) := by
  intro d
  induction d with
  | zero =>
    intro i hi a ha
    have e : i = c := by omega
    subst e
    exact ⟨a, ha, fun post hp => br_t (nI_le (Nat.le_refl _) (by omega)) hp, fun post hp => br_t (nI_le (Nat.le_refl _) (by omega)) (nm_r (nI_add n0 i) hp)⟩
  | succ d ih =>
    intro i hi a ha
    obtain ⟨a', h1, hX, hY⟩ := ih (i + 1) (by omega) (upd a (n0 + i) (b (j * 96 + f + i))) (sd_Mu ha _ (hb _))
    refine ⟨a', h1, fun post hp => br_f (nI_ge (by omega) (by omega)) ?_, fun post hp => br_f (nI_ge (by omega) (by omega)) ?_⟩
    · rw [nI_add, nI_clamp (by omega)]
      refine ⟨vp_in_nI (by omega) (by omega), sd_app (n0 + i) (by omega) ?_⟩
      intro x ex
      rw [nI_1] at ex
      subst ex
      rw [hb]
      exact hX post hp
    · rw [sd_m96, nI_add, nI_add, nI_add]
      refine ⟨vp_in_nI (by omega) (by omega), vp_in_nI (by omega) (by omega), fun a2 e2 x ex => ?_⟩
      rw [nI_clamp (by omega), nI_clamp (by omega)] at e2
      rw [nI_1] at ex
      subst e2 ex
      exact hY post hp
theorem sd_ins (x2 : Int32) (b z w : Nat → Int32) (p n : Nat) (hn : n < 96) : ∀ d : Nat, p + d ≤ n → ∀ a : Nat → Int32, sd_M a → ∃ a' : Nat → Int32, sd_M a' ∧ (∀ post : Int32 → SX → Prop, post (nI (n + 1)) (nI (n + 1), a', b, z, w) → wX_insert_30 post (nI p) x2 (nI n) (d + 1) (nI (p + d)) a b z w) ∧ (∀ post : Int32 → SY → Prop, post (nI (n + 1)) (nI (n + 1), a', w, z, b) → wY_insert_31 post (nI p) x2 (nI n) (d + 1) (nI (p + d)) a w z b) := by
  intro d
  induction d with
  | zero =>
    intro hi a ha
    refine ⟨upd a p (x2 &&& 255), sd_Mu ha _ (sd_and _), fun post hp => br_t (nI_le (Nat.le_refl _) (by omega)) ⟨vp_in_nI (by omega) (by omega), fun a2 e2 x ex => ?_⟩, fun post hp => br_t (nI_le (Nat.le_refl _) (by omega)) ⟨vp_in_nI (by omega) (by omega), fun a2 e2 x ex => ?_⟩⟩
    all_goals
      rw [nI_clamp (by omega)] at e2
      rw [nI_1] at ex
      subst e2 ex
      exact hp
  | succ d ih =>
    intro hi a ha
    obtain ⟨a', h1, hX, hY⟩ := ih (by omega) (upd a (p + d + 1) (a (p + d))) (sd_Mu ha _ (ha _))
    refine ⟨a', h1, fun post hp => br_f (nI_ge (by omega) (by omega)) ?_, fun post hp => br_f (nI_ge (by omega) (by omega)) ?_⟩
    · rw [← Nat.add_assoc, nI_pred]
      refine ⟨vp_in_nI (by omega) (by omega), vp_in_nI (by omega) (by omega), fun a2 e2 x ex => ?_⟩
      rw [nI_clamp (by omega), nI_clamp (by omega)] at e2
      rw [pk_m1] at ex
      subst e2 ex
      exact hX post hp
    · rw [← Nat.add_assoc, nI_pred]
      refine ⟨vp_in_nI (by omega) (by omega), vp_in_nI (by omega) (by omega), fun a2 e2 x ex => ?_⟩
      rw [nI_clamp (by omega), nI_clamp (by omega)] at e2
      rw [pk_m1] at ex
      subst e2 ex
      exact hY post hp
theorem sd_cut (b z w : Nat → Int32) (c n : Nat) (hn : n ≤ 96) : ∀ d i : Nat, i + c + d = n → ∀ a : Nat → Int32, sd_M a → ∃ a' : Nat → Int32, sd_M a' ∧ (∀ post : Int32 → SX → Prop, post (nI (n - c)) (nI (n - c), a', b, z, w) → wX_cut_19 post (nI c) (nI n) (d + 1) (nI (i + c)) a b z w) ∧ (∀ post : Int32 → SY → Prop, post (nI (n - c)) (nI (n - c), a', w, z, b) → wY_cut_31 post (nI c) (nI n) (d + 1) (nI i) a w z b) := by
  intro d
  induction d with
  | zero =>
    intro i hi a ha
    refine ⟨a, ha, fun post hp => br_t (nI_le (by omega) (by omega)) (nm_r (pk_sub (by omega)) hp), fun post hp => br_t ?_ (nm_r (pk_sub (by omega)) hp)⟩
    rw [nI_add]
    exact nI_le (by omega) (by omega)
  | succ d ih =>
    intro i hi a ha
    obtain ⟨a', h1, hX, hY⟩ := ih (i + 1) (by omega) (upd a i (a (i + c))) (sd_Mu ha _ (ha _))
    have e1 : i + 1 + c = i + c + 1 := by omega
    refine ⟨a', h1, fun post hp => br_f (nI_ge (by omega) (by omega)) ?_, fun post hp => br_f ?_ ?_⟩
    · rw [pk_sub (by omega), Nat.add_sub_cancel]
      refine ⟨vp_in_nI (by omega) (by omega), vp_in_nI (by omega) (by omega), fun a2 e2 x ex => ?_⟩
      rw [nI_clamp (by omega), nI_clamp (by omega)] at e2
      rw [nI_1, ← e1] at ex
      subst e2 ex
      exact hX post hp
    · rw [nI_add]
      exact nI_ge (by omega) (by omega)
    · rw [nI_add]
      refine ⟨vp_in_nI (by omega) (by omega), vp_in_nI (by omega) (by omega), fun a2 e2 x ex => ?_⟩
      rw [nI_clamp (by omega), nI_clamp (by omega)] at e2
      rw [nI_1] at ex
      subst e2 ex
      exact hY post hp
theorem sd_save (a z w : Nat → Int32) (ha : sd_M a) (j n : Nat) (hj : j < 6) (hn : n ≤ 96) : ∀ d i : Nat, i + d = n → ∀ b : Nat → Int32, sd_M b → ∃ b' : Nat → Int32, sd_M b' ∧ (∀ post : Int32 → SX → Prop, post (nI n) (nI n, a, b', upd z j (nI n), upd w j (vp_nar .boolean 1)) → wX_save_31 post (nI j) (nI (j * 96)) (nI n) (d + 1) (nI i) a b z w) ∧ (∀ post : Int32 → SY → Prop, post (nI n) (nI n, a, upd w j (vp_nar .boolean 1), upd z j (nI n), b') → wY_save_24 post (nI j) (nI n) (d + 1) (nI i) a w z b) := by
  intro d
  induction d with
  | zero =>
    intro i hi b hb
    refine ⟨b, hb, fun post hp => br_t (nI_le (by omega) (by omega)) ⟨vp_in_nI hj (by omega), fun z2 e2 => ⟨vp_in_nI hj (by omega), fun w2 e3 => ?_⟩⟩, fun post hp => br_t (nI_le (by omega) (by omega)) ⟨vp_in_nI hj (by omega), fun z2 e2 => ⟨vp_in_nI hj (by omega), fun w2 e3 => ?_⟩⟩⟩
    all_goals
      rw [nI_clamp (by omega)] at e2 e3
      subst e2 e3
      exact hp
  | succ d ih =>
    intro i hi b hb
    obtain ⟨b', h1, hX, hY⟩ := ih (i + 1) (by omega) (upd b (j * 96 + i) (a i)) (sd_Mu hb _ (ha _))
    refine ⟨b', h1, fun post hp => br_f (nI_ge (by omega) (by omega)) ?_, fun post hp => br_f (nI_ge (by omega) (by omega)) ?_⟩
    · rw [nI_add]
      refine ⟨vp_in_nI (by omega) (by omega), vp_in_nI (by omega) (by omega), fun a2 e2 x ex => ?_⟩
      rw [nI_clamp (by omega), nI_clamp (by omega)] at e2
      rw [nI_1] at ex
      subst e2 ex
      exact hX post hp
    · rw [sd_m96, nI_add]
      refine ⟨vp_in_nI (by omega) (by omega), vp_in_nI (by omega) (by omega), fun a2 e2 x ex => ?_⟩
      rw [nI_clamp (by omega), nI_clamp (by omega)] at e2
      rw [nI_1] at ex
      subst e2 ex
      exact hY post hp
theorem sd_sum (s : Int32) (a b z w : Nat → Int32) (j m : Nat) (hj : j < 6) (hm : m ≤ 96) (ez : z j = nI m) : ∀ d i : Nat, i + d = m → ∀ t : Int32, ∃ r : Int32, (∀ post : Int32 → Prop, post r → wX_sum_24 post (nI m) (nI (j * 96)) s a b z w (d + 1) t (nI i)) ∧ (∀ post : Int32 → Prop, post r → wY_sum_15 post (nI j) s a w z b (d + 1) t (nI i)) := by
  intro d
  induction d with
  | zero =>
    intro i hi t
    refine ⟨t, fun post hp => br_t (nI_le (by omega) (by omega)) hp, fun post hp => ⟨vp_in_nI hj (by omega), br_t ?_ hp⟩⟩
    rw [nI_clamp (by omega), ez]
    exact nI_le (by omega) (by omega)
  | succ d ih =>
    intro i hi t
    obtain ⟨r, hX, hY⟩ := ih (i + 1) (by omega) (t * 131 + b (j * 96 + i))
    refine ⟨r, fun post hp => br_f (nI_ge (by omega) (by omega)) ?_, fun post hp => ⟨vp_in_nI hj (by omega), br_f ?_ ?_⟩⟩
    · rw [nI_add]
      refine ⟨vp_in_nI (by omega) (by omega), fun t2 e2 x ex => ?_⟩
      rw [nI_clamp (by omega)] at e2
      rw [nI_1] at ex
      subst e2 ex
      exact hX post hp
    · rw [nI_clamp (by omega), ez]
      exact nI_ge (by omega) (by omega)
    · rw [sd_m96, nI_add]
      refine ⟨vp_in_nI (by omega) (by omega), fun t2 e2 x ex => ?_⟩
      rw [nI_clamp (by omega)] at e2
      rw [nI_1] at ex
      subst e2 ex
      exact hY post hp
theorem sd_idle (s p q : Int32) (a b z w : Nat → Int32) (r : Nat) (post : Int32 → Prop) (hp : post (nI r)) : ∀ d i : Nat, i + d = 96 → r < i → wY_commonStart_47 post p q s a w z b (d + 1) (nI r) (nI i) := by
  intro d
  induction d with
  | zero =>
    intro i hi hr
    exact br_t (nI_le (a := 96) (by omega) (by omega)) hp
  | succ d ih =>
    intro i hi hr
    refine br_f (nI_ge (b := 96) (by omega) (by omega)) (br_f ?_ ?_)
    · rw [nI_eq (by omega) (by omega)]
      omega
    · exact nm_r (nI_1 i) (ih (i + 1) (by omega) (by omega))
theorem sd_com (s : Int32) (a b z w : Nat → Int32) (j k m1 m2 m : Nat) (hj : j < 6) (hk : k < 6) (h1 : m1 ≤ 96) (h2 : m2 ≤ 96) (e1 : z j = nI m1) (e2 : z k = nI m2) (hm : m = min m1 m2) : ∀ d i : Nat, i + d = 96 → i ≤ m → ∃ r : Int32, (∀ post : Int32 → Prop, post r → wX_commonStart_70 post (nI m) (nI (j * 96)) (nI (k * 96)) s a b z w (d + 1) (nI i)) ∧ (∀ post : Int32 → Prop, post r → wY_commonStart_47 post (nI j) (nI k) s a w z b (d + 1) (nI i) (nI i)) := by
  intro d
  induction d with
  | zero =>
    intro i hi him
    have e : i = m := by omega
    subst e
    exact ⟨nI i, fun post hp => br_t (nI_le (by omega) (by omega)) hp, fun post hp => br_t (nI_le (a := 96) (by omega) (by omega)) hp⟩
  | succ d ih =>
    intro i hi him
    have h96 : ¬ (96 : Int32) ≤ nI i := nI_ge (b := 96) (by omega) (by omega)
    by_cases e : i = m
    · subst e
      refine ⟨nI i, fun post hp => br_t (nI_le (by omega) (by omega)) hp, fun post hp => br_f h96 (br_t rfl ⟨vp_in_nI hj (by omega), ?_⟩)⟩
      have hid := sd_idle s (nI j) (nI k) a b z w i post hp d (i + 1) (by omega) (by omega)
      rw [nI_clamp (by omega), e1]
      refine pk_le m1 i (fun h => nm_r (nI_1 i) hid) (fun h => ⟨vp_in_nI hk (by omega), ?_⟩)
      rw [nI_clamp (by omega), e2]
      exact br_t (nI_le (by omega) (by omega)) (nm_r (nI_1 i) hid)
    · obtain ⟨r, hX, hY⟩ := ih (i + 1) (by omega) (by omega)
      by_cases eb : b (j * 96 + i) = b (k * 96 + i)
      · refine ⟨r, fun post hp => br_f (nI_ge (by omega) (by omega)) ?_, fun post hp => br_f h96 (br_t rfl ⟨vp_in_nI hj (by omega), ?_⟩)⟩
        · rw [nI_add, nI_add, nI_clamp (by omega), nI_clamp (by omega)]
          exact ⟨vp_in_nI (by omega) (by omega), vp_in_nI (by omega) (by omega), br_t eb (nm_r (nI_1 i) (hX post hp))⟩
        · rw [nI_clamp (by omega), e1]
          refine br_f (nI_ge (by omega) (by omega)) ⟨vp_in_nI hk (by omega), ?_⟩
          rw [nI_clamp (by omega), e2]
          refine br_f (nI_ge (by omega) (by omega)) ?_
          rw [sd_m96, sd_m96, nI_add, nI_add, nI_clamp (by omega), nI_clamp (by omega)]
          exact ⟨vp_in_nI (by omega) (by omega), vp_in_nI (by omega) (by omega), br_t eb (nm_r (nI_1 i) (nm_r (nI_1 i) (hY post hp)))⟩
      · refine ⟨nI i, fun post hp => br_f (nI_ge (by omega) (by omega)) ?_, fun post hp => br_f h96 (br_t rfl ⟨vp_in_nI hj (by omega), ?_⟩)⟩
        · rw [nI_add, nI_add, nI_clamp (by omega), nI_clamp (by omega)]
          exact ⟨vp_in_nI (by omega) (by omega), vp_in_nI (by omega) (by omega), br_f eb hp⟩
        · have hid := sd_idle s (nI j) (nI k) a b z w i post hp d (i + 1) (by omega) (by omega)
          rw [nI_clamp (by omega), e1]
          refine br_f (nI_ge (by omega) (by omega)) ⟨vp_in_nI hk (by omega), ?_⟩
          rw [nI_clamp (by omega), e2]
          refine br_f (nI_ge (by omega) (by omega)) ?_
          rw [sd_m96, sd_m96, nI_add, nI_add, nI_clamp (by omega), nI_clamp (by omega)]
          exact ⟨vp_in_nI (by omega) (by omega), vp_in_nI (by omega) (by omega), br_f eb (nm_r (nI_1 i) hid)⟩

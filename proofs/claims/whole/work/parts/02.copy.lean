/-! copy: the disk afterwards, i blocks written upwards; the blocks from i on written downwards -/
def cb_cp (D : Nat → Int32) (f t i : Nat) : Nat → Int32 := fun x => if t ≤ x ∧ x < t + i then D (f + (x - t)) else D x
def cb_cd (D : Nat → Int32) (f t i l : Nat) : Nat → Int32 := fun x => if t + i ≤ x ∧ x < t + l then D (f + (x - t)) else D x
def cb_wk (W D : Nat → Int32) (f i : Nat) : Nat → Int32 := fun x => if x < i then D (f + x) else W x
theorem cb_cp0 {D : Nat → Int32} {f t : Nat} : cb_cp D f t 0 = D := funext fun x => if_neg (by omega)
theorem cb_cpR {D : Nat → Int32} {f t i : Nat} (h : t ≤ f) : cb_cp D f t i (f + i) = D (f + i) := if_neg (by omega)
theorem cb_cpS {D : Nat → Int32} {f t i : Nat} {y : Int32} (hy : y = D (f + i)) : upd (cb_cp D f t i) (t + i) y = cb_cp D f t (i + 1) := by
  funext x
  show (if x = t + i then y else (if t ≤ x ∧ x < t + i then D (f + (x - t)) else D x)) = (if t ≤ x ∧ x < t + (i + 1) then D (f + (x - t)) else D x)
  by_cases e : x = t + i
  · rw [if_pos e, if_pos (by omega), hy]
    exact congrArg D (by omega)
  · rw [if_neg e]
    by_cases z : t ≤ x ∧ x < t + i
    · rw [if_pos z, if_pos (by omega)]
    · rw [if_neg z, if_neg (by omega)]
theorem cb_cdL {D : Nat → Int32} {f t l : Nat} : cb_cd D f t l l = D := funext fun x => if_neg (by omega)
theorem cb_cd0 {D : Nat → Int32} {f t l : Nat} : cb_cd D f t 0 l = cb_cp D f t l := rfl
theorem cb_cdR {D : Nat → Int32} {f t i l : Nat} (h : f ≤ t) : cb_cd D f t (i + 1) l (f + i) = D (f + i) := if_neg (by omega)
theorem cb_cdS {D : Nat → Int32} {f t i l : Nat} {y : Int32} (hi : i < l) (hy : y = D (f + i)) : upd (cb_cd D f t (i + 1) l) (t + i) y = cb_cd D f t i l := by
  funext x
  show (if x = t + i then y else (if t + (i + 1) ≤ x ∧ x < t + l then D (f + (x - t)) else D x)) = (if t + i ≤ x ∧ x < t + l then D (f + (x - t)) else D x)
  by_cases e : x = t + i
  · rw [if_pos e, if_pos (by omega), hy]
    exact congrArg D (by omega)
  · rw [if_neg e]
    by_cases z : t + (i + 1) ≤ x ∧ x < t + l
    · rw [if_pos z, if_pos (by omega)]
    · rw [if_neg z, if_neg (by omega)]
theorem cb_wk0 {W D : Nat → Int32} {f : Nat} : cb_wk W D f 0 = W := funext fun x => if_neg (by omega)
theorem cb_wkS {W D : Nat → Int32} {f i : Nat} : upd (cb_wk W D f i) i (D (f + i)) = cb_wk W D f (i + 1) := by
  funext x
  show (if x = i then D (f + i) else (if x < i then D (f + x) else W x)) = (if x < i + 1 then D (f + x) else W x)
  by_cases e : x = i
  · rw [if_pos e, if_pos (by omega), e]
  · rw [if_neg e]
    by_cases z : x < i
    · rw [if_pos z, if_pos (by omega)]
    · rw [if_neg z, if_neg (by omega)]
theorem cb_xup {post : SX → Prop} {D im c : Nat → Int32} {f t l : Nat} (hf : f + l ≤ 16) (ht : t + l ≤ 16) (h : t ≤ f) (hp : post (cb_cp D f t l, im, c)) :
    ∀ q i, i + q = l → wX_copyUpwards_3 post (nI f) (nI t) (nI l) (q + 1) (nI i) (cb_cp D f t i) im c := by
  intro q
  induction q with
  | zero =>
    intro i hi
    obtain rfl : i = l := by omega
    exact br_t (nI_le (Nat.le_refl _) (by omega)) hp
  | succ q ih =>
    intro i hi
    have n : ¬ nI l ≤ nI i := nI_ge (by omega) (by omega)
    refine br_f n ⟨?_, ?_, nm_r ?_ (nm_r (nI_1 i) (ih (i + 1) (by omega)))⟩
    · rw [nI_add]; exact vp_in_nI (by omega) (by decide)
    · rw [nI_add]; exact vp_in_nI (by omega) (by decide)
    · rw [nI_add, nI_add, nI_clamp (by omega), nI_clamp (by omega), cb_cpR h]; exact cb_cpS rfl
theorem cb_xdn {post : SX → Prop} {D im c : Nat → Int32} {f t l : Nat} (hf : f + l ≤ 16) (ht : t + l ≤ 16) (h : f ≤ t) (hp : post (cb_cp D f t l, im, c)) :
    ∀ i, i ≤ l → wX_copyDownwards_5 post (nI f) (nI t) (i + 1) (nI i + (-1)) (cb_cd D f t i l) im c := by
  intro i
  induction i with
  | zero =>
    intro _
    have n : nI 0 + (-1) < 0 := by decide +kernel
    exact br_t n hp
  | succ i ih =>
    intro hi
    rw [pk_m1]
    refine br_f (nI_pos (by omega)) ⟨?_, ?_, nm_r ?_ (nm_e (ih (by omega)))⟩
    · rw [nI_add]; exact vp_in_nI (by omega) (by decide)
    · rw [nI_add]; exact vp_in_nI (by omega) (by decide)
    · rw [nI_add, nI_add, nI_clamp (by omega), nI_clamp (by omega), cb_cdR h]; exact cb_cdS (by omega) rfl
theorem cb_xupW {post : SX → Prop} {D im c : Nat → Int32} {f t l : Nat} (hf : f + l ≤ 16) (ht : t + l ≤ 16) (h : t ≤ f) (hp : post (cb_cp D f t l, im, c)) :
    wpX_copyUpwards post (D, im, c) (nI f) (nI t) (nI l) := by
  have z := cb_xup hf ht h hp l 0 (by omega)
  rw [cb_cp0, nI_0] at z
  exact ⟨l + 1, z⟩
theorem cb_xdnW {post : SX → Prop} {D im c : Nat → Int32} {f t l : Nat} (hf : f + l ≤ 16) (ht : t + l ≤ 16) (h : f ≤ t) (hp : post (cb_cp D f t l, im, c)) :
    wpX_copyDownwards post (D, im, c) (nI f) (nI t) (nI l) := by
  have z := cb_xdn hf ht h hp l (Nat.le_refl _)
  rw [cb_cdL] at z
  have e : nI l - 1 = nI l + (-1) := Int32.sub_eq_add_neg _ _
  exact nm_r e ⟨l + 1, z⟩
theorem cb_y87 {post : Int32 → SY → Prop} {D W c kp : Nat → Int32} {f t l : Nat} (ht : t + l ≤ 16) (hW : ∀ j, j < l → W j = D (f + j)) (hp : post (nI l) (cb_cp D f t l, W, c, kp)) :
    ∀ q i, i + q = l → wY_copy_87 post (nI t) (nI l) (q + 1) (nI i) (cb_cp D f t i) W c kp := by
  intro q
  induction q with
  | zero =>
    intro i hi
    obtain rfl : i = l := by omega
    exact br_t (nI_le (Nat.le_refl _) (by omega)) hp
  | succ q ih =>
    intro i hi
    have n : ¬ nI l ≤ nI i := nI_ge (by omega) (by omega)
    refine br_f n ⟨vp_in_nI (by omega) (by decide), ?_, nm_r ?_ (nm_r (nI_1 i) (ih (i + 1) (by omega)))⟩
    · rw [nI_add]; exact vp_in_nI (by omega) (by decide)
    · rw [nI_add, nI_clamp (by omega), nI_clamp (by omega)]; exact cb_cpS (hW i (by omega))
theorem cb_y55 {post : Int32 → SY → Prop} {D W c kp : Nat → Int32} {f t l : Nat} (hf : f + l ≤ 16) (ht : t + l ≤ 16) (hp : post (nI l) (cb_cp D f t l, cb_wk W D f l, c, kp)) :
    ∀ q i, i + q = l → wY_copy_55 post (nI f) (nI t) (nI l) (q + 1) (nI i) D (cb_wk W D f i) c kp := by
  intro q
  induction q with
  | zero =>
    intro i hi
    obtain rfl : i = l := by omega
    have z := cb_y87 ht (fun j hj => if_pos hj) hp i 0 (by omega)
    rw [cb_cp0, nI_0] at z
    exact br_t (nI_le (Nat.le_refl _) (by omega)) ⟨i + 1, z⟩
  | succ q ih =>
    intro i hi
    have n : ¬ nI l ≤ nI i := nI_ge (by omega) (by omega)
    refine br_f n ⟨?_, vp_in_nI (by omega) (by decide), nm_r ?_ (nm_r (nI_1 i) (ih (i + 1) (by omega)))⟩
    · rw [nI_add]; exact vp_in_nI (by omega) (by decide)
    · rw [nI_add, nI_clamp (by omega), nI_clamp (by omega)]; exact cb_wkS
theorem cb_c1 {f l : Nat} (hf : f < 16) (hl : l < 2 ^ 31) : (16 - nI f) < nI l ↔ 16 - f < l := by
  rw [cb_16, pk_sub (by omega), nI_ltI (by omega) hl]
theorem cb_c2 {t l : Nat} (ht : t < 16) (hl : l < 2 ^ 31) : nI l ≤ (16 - nI t) ↔ l ≤ 16 - t := by
  rw [cb_16, pk_sub (by omega), nI_leI hl (by omega)]
theorem cb_copy9 (x1 x2 : Int32) {l : Nat} (hl : l < 2 ^ 31) (d im c w kp : Nat → Int32) :
    ∃ (r : Int32) (D' W' : Nat → Int32), (∀ post : Int32 → SX → Prop, post r (D', im, c) → wX_copy_9 post x1 x2 (nI l) d im c) ∧
      (∀ post : Int32 → SY → Prop, post r (D', W', c, kp) → wY_copy_9 post x1 x2 (nI l) d w c kp) := by
  rcases cb_split x1 (n := 16) (by decide) with h1 | ⟨f, hf, rfl⟩
  · refine ⟨-2, d, w, fun post hp => ?_, fun post hp => ?_⟩
    · unfold wX_copy_9; exact cb_xblkO h1 (br_t rfl hp)
    · unfold wY_copy_9; exact cb_ygO h1 hp
  rcases cb_split x2 (n := 16) (by decide) with h2 | ⟨t, ht, rfl⟩
  · refine ⟨-2, d, w, fun post hp => ?_, fun post hp => ?_⟩
    · unfold wX_copy_9; exact cb_xblk hf (br_f (by decide) (cb_xblkO h2 (br_t rfl hp)))
    · unfold wY_copy_9; exact cb_yg hf (cb_ygO h2 hp)
  by_cases k1 : 16 - f < l
  · have n1 := (cb_c1 hf hl).mpr k1
    refine ⟨-2, d, w, fun post hp => ?_, fun post hp => ?_⟩
    · unfold wX_copy_9; exact cb_xblk hf (br_f (by decide) (cb_xblk ht (br_f (by decide) (br_t n1 hp))))
    · unfold wY_copy_9; exact cb_yg hf (cb_yg ht (br_t n1 hp))
  have n1 := fun z => k1 ((cb_c1 hf hl).mp z)
  by_cases k2 : l ≤ 16 - t
  · have n2 := (cb_c2 ht hl).mpr k2
    refine ⟨nI l, cb_cp d f t l, cb_wk w d f l, fun post hp => ?_, fun post hp => ?_⟩
    · unfold wX_copy_9
      refine cb_xblk hf (br_f (by decide) (cb_xblk ht (br_f (by decide) (br_f n1 (br_t n2 ?_)))))
      by_cases o : f ≤ t
      · exact br_t (nI_le o (by omega)) (cb_xdnW (by omega) (by omega) o hp)
      · exact br_f (nI_ge (by omega) (by omega)) (cb_xupW (by omega) (by omega) (by omega) hp)
    · unfold wY_copy_9
      have z := cb_y55 (W := w) (by omega) (by omega) hp l 0 (by omega)
      rw [cb_wk0, nI_0] at z
      exact cb_yg hf (cb_yg ht (br_f n1 (br_t n2 ⟨l + 1, z⟩)))
  · have n2 := fun z => k2 ((cb_c2 ht hl).mp z)
    refine ⟨-2, d, w, fun post hp => ?_, fun post hp => ?_⟩
    · unfold wX_copy_9; exact cb_xblk hf (br_f (by decide) (cb_xblk ht (br_f (by decide) (br_f n1 (br_f n2 hp)))))
    · unfold wY_copy_9; exact cb_yg hf (cb_yg ht (br_f n1 (br_f n2 hp)))
theorem i_vc_copy {k : Nat} {u : SX} {v : SY} (I : i_Rel k u v) (hk : k + 4 ≤ 2048) (v1 : Int32) (v2 : Int32) (v3 : Int32) : wpX_copy (fun r u' => wpY_copy (fun r' v' => r' = r ∧ i_Rel (k + 4) u' v') v v1 v2 v3) u v1 v2 v3 := by
  obtain ⟨d, im, c, w, kp, m, rfl, rfl, h⟩ := I
  by_cases h0 : 0 ≤ v3
  · obtain ⟨l, hl, rfl⟩ := nI_of (x := v3) (Int32.not_lt.mpr h0)
    obtain ⟨r, D', W', hX, hY⟩ := cb_copy9 v1 v2 hl d im c w kp
    exact br_t h0 (hX _ (br_t h0 (hY _ ⟨rfl, D', im, c, W', kp, m, rfl, rfl, h⟩)))
  · obtain ⟨r, D', W', hX, hY⟩ := cb_copy9 v1 v2 (l := 0) (by decide) d im c w kp
    rw [nI_0] at hX hY
    exact br_f h0 (hX _ (br_f h0 (hY _ ⟨rfl, D', im, c, W', kp, m, rfl, rfl, h⟩)))

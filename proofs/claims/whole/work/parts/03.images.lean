/-! counting against an image, in lockstep -/
theorem cb_cnt {d im c w kp : Nat → Int32} {a k : Nat} (ha : a < 2) (hk : k < 6) (hg : ∀ b, b < 16 → im (96 * a + 16 * k + b) = kp (96 * a + 16 * k + b)) :
    ∀ t b, b + t = 16 → ∀ r0 : Int32, ∃ r : Int32, (∀ post : Int32 → Prop, post r → wX_countChanges_12 post (nI (96 * a + 16 * k)) d im c (t + 1) r0 (nI b)) ∧
      (∀ post : Int32 → Prop, post r → wY_against_5 post (nI a) (nI k) d w c kp (t + 1) r0 (nI b)) := by
  intro t
  induction t with
  | zero =>
    intro b hb r0
    have n : (16 : Int32) ≤ nI b := nI_le (a := 16) (by omega) (by omega)
    exact ⟨r0, fun _ hp => br_t n hp, fun _ hp => br_t n hp⟩
  | succ t ih =>
    intro b hb r0
    have n : ¬ (16 : Int32) ≤ nI b := nI_ge (b := 16) (by omega) (by decide)
    have hi : vp_in (nI b) 16 := vp_in_nI (by omega) (by decide)
    have eb : (nI b).toNatClampNeg = b := nI_clamp (by omega)
    have eX : (nI (96 * a + 16 * k) + nI b).toNatClampNeg = 96 * a + 16 * k + b := by rw [nI_add, nI_clamp (by omega)]
    have iX : vp_in (nI (96 * a + 16 * k) + nI b) 192 := by rw [nI_add]; exact vp_in_nI (by omega) (by decide)
    have eY : ((nI a * 6 + nI k) * 16 + nI b).toNatClampNeg = 96 * a + 16 * k + b := by rw [cb_yi, nI_clamp (by omega)]
    have iY : vp_in ((nI a * 6 + nI k) * 16 + nI b) 192 := by rw [cb_yi]; exact vp_in_nI (by omega) (by decide)
    by_cases z : d b = im (96 * a + 16 * k + b)
    · have z' : d b = kp (96 * a + 16 * k + b) := z.trans (hg b (by omega))
      obtain ⟨r, hX, hY⟩ := ih (b + 1) (by omega) r0
      exact ⟨r, fun post hp => br_f n ⟨hi, iX, br_t (by rw [eb, eX]; exact z) (nm_r (nI_1 b) (hX post hp))⟩,
        fun post hp => br_f n ⟨hi, iY, br_t (by rw [eb, eY]; exact z') (nm_r (nI_1 b) (hY post hp))⟩⟩
    · have z' : ¬ d b = kp (96 * a + 16 * k + b) := fun q => z (q.trans (hg b (by omega)).symm)
      obtain ⟨r, hX, hY⟩ := ih (b + 1) (by omega) (r0 + 1)
      exact ⟨r, fun post hp => br_f n ⟨hi, iX, br_f (by rw [eb, eX]; exact z) (nm_e (nm_r (nI_1 b) (hX post hp)))⟩,
        fun post hp => br_f n ⟨hi, iY, br_f (by rw [eb, eY]; exact z') (nm_e (nm_r (nI_1 b) (hY post hp)))⟩⟩
theorem cb_cntW {d im c w kp : Nat → Int32} {a k : Nat} (ha : a < 2) (hk : k < 6) (hg : ∀ b, b < 16 → im (96 * a + 16 * k + b) = kp (96 * a + 16 * k + b)) :
    ∃ r : Int32, (∀ post : Int32 → Prop, post r → wpX_countChanges post (d, im, c) (nI a) (nI k)) ∧
      (∀ post : Int32 → Prop, post r → wpY_against post (d, w, c, kp) (nI a) (nI k)) := by
  obtain ⟨r, hX, hY⟩ := cb_cnt (d := d) (c := c) (w := w) ha hk hg 16 0 rfl 0
  rw [nI_0] at hX hY
  refine ⟨r, fun post hp => ?_, fun post hp => ⟨17, hY post hp⟩⟩
  unfold wpX_countChanges wpX_imageStart
  dsimp only
  rw [cb_xs]
  exact ⟨17, hX post hp⟩
/-! two images of one chain, in lockstep -/
theorem cb_dif {d im c w kp : Nat → Int32} {a j k : Nat} (ha : a < 2) (hj : j < 6) (hk : k < 6) (hf : ∀ b, b < 16 → im (96 * a + 16 * j + b) = kp (96 * a + 16 * j + b)) (hg : ∀ b, b < 16 → im (96 * a + 16 * k + b) = kp (96 * a + 16 * k + b)) :
    ∀ t b, b + t = 16 → ∀ r0 : Int32, ∃ r : Int32, (∀ post : Int32 → Prop, post r → wX_differ_50 post (nI (96 * a + 16 * j)) (nI (96 * a + 16 * k)) d im c (t + 1) r0 (nI b)) ∧
      (∀ post : Int32 → Prop, post r → wY_differ_37 post (nI a) (nI j) (nI k) d w c kp (t + 1) r0 (nI b)) := by
  intro t
  induction t with
  | zero =>
    intro b hb r0
    have n : (16 : Int32) ≤ nI b := nI_le (a := 16) (by omega) (by omega)
    exact ⟨r0, fun _ hp => br_t n hp, fun _ hp => br_t n hp⟩
  | succ t ih =>
    intro b hb r0
    have n : ¬ (16 : Int32) ≤ nI b := nI_ge (b := 16) (by omega) (by decide)
    have eX : ∀ q, q < 6 → (nI (96 * a + 16 * q) + nI b).toNatClampNeg = 96 * a + 16 * q + b := fun q hq => by rw [nI_add, nI_clamp (by omega)]
    have iX : ∀ q, q < 6 → vp_in (nI (96 * a + 16 * q) + nI b) 192 := fun q hq => by rw [nI_add]; exact vp_in_nI (by omega) (by decide)
    have eY : ∀ q, q < 6 → ((nI a * 6 + nI q) * 16 + nI b).toNatClampNeg = 96 * a + 16 * q + b := fun q hq => by rw [cb_yi, nI_clamp (by omega)]
    have iY : ∀ q, q < 6 → vp_in ((nI a * 6 + nI q) * 16 + nI b) 192 := fun q hq => by rw [cb_yi]; exact vp_in_nI (by omega) (by decide)
    have gf := hf b (by omega)
    have gg := hg b (by omega)
    by_cases z : im (96 * a + 16 * j + b) = im (96 * a + 16 * k + b)
    · have z' : kp (96 * a + 16 * j + b) = kp (96 * a + 16 * k + b) := gf.symm.trans (z.trans gg)
      obtain ⟨r, hX, hY⟩ := ih (b + 1) (by omega) r0
      exact ⟨r, fun post hp => br_f n ⟨iX j hj, iX k hk, br_t (by rw [eX j hj, eX k hk]; exact z) (nm_r (nI_1 b) (hX post hp))⟩,
        fun post hp => br_f n ⟨iY j hj, iY k hk, br_t (by rw [eY j hj, eY k hk]; exact z') (nm_r (nI_1 b) (hY post hp))⟩⟩
    · have z' : ¬ kp (96 * a + 16 * j + b) = kp (96 * a + 16 * k + b) := fun q => z (gf.trans (q.trans gg.symm))
      obtain ⟨r, hX, hY⟩ := ih (b + 1) (by omega) (r0 + 1)
      exact ⟨r, fun post hp => br_f n ⟨iX j hj, iX k hk, br_f (by rw [eX j hj, eX k hk]; exact z) (nm_e (nm_r (nI_1 b) (hX post hp)))⟩,
        fun post hp => br_f n ⟨iY j hj, iY k hk, br_f (by rw [eY j hj, eY k hk]; exact z') (nm_e (nm_r (nI_1 b) (hY post hp)))⟩⟩
/-! an image onto the disk, in lockstep -/
theorem cb_res {im c w kp : Nat → Int32} {a k : Nat} {r : Int32} (ha : a < 2) (hk : k < 6) (hg : ∀ b, b < 16 → im (96 * a + 16 * k + b) = kp (96 * a + 16 * k + b)) :
    ∀ t b, b + t = 16 → ∀ D : Nat → Int32, ∃ D' : Nat → Int32, (∀ post : Int32 → SX → Prop, post r (D', im, c) → wX_restore_38 post r (nI (96 * a + 16 * k)) (t + 1) (nI b) D im c) ∧
      (∀ post : Int32 → SY → Prop, post r (D', w, c, kp) → wY_restore_32 post (nI a) (nI k) r (t + 1) (nI b) D w c kp) := by
  intro t
  induction t with
  | zero =>
    intro b hb D
    have n : (16 : Int32) ≤ nI b := nI_le (a := 16) (by omega) (by omega)
    exact ⟨D, fun _ hp => br_t n hp, fun _ hp => br_t n hp⟩
  | succ t ih =>
    intro b hb D
    have n : ¬ (16 : Int32) ≤ nI b := nI_ge (b := 16) (by omega) (by decide)
    have hi : vp_in (nI b) 16 := vp_in_nI (by omega) (by decide)
    have eb : (nI b).toNatClampNeg = b := nI_clamp (by omega)
    have eX : (nI (96 * a + 16 * k) + nI b).toNatClampNeg = 96 * a + 16 * k + b := by rw [nI_add, nI_clamp (by omega)]
    have iX : vp_in (nI (96 * a + 16 * k) + nI b) 192 := by rw [nI_add]; exact vp_in_nI (by omega) (by decide)
    have eY : ((nI a * 6 + nI k) * 16 + nI b).toNatClampNeg = 96 * a + 16 * k + b := by rw [cb_yi, nI_clamp (by omega)]
    have iY : vp_in ((nI a * 6 + nI k) * 16 + nI b) 192 := by rw [cb_yi]; exact vp_in_nI (by omega) (by decide)
    obtain ⟨D', hX, hY⟩ := ih (b + 1) (by omega) (upd D b (im (96 * a + 16 * k + b)))
    exact ⟨D', fun post hp => br_f n ⟨iX, hi, nm_r (by rw [eb, eX]) (nm_r (nI_1 b) (hX post hp))⟩,
      fun post hp => br_f n ⟨iY, hi, nm_r (by rw [eb, eY, ← hg b (by omega)]) (nm_r (nI_1 b) (hY post hp))⟩⟩
/-! the disk into an image: a write of one value at one place on both sides keeps all agreement and adds that place -/
theorem cb_bak {d c w : Nat → Int32} {a k : Nat} {r : Int32} {c' : Nat → Int32} (ha : a < 2) (hk : k < 6) (hc : upd c a (nI k + 1) = c') (hr : nI k = r) :
    ∀ t b, b + t = 16 → ∀ (im kp : Nat → Int32) (G : Nat → Prop), (∀ x, G x → im x = kp x) → ∃ im' kp' : Nat → Int32, (∀ x, (G x ∨ (96 * a + 16 * k + b ≤ x ∧ x < 96 * a + 16 * k + 16)) → im' x = kp' x) ∧
      (∀ post : Int32 → SX → Prop, post r (d, im', c') → wX_backup_34 post (nI a) (nI k) (nI (96 * a + 16 * k)) (t + 1) (nI b) d im c) ∧
      (∀ post : Int32 → SY → Prop, post r (d, w, c', kp') → wY_backup_28 post (nI a) (nI k) (t + 1) (nI b) d w c kp) := by
  subst hr hc
  have ia : vp_in (nI a) 2 := vp_in_nI ha (by decide)
  have ea : (nI a).toNatClampNeg = a := nI_clamp (by omega)
  intro t
  induction t with
  | zero =>
    intro b hb im kp G hG
    have n : (16 : Int32) ≤ nI b := nI_le (a := 16) (by omega) (by omega)
    refine ⟨im, kp, fun x hx => ?_, fun post hp => br_t n ⟨ia, nm_r (by rw [ea]) hp⟩, fun post hp => br_t n ⟨ia, nm_r (by rw [ea]) hp⟩⟩
    rcases hx with hx | hx
    · exact hG x hx
    · omega
  | succ t ih =>
    intro b hb im kp G hG
    have n : ¬ (16 : Int32) ≤ nI b := nI_ge (b := 16) (by omega) (by decide)
    have hi : vp_in (nI b) 16 := vp_in_nI (by omega) (by decide)
    have eb : (nI b).toNatClampNeg = b := nI_clamp (by omega)
    have eX : (nI (96 * a + 16 * k) + nI b).toNatClampNeg = 96 * a + 16 * k + b := by rw [nI_add, nI_clamp (by omega)]
    have iX : vp_in (nI (96 * a + 16 * k) + nI b) 192 := by rw [nI_add]; exact vp_in_nI (by omega) (by decide)
    have eY : ((nI a * 6 + nI k) * 16 + nI b).toNatClampNeg = 96 * a + 16 * k + b := by rw [cb_yi, nI_clamp (by omega)]
    have iY : vp_in ((nI a * 6 + nI k) * 16 + nI b) 192 := by rw [cb_yi]; exact vp_in_nI (by omega) (by decide)
    obtain ⟨im', kp', hA, hX, hY⟩ := ih (b + 1) (by omega) (upd im (96 * a + 16 * k + b) (d b)) (upd kp (96 * a + 16 * k + b) (d b)) (fun x => G x ∨ x = 96 * a + 16 * k + b) (by
      intro x hx
      by_cases e : x = 96 * a + 16 * k + b
      · rw [e, pk_us, pk_us]
      · rw [pk_un e, pk_un e]
        exact hG x (hx.resolve_right e))
    refine ⟨im', kp', fun x hx => hA x ?_, fun post hp => br_f n ⟨hi, iX, nm_r (by rw [eb, eX]) (nm_r (nI_1 b) (hX post hp))⟩,
      fun post hp => br_f n ⟨hi, iY, nm_r (by rw [eb, eY]) (nm_r (nI_1 b) (hY post hp))⟩⟩
    rcases hx with hx | hx
    · exact Or.inl (Or.inl hx)
    · by_cases e : x = 96 * a + 16 * k + b
      · exact Or.inl (Or.inr e)
      · exact Or.inr (by omega)
/-! the shift by one image: each side against its own picture -/
def cb_sh (F : Nat → Int32) (p e : Nat) : Nat → Int32 := fun x => if p ≤ x ∧ x < e then F (x + 16) else F x
theorem cb_shE {F : Nat → Int32} {p : Nat} : cb_sh F p p = F := funext fun x => if_neg (by omega)
theorem cb_shS {F : Nat → Int32} {p e : Nat} (h : p < e) : cb_sh (upd F p (F (p + 16))) (p + 1) e = cb_sh F p e := by
  funext x
  show (if p + 1 ≤ x ∧ x < e then upd F p (F (p + 16)) (x + 16) else upd F p (F (p + 16)) x) = (if p ≤ x ∧ x < e then F (x + 16) else F x)
  by_cases q : x = p
  · subst q
    rw [if_neg (by omega), if_pos (by omega), pk_us]
  · by_cases z : p + 1 ≤ x ∧ x < e
    · rw [if_pos z, if_pos (by omega), pk_un (by omega)]
    · rw [if_neg z, if_neg (by omega), pk_un q]
theorem cb_xsh {post : Int32 → SX → Prop} {d c : Nat → Int32} {a e : Nat} {r : Int32} (ha : a < 2) (he : e ≤ 176) :
    ∀ t p, p + t = e → ∀ im : Nat → Int32, post r (d, cb_sh im p e, upd c a r) → wX_remove_44 post (nI a) r (nI e) (t + 1) (nI p) d im c := by
  have ia : vp_in (nI a) 2 := vp_in_nI ha (by decide)
  have ea : (nI a).toNatClampNeg = a := nI_clamp (by omega)
  intro t
  induction t with
  | zero =>
    intro p hp im h
    obtain rfl : p = e := by omega
    rw [cb_shE] at h
    exact br_t (nI_le (Nat.le_refl _) (by omega)) ⟨ia, nm_r (by rw [ea]) h⟩
  | succ t ih =>
    intro p hp im h
    rw [← cb_shS (by omega)] at h
    have n : ¬ nI e ≤ nI p := nI_ge (by omega) (by omega)
    have e16 : nI p + 16 = nI (p + 16) := by rw [cb_16, nI_add]
    refine br_f n ⟨?_, vp_in_nI (by omega) (by decide), nm_r ?_ (nm_r (nI_1 p) (ih (p + 1) (by omega) _ h))⟩
    · rw [e16]; exact vp_in_nI (by omega) (by decide)
    · rw [e16, nI_clamp (by omega), nI_clamp (by omega)]
theorem cb_ysh {post : Int32 → SY → Prop} {d w c : Nat → Int32} {a q : Nat} (ha : a < 2) (hc : c a = nI (q + 1)) :
    ∀ t p, p + t = 96 * a + 80 → ∀ kp : Nat → Int32, post (nI q) (d, w, upd c a (nI q), cb_sh kp p (96 * a + 80)) → wY_drop_32 post (nI a) (t + 1) (nI p) d w c kp := by
  have ia : vp_in (nI a) 2 := vp_in_nI ha (by decide)
  have ea : (nI a).toNatClampNeg = a := nI_clamp (by omega)
  intro t
  induction t with
  | zero =>
    intro p hp kp h
    obtain rfl : p = 96 * a + 80 := by omega
    rw [cb_shE] at h
    have n : (nI a * 6 + 5) * 16 ≤ nI (96 * a + 80) := by rw [cb_ye]; exact nI_le (Nat.le_refl _) (by omega)
    refine br_t n ⟨ia, ia, nm_r (e' := upd c a (nI q)) (by rw [ea, hc, nI_pred]) ⟨ia, ?_⟩⟩
    rw [ea, pk_us]
    exact h
  | succ t ih =>
    intro p hp kp h
    rw [← cb_shS (by omega)] at h
    have n : ¬ (nI a * 6 + 5) * 16 ≤ nI p := by rw [cb_ye]; exact nI_ge (by omega) (by omega)
    have e16 : nI p + 16 = nI (p + 16) := by rw [cb_16, nI_add]
    refine br_f n ⟨?_, vp_in_nI (by omega) (by decide), nm_r ?_ (nm_r (nI_1 p) (ih (p + 1) (by omega) _ h))⟩
    · rw [e16]; exact vp_in_nI (by omega) (by decide)
    · rw [e16, nI_clamp (by omega), nI_clamp (by omega)]

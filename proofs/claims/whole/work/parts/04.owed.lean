theorem cb_img {m : Nat → Nat} {im c kp : Nat → Int32} (h : cb_R m im c kp) {a k : Nat} (ha : a < 2) (hk : k < m a) : ∀ b, b < 16 → im (96 * a + 16 * k + b) = kp (96 * a + 16 * k + b) := by
  intro b hb
  rw [Nat.add_assoc]
  exact h.2 a ha (16 * k + b) (by omega)
/-- the counts and images after a chain's count has become n -/
theorem cb_Rset {m : Nat → Nat} {im c kp im' kp' : Nat → Int32} (h : cb_R m im c kp) {a n : Nat} (hn : n ≤ 6)
    (h1 : ∀ j, j < 16 * n → im' (96 * a + j) = kp' (96 * a + j))
    (h2 : ∀ q, q < 2 → q ≠ a → ∀ j, j < 16 * m q → im' (96 * q + j) = kp' (96 * q + j)) :
    cb_R (fun q => if q = a then n else m q) im' (upd c a (nI n)) kp' := by
  refine ⟨fun q hq => ?_, fun q hq j hj => ?_⟩
  · by_cases e : q = a
    · subst e
      dsimp only
      rw [if_pos rfl, pk_us]
      exact ⟨hn, rfl⟩
    · dsimp only
      rw [if_neg e, pk_un e]
      exact h.1 q hq
  · dsimp only at hj
    by_cases e : q = a
    · subst e
      rw [if_pos rfl] at hj
      exact h1 j hj
    · rw [if_neg e] at hj
      exact h2 q hq e j hj
theorem cb_rem {m : Nat → Nat} {im c kp : Nat → Int32} (h : cb_R m im c kp) (d w : Nat → Int32) (x1 x2 : Int32) :
    ∃ (r : Int32) (im' c' kp' : Nat → Int32) (m' : Nat → Nat), cb_R m' im' c' kp' ∧
      (∀ post : Int32 → SX → Prop, post r (d, im', c') → wpX_remove post (d, im, c) x1 x2) ∧
      (∀ post : Int32 → SY → Prop, post r (d, w, c', kp') → wpY_drop post (d, w, c, kp) x1 x2) := by
  rcases cb_split x1 (n := 2) (by decide) with o | ⟨a, ha, rfl⟩
  · refine ⟨-1, im, c, kp, m, h, fun post hp => ?_, fun post hp => ?_⟩
    · unfold wpX_remove; exact cb_xchO o (br_t rfl hp)
    · unfold wpY_drop; exact cb_ychO o (br_f (by decide) hp)
  obtain ⟨hm, hc⟩ := h.1 a ha
  rcases cb_split x2 (n := m a) (by omega) with o | ⟨k, hk, rfl⟩
  · refine ⟨-4, im, c, kp, m, h, fun post hp => ?_, fun post hp => ?_⟩
    · unfold wpX_remove; exact cb_xch ha (br_f (by decide) (cb_xbkO ha hc o (br_t rfl hp)))
    · unfold wpY_drop; exact cb_ych ha (br_t rfl (cb_ybkO ha hc o (br_f (by decide) hp)))
  obtain ⟨n, en⟩ : ∃ n, m a = n + 1 := ⟨m a - 1, by omega⟩
  have hc' : c a = nI (n + 1) := by rw [hc, en]
  refine ⟨nI n, cb_sh im (96 * a + 16 * k) (96 * a + 16 * n), upd c a (nI n), cb_sh kp (96 * a + 16 * k) (96 * a + 80), _, cb_Rset h (n := n) (by omega) ?_ ?_, fun post hp => ?_, fun post hp => ?_⟩
  · intro j hj
    show (if 96 * a + 16 * k ≤ 96 * a + j ∧ 96 * a + j < 96 * a + 16 * n then im (96 * a + j + 16) else im (96 * a + j)) = (if 96 * a + 16 * k ≤ 96 * a + j ∧ 96 * a + j < 96 * a + 80 then kp (96 * a + j + 16) else kp (96 * a + j))
    by_cases z : 16 * k ≤ j
    · rw [if_pos (by omega), if_pos (by omega), Nat.add_assoc]
      exact h.2 a ha (j + 16) (by omega)
    · rw [if_neg (by omega), if_neg (by omega)]
      exact h.2 a ha j (by omega)
  · intro q hq e j hj
    have hmq := (h.1 q hq).1
    show (if 96 * a + 16 * k ≤ 96 * q + j ∧ 96 * q + j < 96 * a + 16 * n then im (96 * q + j + 16) else im (96 * q + j)) = (if 96 * a + 16 * k ≤ 96 * q + j ∧ 96 * q + j < 96 * a + 80 then kp (96 * q + j + 16) else kp (96 * q + j))
    rw [if_neg (by omega), if_neg (by omega)]
    exact h.2 q hq j hj
  · unfold wpX_remove
    refine cb_xch ha (br_f (by decide) (cb_xbk ha hc hm hk (br_f (by decide) ⟨vp_in_nI ha (by decide), nm_r (e' := nI n) (by rw [cb_cnt_at ha hc', nI_pred]) ?_⟩)))
    unfold wpX_imageStart
    dsimp only
    rw [cb_xs, cb_xs]
    exact ⟨_, cb_xsh ha (by omega) (16 * n - 16 * k) (96 * a + 16 * k) (by omega) im hp⟩
  · unfold wpY_drop
    exact cb_ych ha (br_t rfl (cb_ybk ha hc hm hk (br_t rfl (nm_r (cb_ys a k) ⟨_, cb_ysh ha hc' (80 - 16 * k) (96 * a + 16 * k) (by omega) kp hp⟩))))
theorem i_up {k : Nat} {u : SX} {v : SY} (h : i_Rel k u v) : i_Rel (k + 4) u v := h
theorem i_vc0 : wpX_init (fun u => wpY_init (fun v => i_Rel 0 u v)) := by
  unfold wpX_init wpY_init
  exact ⟨_, _, _, _, _, fun _ => 0, rfl, rfl, ⟨fun a ha => ⟨Nat.zero_le 6, nI_0.symm⟩, fun a ha j hj => rfl⟩⟩
theorem i_vc_write {k : Nat} {u : SX} {v : SY} (I : i_Rel k u v) (hk : k + 4 ≤ 2048) (v1 : Int32) (v2 : Int32) : wpX_write (fun r u' => wpY_write (fun r' v' => r' = r ∧ i_Rel (k + 4) u' v') v v1 v2) u v1 v2 := by
  obtain ⟨d, im, c, w, kp, m, rfl, rfl, h⟩ := I
  unfold wpX_write wpY_write
  rcases cb_split v1 (n := 16) (by decide) with o | ⟨b, hb, rfl⟩
  · exact cb_xblkO o (br_t rfl (cb_ylO o ⟨rfl, d, im, c, w, kp, m, rfl, rfl, h⟩))
  · have hi : vp_in (nI b) 16 := vp_in_nI hb (by decide)
    exact cb_xblk hb (br_f (by decide) ⟨hi, nm_e (cb_yl hb ⟨hi, nm_e ⟨rfl, _, im, c, w, kp, m, rfl, rfl, h⟩⟩)⟩)
theorem i_vc_backup {k : Nat} {u : SX} {v : SY} (I : i_Rel k u v) (hk : k + 4 ≤ 2048) (v1 : Int32) : wpX_backup (fun r u' => wpY_backup (fun r' v' => r' = r ∧ i_Rel (k + 4) u' v') v v1) u v1 := by
  obtain ⟨d, im, c, w, kp, m, rfl, rfl, h⟩ := I
  unfold wpX_backup wpY_backup
  rcases cb_split v1 (n := 2) (by decide) with o | ⟨a, ha, rfl⟩
  · exact cb_xchO o (br_t rfl (cb_ychO o (br_f (by decide) ⟨rfl, d, im, c, w, kp, m, rfl, rfl, h⟩)))
  · obtain ⟨hm, hc⟩ := h.1 a ha
    have ia : vp_in (nI a) 2 := vp_in_nI ha (by decide)
    refine cb_xch ha (br_f (by decide) ⟨ia, nm_r (cb_cnt_at ha hc) ?_⟩)
    by_cases f : m a = 6
    · have n1 : ¬ nI (m a) < 6 := nI_nlt (b := 6) (by omega) (by omega)
      have n2 : nI (m a) = 6 := by rw [f, cb_6]
      exact br_f n1 (cb_ych ha (br_t rfl ⟨ia, nm_r (cb_cnt_at ha hc) (br_t n2 ⟨rfl, d, im, c, w, kp, m, rfl, rfl, h⟩)⟩))
    · have n1 : nI (m a) < 6 := nI_lt (b := 6) (by omega) (by decide)
      have n2 : ¬ nI (m a) = 6 := by rw [cb_6, nI_eq (by omega) (by decide)]; exact f
      obtain ⟨im', kp', hA, hX, hY⟩ := cb_bak (d := d) (w := w) (c := c) (k := m a) ha (by omega) (by rw [nI_1]) rfl 16 0 rfl im kp (fun x => im x = kp x) (fun x hx => hx)
      rw [nI_0] at hX hY
      refine br_t n1 ?_
      unfold wpX_imageStart
      dsimp only
      rw [cb_xs]
      refine ⟨17, hX _ (cb_ych ha (br_t rfl ⟨ia, nm_r (cb_cnt_at ha hc) (br_f n2 ⟨17, hY _ ⟨rfl, d, im', _, w, kp', _, rfl, rfl, cb_Rset h (n := m a + 1) (by omega) ?_ ?_⟩⟩)⟩))⟩
      · intro j hj
        by_cases z : j < 16 * m a
        · exact hA _ (Or.inl (h.2 a ha j z))
        · exact hA _ (Or.inr (by omega))
      · intro q hq e j hj
        exact hA _ (Or.inl (h.2 q hq j hj))
theorem i_vc_restore {k : Nat} {u : SX} {v : SY} (I : i_Rel k u v) (hk : k + 4 ≤ 2048) (v1 : Int32) (v2 : Int32) : wpX_restore (fun r u' => wpY_restore (fun r' v' => r' = r ∧ i_Rel (k + 4) u' v') v v1 v2) u v1 v2 := by
  obtain ⟨d, im, c, w, kp, m, rfl, rfl, h⟩ := I
  unfold wpX_restore wpY_restore
  rcases cb_split v1 (n := 2) (by decide) with o | ⟨a, ha, rfl⟩
  · exact cb_xchO o (br_t rfl (cb_ychO o (br_f (by decide) ⟨rfl, d, im, c, w, kp, m, rfl, rfl, h⟩)))
  obtain ⟨hm, hc⟩ := h.1 a ha
  rcases cb_split v2 (n := m a) (by omega) with o | ⟨b, hb, rfl⟩
  · exact cb_xch ha (br_f (by decide) (cb_xbkO ha hc o (br_t rfl (cb_ych ha (br_t rfl (cb_ybkO ha hc o (br_f (by decide) ⟨rfl, d, im, c, w, kp, m, rfl, rfl, h⟩)))))))
  obtain ⟨r, hX, hY⟩ := cb_cntW (d := d) (c := c) (w := w) ha (by omega) (cb_img h ha hb)
  obtain ⟨D', gX, gY⟩ := cb_res (c := c) (w := w) (r := r) ha (by omega) (cb_img h ha hb) 16 0 rfl d
  rw [nI_0] at gX gY
  refine cb_xch ha (br_f (by decide) (cb_xbk ha hc hm hb (br_f (by decide) (hX _ ?_))))
  unfold wpX_imageStart
  dsimp only
  rw [cb_xs]
  exact ⟨17, gX _ (cb_ych ha (br_t rfl (cb_ybk ha hc hm hb (br_t rfl (hY _ ⟨17, gY _ ⟨rfl, D', im, c, w, kp, m, rfl, rfl, h⟩⟩)))))⟩
theorem i_vc_dropOldest {k : Nat} {u : SX} {v : SY} (I : i_Rel k u v) (hk : k + 4 ≤ 2048) (v1 : Int32) : wpX_dropOldest (fun r u' => wpY_dropOldest (fun r' v' => r' = r ∧ i_Rel (k + 4) u' v') v v1) u v1 := by
  obtain ⟨d, im, c, w, kp, m, rfl, rfl, h⟩ := I
  obtain ⟨r, im', c', kp', m', h', hX, hY⟩ := cb_rem h d w v1 0
  unfold wpX_dropOldest wpY_dropOldest
  exact hX _ (hY _ ⟨rfl, d, im', c', w, kp', m', rfl, rfl, h'⟩)
theorem i_vc_drop {k : Nat} {u : SX} {v : SY} (I : i_Rel k u v) (hk : k + 4 ≤ 2048) (v1 : Int32) (v2 : Int32) : wpX_drop (fun r u' => wpY_drop (fun r' v' => r' = r ∧ i_Rel (k + 4) u' v') v v1 v2) u v1 v2 := by
  obtain ⟨d, im, c, w, kp, m, rfl, rfl, h⟩ := I
  obtain ⟨r, im', c', kp', m', h', hX, hY⟩ := cb_rem h d w v1 v2
  unfold wpX_drop
  exact hX _ (hY _ ⟨rfl, d, im', c', w, kp', m', rfl, rfl, h'⟩)
theorem i_vc_restart {k : Nat} {u : SX} {v : SY} (I : i_Rel k u v) (hk : k + 4 ≤ 2048) : wpX_restart (fun u' => wpY_restart (fun v' => i_Rel (k + 4) u' v') v) u := by
  obtain ⟨d, im, c, w, kp, m, rfl, rfl, h⟩ := I
  unfold wpX_restart wpY_restart
  exact ⟨d, im, c, w, kp, m, rfl, rfl, h⟩
theorem i_vc_crash {k : Nat} {u : SX} {v : SY} (I : i_Rel k u v) (hk : k + 4 ≤ 2048) : wpX_crash (fun u' => wpY_crash (fun v' => i_Rel (k + 4) u' v') v) u := by
  obtain ⟨d, im, c, w, kp, m, rfl, rfl, h⟩ := I
  unfold wpX_crash wpY_crash
  exact ⟨d, im, c, w, kp, m, rfl, rfl, h⟩
theorem i_vc_read {k : Nat} {u : SX} {v : SY} (I : i_Rel k u v) (hk : k + 4 ≤ 2048) (v1 : Int32) : wpX_read (fun r => wpY_read (fun r' => r' = r ∧ i_Rel (k + 4) u v) v v1) u v1 := by
  obtain ⟨d, im, c, w, kp, m, rfl, rfl, h⟩ := I
  unfold wpX_read wpY_read
  rcases cb_split v1 (n := 16) (by decide) with o | ⟨b, hb, rfl⟩
  · exact cb_xblkO o (br_t rfl (cb_ylO o ⟨rfl, d, im, c, w, kp, m, rfl, rfl, h⟩))
  · have hi : vp_in (nI b) 16 := vp_in_nI hb (by decide)
    exact cb_xblk hb (br_f (by decide) ⟨hi, cb_yl hb ⟨hi, rfl, d, im, c, w, kp, m, rfl, rfl, h⟩⟩)
theorem i_vc_readBackup {k : Nat} {u : SX} {v : SY} (I : i_Rel k u v) (hk : k + 4 ≤ 2048) (v1 : Int32) (v2 : Int32) (v3 : Int32) : wpX_readBackup (fun r => wpY_readBackup (fun r' => r' = r ∧ i_Rel (k + 4) u v) v v1 v2 v3) u v1 v2 v3 := by
  obtain ⟨d, im, c, w, kp, m, rfl, rfl, h⟩ := I
  have J : i_Rel (k + 4) (d, im, c) (d, w, c, kp) := ⟨d, im, c, w, kp, m, rfl, rfl, h⟩
  unfold wpX_readBackup wpY_readBackup
  rcases cb_split v1 (n := 2) (by decide) with o | ⟨a, ha, rfl⟩
  · exact cb_xchO o (br_t rfl (cb_ychO o (br_f (by decide) ⟨rfl, J⟩)))
  obtain ⟨hm, hc⟩ := h.1 a ha
  rcases cb_split v2 (n := m a) (by omega) with o | ⟨q, hq, rfl⟩
  · exact cb_xch ha (br_f (by decide) (cb_xbkO ha hc o (br_t rfl (cb_ych ha (br_t rfl (cb_ybkO ha hc o (br_f (by decide) ⟨rfl, J⟩)))))))
  rcases cb_split v3 (n := 16) (by decide) with o | ⟨b, hb, rfl⟩
  · exact cb_xch ha (br_f (by decide) (cb_xbk ha hc hm hq (br_f (by decide) (cb_xblkO o (br_t rfl (cb_ych ha (br_t rfl (cb_ybk ha hc hm hq (br_t rfl (cb_ylO o ⟨rfl, J⟩))))))))))
  have e : kp (96 * a + 16 * q + b) = im (96 * a + 16 * q + b) := (cb_img h ha hq b hb).symm
  refine cb_xch ha (br_f (by decide) (cb_xbk ha hc hm hq (br_f (by decide) (cb_xblk hb (br_f (by decide) ?_)))))
  unfold wpX_imageStart
  dsimp only
  rw [cb_xs, nI_add, nI_clamp (by omega)]
  refine ⟨vp_in_nI (by omega) (by decide), cb_ych ha (br_t rfl (cb_ybk ha hc hm hq (br_t rfl (cb_yl hb ?_))))⟩
  rw [cb_yi, nI_clamp (by omega)]
  exact ⟨vp_in_nI (by omega) (by decide), e, J⟩
theorem i_vc_backups {k : Nat} {u : SX} {v : SY} (I : i_Rel k u v) (hk : k + 4 ≤ 2048) (v1 : Int32) : wpX_backups (fun r => wpY_backups (fun r' => r' = r ∧ i_Rel (k + 4) u v) v v1) u v1 := by
  obtain ⟨d, im, c, w, kp, m, rfl, rfl, h⟩ := I
  have J : i_Rel (k + 4) (d, im, c) (d, w, c, kp) := ⟨d, im, c, w, kp, m, rfl, rfl, h⟩
  unfold wpX_backups wpY_backups
  rcases cb_split v1 (n := 2) (by decide) with o | ⟨a, ha, rfl⟩
  · exact cb_xchO o (br_t rfl (cb_ychO o (br_f (by decide) ⟨rfl, J⟩)))
  · have ia : vp_in (nI a) 2 := vp_in_nI ha (by decide)
    exact cb_xch ha (br_f (by decide) ⟨ia, cb_ych ha (br_t rfl ⟨ia, rfl, J⟩)⟩)
theorem i_vc_changed {k : Nat} {u : SX} {v : SY} (I : i_Rel k u v) (hk : k + 4 ≤ 2048) (v1 : Int32) : wpX_changed (fun r => wpY_changed (fun r' => r' = r ∧ i_Rel (k + 4) u v) v v1) u v1 := by
  obtain ⟨d, im, c, w, kp, m, rfl, rfl, h⟩ := I
  have J : i_Rel (k + 4) (d, im, c) (d, w, c, kp) := ⟨d, im, c, w, kp, m, rfl, rfl, h⟩
  unfold wpX_changed wpY_changed
  rcases cb_split v1 (n := 2) (by decide) with o | ⟨a, ha, rfl⟩
  · exact cb_xchO o (br_t rfl (cb_ychO o (br_f (by decide) ⟨rfl, J⟩)))
  obtain ⟨hm, hc⟩ := h.1 a ha
  have ia : vp_in (nI a) 2 := vp_in_nI ha (by decide)
  have hn := cb_cnt_at ha hc
  refine cb_xch ha (br_f (by decide) ⟨ia, ?_⟩)
  rcases Nat.eq_zero_or_pos (m a) with z | z
  · rw [z] at hn
    have n1 : ¬ (0 : Int32) ≤ nI 0 - 1 := by decide +kernel
    exact nm_r (by rw [hn]) (br_f n1 (cb_ych ha (br_t rfl ⟨ia, br_t (hn.trans nI_0) ⟨rfl, J⟩⟩)))
  · obtain ⟨q, eq⟩ : ∃ q, m a = q + 1 := ⟨m a - 1, by omega⟩
    rw [eq] at hn
    obtain ⟨r, hX, hY⟩ := cb_cntW (d := d) (c := c) (w := w) (k := q) ha (by omega) (cb_img h ha (by omega))
    have n2 : ¬ c (nI a).toNatClampNeg = 0 := by rw [hn]; exact nI_ne0 (by omega) (by omega)
    have e : c (nI a).toNatClampNeg - 1 = nI q := by rw [hn, nI_pred]
    refine nm_r e (br_t (nI_pos' (by omega)) (hX _ (cb_ych ha (br_t rfl ⟨ia, br_f n2 ⟨ia, ?_⟩⟩))))
    rw [e]
    exact hY _ ⟨rfl, J⟩
theorem i_vc_differ {k : Nat} {u : SX} {v : SY} (I : i_Rel k u v) (hk : k + 4 ≤ 2048) (v1 : Int32) (v2 : Int32) (v3 : Int32) : wpX_differ (fun r => wpY_differ (fun r' => r' = r ∧ i_Rel (k + 4) u v) v v1 v2 v3) u v1 v2 v3 := by
  obtain ⟨d, im, c, w, kp, m, rfl, rfl, h⟩ := I
  have J : i_Rel (k + 4) (d, im, c) (d, w, c, kp) := ⟨d, im, c, w, kp, m, rfl, rfl, h⟩
  unfold wpX_differ wpY_differ
  rcases cb_split v1 (n := 2) (by decide) with o | ⟨a, ha, rfl⟩
  · exact cb_xchO o (br_t rfl (cb_ychO o (br_f (by decide) ⟨rfl, J⟩)))
  obtain ⟨hm, hc⟩ := h.1 a ha
  rcases cb_split v2 (n := m a) (by omega) with o | ⟨p, hp, rfl⟩
  · exact cb_xch ha (br_f (by decide) (cb_xbkO ha hc o (br_t rfl (cb_ych ha (br_t rfl (cb_ybkO ha hc o (br_f (by decide) ⟨rfl, J⟩)))))))
  rcases cb_split v3 (n := m a) (by omega) with o | ⟨q, hq, rfl⟩
  · exact cb_xch ha (br_f (by decide) (cb_xbk ha hc hm hp (br_f (by decide) (cb_xbkO ha hc o (br_t rfl (cb_ych ha (br_t rfl (cb_ybk ha hc hm hp (br_t rfl (cb_ybkO ha hc o (br_f (by decide) ⟨rfl, J⟩)))))))))))
  obtain ⟨r, hX, hY⟩ := cb_dif (d := d) (c := c) (w := w) ha (by omega) (by omega) (cb_img h ha hp) (cb_img h ha hq) 16 0 rfl 0
  rw [nI_0] at hX hY
  refine cb_xch ha (br_f (by decide) (cb_xbk ha hc hm hp (br_f (by decide) (cb_xbk ha hc hm hq (br_f (by decide) ?_)))))
  unfold wpX_imageStart
  dsimp only
  rw [cb_xs, cb_xs]
  exact ⟨17, hX _ (cb_ych ha (br_t rfl (cb_ybk ha hc hm hp (br_t rfl (cb_ybk ha hc hm hq (br_t rfl ⟨17, hY _ ⟨rfl, J⟩⟩))))))⟩

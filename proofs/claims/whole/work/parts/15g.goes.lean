/-! the model's search -/
def MM (T : gk_S) (mu : Option Nat) (L1 L2 : AL) : Prop := ∀ k f a b, k < 16384 → f < 6 → a < 65536 → b < 65536 → xI T 368 k ≠ 0 → xJ T 367 k = lN (kyM f a b) → NDf f (Dm mu L1 L2 f a b)
def FV (S T : gk_S) : Prop := Frm [] [] [] [368] [366, 367] [] S T
section GOE
variable {S T : gk_S} {F l1 l2 : Nat} {L1 L2 : AL} {mu : Option Nat}
theorem SM_F (s : SM S l1 l2 L1 L2 mu) (f : FV S T) : SM T l1 l2 L1 L2 mu := by
  obtain ⟨hs, s1, s2, s3, s4, s5, s6, s7, s8, s9, s10⟩ := s
  have e : sML S T := ⟨f.2.2.2.2.2.2.1 _ (by decide), f.2.2.2.2.2.2.1 _ (by decide), f.2.2.2.2.2.2.1 _ (by decide), f.2.2.2.2.2.2.1 _ (by decide), f.2.2.2.2.2.2.2.1 _ (by decide), f.2.2.2.2.2.2.2.1 _ (by decide)⟩
  have g : ∀ n a, gI T n a = gI S n a := fun n a => f.2.2.2.1 n a (by simp)
  exact ⟨Fr_Sh f hs (by simp) (by simp), s1, s2, (g _ _).trans s3, (g _ _).trans s4, fun q => (g _ _).trans (s5 q), fun i q => ⟨(g _ _).trans (s6 i q).1, (s6 i q).2⟩, ML_c s7 e, ML_c s8 e, s9, s10⟩
theorem FV_w (f : FV S T) (i : Int32) (v : Int64) : FV S (wJ T 366 i v) := Fr_wJ f (by decide) _ _
theorem MM_w (h : MM T mu L1 L2) (i : Int32) (v : Int64) : MM (wJ T 366 i v) mu L1 L2 := by
  intro k f a b h1 h2 h3 h4 h5 h6
  rw [rw_ne _ _ _ _ (by decide)] at h6
  exact h k f a b h1 h2 h3 h4 h5 h6
/-- what the search on a coordinate's value asks for -/
theorem Dm_step {f a b : Nat} {x : Nat → Nat} (hf : f < 7) (hq : ∀ i, mu = some i → hd (L1.r i) f (x f) = true) : Dm mu L1 L2 f a b x ↔ Dm mu L1 L2 (f + 1) (rdm L1 a f (x f)) (if mu = none then rdm L2 b f (x f) else 0) x := by
  cases mu with
  | none =>
    show acf L1.r (αr L1) a L1.p f x ≠ acf L2.r (αr L2) b L2.p f x ↔ acf L1.r (αr L1) (rdm L1 a f (x f)) L1.p (f + 1) x ≠ acf L2.r (αr L2) (if (none : Option Nat) = none then rdm L2 b f (x f) else 0) L2.p (f + 1) x
    rw [if_pos rfl, ← act_red hf (fun i hi => rdm_t L1 a f (x f) hi), ← act_red hf (fun i hi => rdm_t L2 b f (x f) hi)]
  | some i =>
    show (mt7 (L1.r i) f x = true ∧ ∀ j, j < 16 → Nat.testBit a j = true → mt7 (L1.r j) f x = false) ↔ (mt7 (L1.r i) (f + 1) x = true ∧ ∀ j, j < 16 → Nat.testBit (rdm L1 a f (x f)) j = true → mt7 (L1.r j) (f + 1) x = false)
    rw [mt_s hf (L1.r i), hq i rfl, Bool.true_and]
    refine and_congr_right (fun _ => ⟨fun q j j1 j2 => ?_, fun q j j1 j2 => ?_⟩)
    · rw [rdm_t L1 a f (x f) j1, Bool.and_eq_true] at j2
      have := q j j1 j2.1
      rw [mt_s hf, j2.2, Bool.true_and] at this
      exact this
    · rw [mt_s hf]
      cases e : hd (L1.r j) f (x f)
      · rfl
      · rw [Bool.true_and]
        exact q j j1 (by rw [rdm_t L1 a f (x f) j1, j2, e]; rfl)
theorem Dm_out {f a b : Nat} {x : Nat → Nat} (hf : f < 7) {i : Nat} (hm : mu = some i) (h : hd (L1.r i) f (x f) = false) : ¬ Dm mu L1 L2 f a b x := by
  subst hm
  intro d
  have d' : mt7 (L1.r i) f x = true ∧ ∀ j, j < 16 → Nat.testBit a j = true → mt7 (L1.r j) f x = false := d
  have := d'.1
  rw [mt_s hf, h, Bool.false_and] at this
  exact absurd this (by decide)
theorem rdm_c {L : AL} {a f u v : Nat} (h : ∀ i, Nat.testBit a i = true → hd (L.r i) f u = hd (L.r i) f v) : rdm L a f u = rdm L a f v := by
  refine mask_eq (bm_lt _ 16) (bm_lt _ 16) (fun i hi => ?_)
  rw [rdm_t L a f u hi, rdm_t L a f v hi]
  cases e : Nat.testBit a i
  · rfl
  · rw [h i e]
theorem mtd_c (ρ : AR) {x y : Nat → Nat} : ∀ d c, (∀ k, c ≤ k → k < c + d → x k = y k) → mtd ρ x d c = mtd ρ y d c := by
  intro d
  induction d with
  | zero => intro c _; rfl
  | succ d ih =>
    intro c h
    rw [mtd, mtd, h c (Nat.le_refl _) (by omega), ih (c + 1) (fun k k1 k2 => h k (by omega) (by omega))]
theorem mt7_c (ρ : AR) {x y : Nat → Nat} {c : Nat} (h : ∀ k, c ≤ k → k < 7 → x k = y k) : mt7 ρ c x = mt7 ρ c y := mtd_c ρ (7 - c) c (fun k k1 k2 => h k k1 (by omega))
theorem fa_x {r : Nat → AR} {α : Nat → Nat} {a p c : Nat} {x y : Nat → Nat} (h : ∀ k, c ≤ k → k < 7 → x k = y k) : ∀ d i, fa r α a p c x d i = fa r α a p c y d i := by
  intro d
  induction d with
  | zero => intro i; rfl
  | succ d ih => intro i; rw [fa, fa, mt7_c (r i) h, ih]
theorem Dm_x {c a b : Nat} {x y : Nat → Nat} (h : ∀ k, c ≤ k → k < 7 → x k = y k) : Dm mu L1 L2 c a b x ↔ Dm mu L1 L2 c a b y := by
  cases mu with
  | none =>
    show acf L1.r (αr L1) a L1.p c x ≠ acf L2.r (αr L2) b L2.p c x ↔ acf L1.r (αr L1) a L1.p c y ≠ acf L2.r (αr L2) b L2.p c y
    unfold acf
    rw [fa_x h, fa_x h]
  | some i =>
    show (mt7 (L1.r i) c x = true ∧ ∀ j, j < 16 → Nat.testBit a j = true → mt7 (L1.r j) c x = false) ↔ (mt7 (L1.r i) c y = true ∧ ∀ j, j < 16 → Nat.testBit a j = true → mt7 (L1.r j) c y = false)
    rw [mt7_c (L1.r i) h]
    refine and_congr_right (fun _ => ⟨fun q j j1 j2 => ?_, fun q j j1 j2 => ?_⟩)
    · rw [← mt7_c (L1.r j) h]; exact q j j1 j2
    · rw [mt7_c (L1.r j) h]; exact q j j1 j2
theorem Ls_x {c : Nat} {P : (Nat → Nat) → Prop} {y y' : Nat → Nat} (h : ∀ k, c ≤ k → k < 7 → y k = y' k) (hp : P y → P y') (l : Lsf c P y) : Lsf c P y' := by
  refine ⟨fun k k1 k2 => by rw [← h k k1 k2]; exact l.1 k k1 k2, hp l.2.1, fun x vx px lt => l.2.2 x vx px ?_⟩
  obtain ⟨k, k1, k2, k3, k4⟩ := lt
  exact ⟨k, k1, k2, fun j j1 j2 => (k3 j j1 j2).trans (h j j1 (by omega)).symm, by rw [h k k1 k2]; exact k4⟩
/-- what going on comes to -/
def GO (mu : Option Nat) (L1 L2 : AL) (f a b : Nat) (S : gk_S) (r : Option (Int32 × gk_S)) : Prop := ∃ q T, r = some (bI q, T) ∧ FV S T ∧ MM T mu L1 L2 ∧ (∀ k, k < f → xJ T 366 k = xJ S 366 k) ∧ (q = true → ∃ y, Lsf f (Dm mu L1 L2 f a b) y ∧ ∀ k, f ≤ k → k < 7 → xJ T 366 k = lN (y k)) ∧ (q = false → NDf f (Dm mu L1 L2 f a b))
theorem inb_b {f v : Nat} (s : SM T l1 l2 L1 L2 mu) (hf : f < 6) {i : Nat} (hm : mu = some i) : hd (L1.r i) f v = decide ((qr L1 mu).lo f ≤ v ∧ v ≤ (qr L1 mu).hi f) := by
  subst hm
  unfold hd
  rw [if_pos hf]
  rfl
theorem v_g165 (hF : 16400 ≤ F) {f a b z0 : Nat} (hf : f < 6) (ha : inM L1 a) (hb : inM L2 b) (hb0 : mu ≠ none → b = 0) (hz : z0 < 16384) (g : gk_S → Nat → Int32 → Int32 → Int32 → Option (Int32 × gk_S)) (hg : ∀ S a' b', SM S l1 l2 L1 L2 mu → MM S mu L1 L2 → inM L1 a' → inM L2 b' → (mu ≠ none → b' = 0) → GO mu L1 L2 (f + 1) a' b' S (g S 352 (nI (f + 1)) (nI a') (nI b'))) : ∀ d v fu (S : gk_S), SM S l1 l2 L1 L2 mu → MM S mu L1 L2 → 1 ≤ d → (qr L1 mu).hi f + 1 ≤ v ∨ bc L1 a f v 16 + bc L2 b f v 16 + 2 ≤ d → d < fu → (qr L1 mu).lo f ≤ v → v ≤ (qr L1 mu).hi f + 1 → (∀ x, V7 f x → x f < v → ¬ Dm mu L1 L2 f a b x) → GO mu L1 L2 f a b S (f_X12_goesOn_165 F g fu 352 (nI f) (nI a) (nI b) (lN (kyM f a b)) (nI z0) (lN ((qr L1 mu).hi f + 1)) (lN v) S) := by
  intro d
  induction d with
  | zero => intro v fu S s m h0; omega
  | succ d ih =>
    intro v fu S s m h0 h1 h2 h3 h4 h5
    obtain ⟨fu, rfl⟩ : ∃ q, fu = q + 1 := ⟨fu - 1, by omega⟩
    have qb := qr_b s hf
    have s' := s
    obtain ⟨hs, s1, s2, s3, s4, s5, s6, s7, s8, s9, s10⟩ := s'
    have n16 := s9.1
    have z : lN ((qr L1 mu).hi f + 1) ≤ lN v ↔ (qr L1 mu).hi f + 1 ≤ v := l_le (by omega) (by omega)
    rw [f_X12_goesOn_165]
    by_cases c : (qr L1 mu).hi f + 1 ≤ v
    · -- all gone through
      have nd : NDf f (Dm mu L1 L2 f a b) := by
        intro x vx dx
        by_cases c1 : x f < v
        · exact h5 x vx c1 dx
        · cases hm : mu with
          | none =>
            have := vx f (Nat.le_refl _) (by omega)
            rw [hm] at c
            have e : (qr L1 none).hi f = tp f := rfl
            omega
          | some i =>
            refine Dm_out (x := x) (by omega) hm ?_ dx
            rw [inb_b s hf hm, decide_eq_false (by omega)]
      have h1' := Sh_wI hs 368 (nI z0) 1
      rw [if_pos (z.mpr c), z_i352 hs, qk_true, z_p929_352 hs, qP_some', z_i368 hs, qk_true, z_l368 hs, inb_n hz (by omega), qk_true, qv_eq, z_p928_352 h1', qP_some', z_i367 h1', qk_true, z_l367 h1', inb_n hz (by omega), qk_true, qv_eq]
      refine ⟨false, _, rfl, Fr_wJ (Fr_rI Fr_refl (by decide) _) (by decide) _ _, ?_, fun k hk => ?_, fun q => absurd q (by decide), fun _ => nd⟩
      · intro k f' a' b' k1 k2 k3 k4 k5 k6
        rw [rw_eq _ _ (by omega)] at k6
        by_cases e : k = z0
        · rw [if_pos e] at k6
          unfold kyM at k6
          have := ha.1
          have := hb.1
          have k7 := (l_eq (by omega) (by omega)).mp k6
          obtain ⟨e1, e2, e3⟩ := kyM_inj ha.1 hb.1 k3 k4 (show kyM f a b = kyM f' a' b' from k7)
          rw [← e1, ← e2, ← e3]
          exact nd
        · rw [if_neg e] at k6
          have k5' : xI (wI S 368 (nI z0) 1) 368 k ≠ 0 := k5
          rw [ri_eq _ _ (by omega), if_neg e] at k5'
          exact m k f' a' b' k1 k2 k3 k4 k5' k6
      · rw [rw_ne _ _ _ _ (by decide)]
        rfl
    · -- a value
      have hv62 : v < 2 ^ 62 := by omega
      have sw := SM_F s (FV_w Fr_refl (nI f) (lN v))
      have mw := MM_w m (nI f) (lN v)
      have fw : FV S (wJ S 366 (nI f) (lN v)) := FV_w Fr_refl _ _
      have xw : xJ (wJ S 366 (nI f) (lN v)) 366 f = lN v := by rw [rw_eq _ _ (by omega), if_pos rfl]
      have xk : ∀ k, k < f → xJ (wJ S 366 (nI f) (lN v)) 366 k = xJ S 366 k := fun k hk => by rw [rw_eq _ _ (by omega), if_neg (by omega)]
      rw [if_neg (fun q => c (z.mp q)), z_i352 hs, qk_true, z_p924_352 hs, qP_some', z_i366 hs, qk_true, z_l366 hs, inb_n (show f < 7 by omega) (by omega), qk_true, qv_eq]
      generalize wJ S 366 (nI f) (lN v) = S1 at sw mw fw xw xk
      obtain ⟨ws, w1, w2, w3, w4, w5, w6, w7, w8, w9, w10⟩ := id sw
      have la := v_left (F := F) hF ws w7 w1 w9 ha hf hv62
      have lb := v_left (F := F) hF ws w8 w2 w10 hb hf hv62
      have hqv : ∀ x : Nat → Nat, x f = v → ∀ i, mu = some i → hd (L1.r i) f (x f) = true := by
        intro x ex i hm
        rw [inb_b s hf hm, ex]
        exact decide_eq_true (by omega)
      obtain ⟨b', hb'⟩ : ∃ b', b' = if mu = none then rdm L2 b f v else 0 := ⟨_, rfl⟩
      have inb' : inM L2 b' := by
        rw [hb']
        by_cases c : mu = none
        · rw [if_pos c]; exact rdm_in hb
        · rw [if_neg c]; exact ⟨by omega, fun i q => by rw [Nat.zero_testBit] at q; exact absurd q (by decide)⟩
      have zb' : mu ≠ none → b' = 0 := fun q => by rw [hb', if_neg q]
      have G := hg S1 (rdm L1 a f v) b' sw mw (rdm_in ha) inb' zb'
      have e1 : nI f + 1 = nI (f + 1) := nI_1 f
      -- what is left of the loop
      have rest : GO mu L1 L2 f a b S (f_X12_goesOn_222 F g (f_X12_goesOn_165 F g fu) 352 (nI f) (nI a) (nI b) (lN (kyM f a b)) (nI z0) (lN ((qr L1 mu).hi f + 1)) (lN v) (nI b') (nI (rdm L1 a f v)) (nI (f + 1)) 352 S1) := by
        obtain ⟨q, T1, r1, r2, r3, r4, r5, r6⟩ := G
        have st := SM_F sw r2
        obtain ⟨ts, t1, t2, t3, t4, t5, t6, t7, t8, t9, t10⟩ := id st
        unfold f_X12_goesOn_222
        rw [z_i352 ws, qk_true, r1, qc_some']
        have ft : FV S T1 := Fr_trans fw r2
        have xf : xJ T1 366 f = lN v := by rw [r4 f (by omega)]; exact xw
        have xk1 : ∀ k, k < f → xJ T1 366 k = xJ S 366 k := fun k hk => by rw [r4 k (by omega)]; exact xk k hk
        cases q
        · obtain ⟨zz1, u1, u2, u3, u4, u5⟩ := v_turn (F := F) hF ts t7 t1 t9 (e := (qr L1 mu).hi f + 1) ha hf (by omega : v < _) (by omega)
          obtain ⟨zz2, x1, x2, x3, x4, x5⟩ := v_turn (F := F) hF ts t8 t2 t10 (e := (qr L1 mu).hi f + 1) hb hf (by omega : v < _) (by omega)
          have zq : lN zz2 < lN zz1 ↔ zz2 < zz1 := l_lt (by omega) (by omega)
          obtain ⟨zz, hzz⟩ : ∃ zz, zz = if zz2 < zz1 then zz2 else zz1 := ⟨_, rfl⟩
          have ez : (if lN zz2 < lN zz1 then lN zz2 else lN zz1) = lN zz := by
            rw [hzz]
            by_cases cc : zz2 < zz1
            · rw [if_pos (zq.mpr cc), if_pos cc]
            · rw [if_neg (fun q => cc (zq.mp q)), if_neg cc]
          have zle : zz ≤ zz1 ∧ zz ≤ zz2 ∧ v < zz := by
            rw [hzz]
            split <;> omega
          rw [if_pos (show bI false = 0 from rfl), z_i352 ts, qk_true, qv_eq, t3, u1, qc_some', z_i352 ts, qk_true, qv_eq, t4, x1, qc_some', qv_eq, ez]
          have nd1 : ∀ x, V7 f x → x f < zz → ¬ Dm mu L1 L2 f a b x := by
            intro x vx lx dx
            by_cases c1 : x f < v
            · exact h5 x vx c1 dx
            · have hq : ∀ i, mu = some i → hd (L1.r i) f (x f) = true := by
                intro i hm
                rw [inb_b s hf hm]
                exact decide_eq_true (by omega)
              rw [Dm_step (by omega) hq] at dx
              rw [rdm_c (fun i ti => u4 i (x f) ti (by omega) (by omega)), rdm_c (L := L2) (fun i ti => x4 i (x f) ti (by omega) (by omega)), ← hb'] at dx
              exact r6 rfl x (fun k k1 k2 => vx k (by omega) k2) dx
          have dec : bc L1 a f zz 16 + bc L2 b f zz 16 < bc L1 a f v 16 + bc L2 b f v 16 ∨ zz = (qr L1 mu).hi f + 1 := by
            have m1 := bc_mono L1 a f (show v ≤ zz by omega) 16
            have m2 := bc_mono L2 b f (show v ≤ zz by omega) 16
            by_cases cc : zz2 < zz1
            · have ezz : zz = zz2 := by rw [hzz, if_pos cc]
              rcases x5 with p | p
              · right; omega
              · left
                have := bc_bp p x2
                rw [← ezz] at this
                omega
            · have ezz : zz = zz1 := by rw [hzz, if_neg cc]
              rcases u5 with p | p
              · right; omega
              · left
                have := bc_bp p u2
                rw [← ezz] at this
                omega
          have fin : GO mu L1 L2 f a b T1 (f_X12_goesOn_165 F g fu 352 (nI f) (nI a) (nI b) (lN (kyM f a b)) (nI z0) (lN ((qr L1 mu).hi f + 1)) (lN zz) T1) := ih zz fu T1 st r3 (by omega) (by omega) (by omega) (by omega) (by omega) nd1
          obtain ⟨q, T2, p1, p2, p3, p4, p5, p6⟩ := fin
          exact ⟨q, T2, p1, Fr_trans ft p2, p3, fun k hk => (p4 k hk).trans (xk1 k hk), p5, p6⟩
        · rw [if_neg (show ¬ bI true = 0 by decide)]
          obtain ⟨y, y1, y2⟩ := r5 rfl
          refine ⟨true, T1, rfl, ft, r3, xk1, fun _ => ⟨fun k => if k = f then v else y k, ?_, fun k k1 k2 => ?_⟩, fun q => absurd q (by decide)⟩
          · have ls : Lsf (f + 1) (Dm mu L1 L2 (f + 1) (rdm L1 a f v) b') (fun k => if k = f then v else y k) := by
              refine Ls_x (fun k k1 k2 => (if_neg (by omega)).symm) (fun q => (Dm_x (fun k k1 k2 => ?_)).mp q) y1
              show y k = if k = f then v else y k
              rw [if_neg (by omega)]
            refine LS_step (by omega) (show v ≤ tp f by omega) (if_pos rfl) (fun x vx dx lx => h5 x vx lx dx) (fun x vx ex => ?_) ls
            rw [Dm_step (by omega) (hqv x ex), ex, ← hb']
          · show xJ T1 366 k = lN (if k = f then v else y k)
            by_cases e : k = f
            · rw [if_pos e, e]; exact xf
            · rw [if_neg e]; exact y2 k (by omega) k2
      rw [qv_eq, w3, la, qc_some', z_i352 ws, qk_true, qv_eq]
      cases hm : mu with
      | none =>
        rw [hm] at rest w5 hb'
        rw [w5 rfl, if_neg (by decide), qv_eq, w4, lb, qc_some', e1]
        rw [if_pos rfl] at hb'
        rw [hb'] at rest
        exact rest
      | some i =>
        rw [hm] at rest w6 hb'
        rw [(w6 i rfl).1, if_pos (show (0 : Int32) ≤ nI (16 * l1 + i) from nI_le (a := 0) (by omega) (by have := (w6 i rfl).2; omega)), e1]
        rw [if_neg (by simp)] at hb'
        rw [hb'] at rest
        exact rest
end GOE

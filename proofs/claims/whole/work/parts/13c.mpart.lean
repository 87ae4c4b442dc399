/-! the model reads parts of rules -/
abbrev sg (t : Nat × Nat × Nat × Nat) (c : Nat) : Prop := t.1 = 4 ∧ t.2.1 = c
def PQr (b : Nat → Nat) (m : Nat) (A B : AS) : Prop := ((B.w = 5) ∨ (B.w = 7 ∧ ¬ sg (tk b m B.o) 45 ∧ ¬ (sg (tk b m B.o) 47 ∧ (B.t = 2 ∨ B.t = 3))) ∨ (B.w = 11 ∧ ¬ sg (tk b m B.o) 44)) ∧ B.L.n = A.L.n ∧ B.n = A.n ∧ A.o < B.o
section MSG
variable {T : gk_S} {F k : Nat} {b : Nat → Nat} {t : Nat × Nat × Nat × Nat}
theorem v_sg44 (h : Sh T) (v : MV T b t k) : f_X12_isSign F T 352 44 = some (bI (decide (t.1 = 4 ∧ t.2.1 = 44)), T) := v_isSign (x := 44) h v (by omega)
theorem v_sg45 (h : Sh T) (v : MV T b t k) : f_X12_isSign F T 352 45 = some (bI (decide (t.1 = 4 ∧ t.2.1 = 45)), T) := v_isSign (x := 45) h v (by omega)
theorem v_sg47 (h : Sh T) (v : MV T b t k) : f_X12_isSign F T 352 47 = some (bI (decide (t.1 = 4 ∧ t.2.1 = 47)), T) := v_isSign (x := 47) h v (by omega)
theorem v_sg59 (h : Sh T) (v : MV T b t k) : f_X12_isSign F T 352 59 = some (bI (decide (t.1 = 4 ∧ t.2.1 = 59)), T) := v_isSign (x := 59) h v (by omega)
theorem v_w3 (h : Sh T) (v : MV T b t k) : f_X12_isWord F T 352 3 = some (bI (decide (wk b t = 3)), T) := v_isWord (x := 3) h v (by omega)
end MSG
section MPT
variable {S T : gk_S} {F m : Nat} {b : Nat → Nat} {A A' : AS} {k v w e : Nat}
theorem tak_1 (h : A.w = 1) : tak k v w e A = if w = 3 then go 2 e A else tRule k w e A := by unfold tak; rw [if_pos h]
theorem tak_2 (h : A.w = 2) : tak k v w e A = if w < 3 then .inr (3, e, A.n, A.t, A.f, (A.L.n, w, A.L.r)) else .inl 2 := by unfold tak; rw [if_neg (by omega), if_pos h]
theorem tak_3 (h : A.w = 3) : tak k v w e A = if k = 4 ∧ v = 59 then go 4 e A else .inl 2 := by unfold tak; rw [if_neg (by omega), if_neg (by omega), if_pos h]
theorem tak_4 (h : A.w = 4) : tak k v w e A = tRule k w e A := by unfold tak; rw [if_neg (by omega), if_neg (by omega), if_neg (by omega), if_pos h]
theorem tak_5 (h : A.w = 5) : tak k v w e A = tPart k v w e A := by unfold tak; rw [if_neg (by omega), if_neg (by omega), if_neg (by omega), if_neg (by omega), if_neg (by omega), if_neg (by omega), if_neg (by omega), if_neg (by omega), if_neg (by omega), if_neg (by omega)]
theorem tak_6 (h : A.w = 6) : tak k v w e A = tVal k v w e A := by unfold tak; rw [if_neg (by omega), if_neg (by omega), if_neg (by omega), if_neg (by omega), if_pos h]
theorem tak_7 (h : A.w = 7) : tak k v w e A = if k = 4 ∧ v = 45 then go 8 e A else if k = 4 ∧ v = 47 ∧ (A.t = 2 ∨ A.t = 3) then go 9 e A else tPart k v w e A := by unfold tak; rw [if_neg (by omega), if_neg (by omega), if_neg (by omega), if_neg (by omega), if_neg (by omega), if_pos h]
theorem tak_8 (h : A.w = 8) : tak k v w e A = tLast k v e A := by unfold tak; rw [if_neg (by omega), if_neg (by omega), if_neg (by omega), if_neg (by omega), if_neg (by omega), if_neg (by omega), if_pos h]
theorem tak_9 (h : A.w = 9) : tak k v w e A = tBits k v e A := by unfold tak; rw [if_neg (by omega), if_neg (by omega), if_neg (by omega), if_neg (by omega), if_neg (by omega), if_neg (by omega), if_neg (by omega), if_pos h]
theorem tak_10 (h : A.w = 10) : tak k v w e A = tState w e A := by unfold tak; rw [if_neg (by omega), if_neg (by omega), if_neg (by omega), if_neg (by omega), if_neg (by omega), if_neg (by omega), if_neg (by omega), if_neg (by omega), if_pos h]
theorem tak_11 (h : A.w = 11) : tak k v w e A = if k = 4 ∧ v = 44 then go 10 e A else tPart k v w e A := by unfold tak; rw [if_neg (by omega), if_neg (by omega), if_neg (by omega), if_neg (by omega), if_neg (by omega), if_neg (by omega), if_neg (by omega), if_neg (by omega), if_neg (by omega), if_pos h]
theorem PQ_tak {A0 : AS} (h : PQr b m A0 A) : tak (tk b m A.o).1 (tk b m A.o).2.1 (wk b (tk b m A.o)) (tk b m A.o).2.2.2 A = tPart (tk b m A.o).1 (tk b m A.o).2.1 (wk b (tk b m A.o)) (tk b m A.o).2.2.2 A ∧ 5 ≤ A.w ∧ A.w ≠ 10 := by
  rcases h.1 with q | ⟨q, q1, q2⟩ | ⟨q, q1⟩
  · exact ⟨tak_5 q, by omega, by omega⟩
  · exact ⟨by rw [tak_7 q, if_neg q1, if_neg (fun e => q2 ⟨⟨e.1, e.2.1⟩, e.2.2⟩)], by omega, by omega⟩
  · exact ⟨by rw [tak_11 q, if_neg q1], by omega, by omega⟩
theorem MA_v (h : MA T b m A) (hA : WA m A) : MV T b (tk b m A.o) (tok b m (wsE b m A.o)).1 := MV_of h.1 hA.1 h.2.1
/-- the token behind -/
theorem v_adv (hF : 16400 ≤ F) (h : MD T b m) (e4 : gI T 904 352 = nI A.o) (ho : A.o ≤ m) (l : ML4 T A.L (5 ≤ A.w)) : ∃ T', f_X12_next F T 352 = some ((), T') ∧ MF T T' ∧ MA T' b m A := by
  obtain ⟨T', r1, r2, r3, r4, r5⟩ := v_nx (F := F) hF h e4 ho l
  exact ⟨T', r1, r2, r3, r4, r5⟩
theorem MD_wI (h : MD T b m) {a : Nat} (ha : 354 ≤ a ∧ a ≤ 357) (i v : Int32) : MD (wI T a i v) b m := by
  refine ⟨Sh_wI h.1 _ _ _, h.2.1, h.2.2.1, ?_, ?_, Wd_c h.2.2.2.2.2 (ri_ne _ _ _ _ (by omega)) (ri_ne _ _ _ _ (by omega))⟩
  · rw [ri_ne _ _ _ _ (by omega)]; exact h.2.2.2.1
  · rw [ri_ne _ _ _ _ (by omega)]; exact h.2.2.2.2.1
theorem MD_wJ (h : MD T b m) (a : Nat) (i : Int32) (v : Int64) : MD (wJ T a i v) b m := ⟨Sh_wJ h.1 _ _ _, h.2.1, h.2.2.1, h.2.2.2.1, h.2.2.2.2.1, h.2.2.2.2.2⟩
theorem ML4_rg {L : AL} {q : Prop} (h : ML4 T L q) (hq : q) {f : Nat} (hf : f < 6) (hn : L.n < 16) (lo hi : Nat) (q' : Prop) : ML4 (wJ (wJ T 358 (nI (6 * (64 + L.n) + f)) (lN lo)) 359 (nI (6 * (64 + L.n) + f)) (lN hi)) (upR L (sRg (L.r L.n) f lo hi)) q' := by
  obtain ⟨c1, c2, c3⟩ := h.2.2.2 hq
  refine ML4_up h (by rfl) (by rfl) (fun a i _ _ => by rfl) (fun a i ha hi' => ?_) ⟨by exact c1, by exact c2, fun j hj => ?_⟩ q'
  · rcases ha with rfl | rfl
    · rw [rw_ne _ _ _ _ (by decide), rw_eq _ _ (by omega), if_neg (by omega)]
    · rw [rw_eq _ _ (by omega), if_neg (by omega), rw_ne _ _ _ _ (by decide)]
  · rw [rw_ne _ _ _ _ (by decide), rw_eq _ _ (by omega), rw_eq _ _ (by omega), rw_ne _ _ _ _ (by decide)]
    show (if 6 * (64 + L.n) + j = 6 * (64 + L.n) + f then lN lo else xJ T 358 (6 * (64 + L.n) + j)) = lN (if j = f then lo else (L.r L.n).lo j) ∧ (if 6 * (64 + L.n) + j = 6 * (64 + L.n) + f then lN hi else xJ T 359 (6 * (64 + L.n) + j)) = lN (if j = f then hi else (L.r L.n).hi j)
    by_cases e : j = f
    · rw [if_pos (by omega), if_pos e, if_pos (by omega), if_pos e]; exact ⟨rfl, rfl⟩
    · rw [if_neg (by omega), if_neg e, if_neg (by omega), if_neg e]; exact c3 j hj
theorem ML4_hi {L : AL} {q : Prop} (h : ML4 T L q) (hq : q) {f lo : Nat} (hf : f < 6) (hn : L.n < 16) (el : (L.r L.n).lo f = lo) (hi : Nat) (q' : Prop) : ML4 (wJ T 359 (nI (6 * (64 + L.n) + f)) (lN hi)) (upR L (sRg (L.r L.n) f lo hi)) q' := by
  obtain ⟨c1, c2, c3⟩ := h.2.2.2 hq
  refine ML4_up h (by rfl) (by rfl) (fun a i _ _ => by rfl) (fun a i ha hi' => ?_) ⟨by exact c1, by exact c2, fun j hj => ?_⟩ q'
  · rcases ha with rfl | rfl
    · rw [rw_ne _ _ _ _ (by decide)]
    · rw [rw_eq _ _ (by omega), if_neg (by omega)]
  · rw [rw_ne _ _ _ _ (by decide), rw_eq _ _ (by omega)]
    show xJ T 358 (6 * (64 + L.n) + j) = lN (if j = f then lo else (L.r L.n).lo j) ∧ (if 6 * (64 + L.n) + j = 6 * (64 + L.n) + f then lN hi else xJ T 359 (6 * (64 + L.n) + j)) = lN (if j = f then hi else (L.r L.n).hi j)
    by_cases e : j = f
    · rw [if_pos e, if_pos (by omega), if_pos e, ← el, e]; exact ⟨(c3 f hf).1, rfl⟩
    · rw [if_neg e, if_neg (by omega), if_neg e]; exact c3 j hj
theorem v_rs9 (hF : 16400 ≤ F) : ∀ d fu (T : gk_S) (A : AS), MA T b m A → WA m A → A.w = 10 → m + 1 - A.o ≤ d → d + 1 < fu → MO T b m (f_X12_readStates_9 F fu 352 (nI (64 + A.L.n)) 1 T) A (PQr b m A) := by
  intro d
  induction d with
  | zero => intro fu T A h hA h10 h1 h2; have := hA.1; omega
  | succ d ih =>
    intro fu T A h hA h10 h1 h2
    obtain ⟨fu, rfl⟩ : ∃ q, fu = q + 1 + 1 := ⟨fu - 2, by omega⟩
    have m2 := h.1.2.2.1
    have h0 : A.w ≠ 0 := by omega
    obtain ⟨w1, w2, w3, w4⟩ := hA.2.2.2.2.2.1 (by omega)
    have v := MA_v h hA
    have cc := h.2.2.2.2.2 (by omega : 5 ≤ A.w)
    have tq := tak_10 (k := (tk b m A.o).1) (v := (tk b m A.o).2.1) (w := wk b (tk b m A.o)) (e := (tk b m A.o).2.2.2) h10
    unfold tState at tq
    by_cases acc : 14 ≤ wk b (tk b m A.o) ∧ wk b (tk b m A.o) < 18
    · obtain ⟨v1, v2, v3⟩ := v_wv v rfl acc.2
      rw [if_pos acc] at tq
      have st := st_go hA h0 (by omega) (by omega) tq (by show 11 ≠ 0; decide)
      obtain ⟨s1, s2, s3, s4⟩ := st
      have e4 := (v.2.2.1 (by omega)).2.2.1 (by omega)
      have z14 : ¬ nI (wk b (tk b m A.o)) < 14 := nI_nlt (b := 14) acc.1 (by omega)
      have es : aI T 357 (nI (64 + A.L.n)) = nI A.c.s := by unfold aI; rw [nI_clamp (by omega)]; exact cc.2.1
      have e14 : nI (wk b (tk b m A.o)) - 14 = nI (wk b (tk b m A.o) - 14) := by rw [show (14 : Int32) = nI 14 from rfl, pk_sub acc.1]
      rw [f_X12_readStates_9, if_neg one_ne, z_i352 h.1.1, qk_true, qv_eq, v.2.1, if_pos ((zk1 v).mpr v2), qv_eq, v1, if_neg z14, v.2.2.2.2.2 F, qc_some', decide_eq_false (show ¬ (tk b m A.o).1 = 6 by omega), if_pos (show bI false = 0 from rfl), z_i352 h.1.1, qk_true, z_p908_352 h.1.1, qP_some', z_i357 h.1.1, qk_true, z_l357 h.1.1, inb_n (show 64 + A.L.n < 96 by omega) (by omega), qk_true, qv_eq, es, qv_eq, v1, qk_true, e14, or4 _ w3.2.1 _ (by omega), qv_eq]
      obtain ⟨A1, hA1⟩ : ∃ B : AS, B = (11, (tk b m A.o).2.2.2, A.n, A.t, A.f, upR A.L (sSt A.c (A.c.s ||| 2 ^ (wk b (tk b m A.o) - 14)))) := ⟨_, rfl⟩
      rw [← hA1] at s1 s2 s3 s4
      have hw1 : A1.w = 11 := by rw [hA1]
      have hn1 : A1.L.n = A.L.n := by rw [hA1]; rfl
      have hs1 : A1.n = A.n := by rw [hA1]
      have hT1 : MD (wI T 357 (nI (64 + A.L.n)) (nI (A.c.s ||| 2 ^ (wk b (tk b m A.o) - 14)))) b m := MD_wI h.1 (by omega) _ _
      have hf1 : MF T (wI T 357 (nI (64 + A.L.n)) (nI (A.c.s ||| 2 ^ (wk b (tk b m A.o) - 14)))) := MF_wI MF_refl (by omega) (by omega) _
      have hl1 : ML4 (wI T 357 (nI (64 + A.L.n)) (nI (A.c.s ||| 2 ^ (wk b (tk b m A.o) - 14)))) A1.L (5 ≤ A1.w) := by
        rw [hA1]
        refine ML4_up h.2.2 (ri_ne _ _ _ _ (by decide)) (ri_ne _ _ _ _ (by decide)) (fun a i ha hi => ?_) (fun _ _ _ _ => by rfl) ⟨?_, ?_, ?_⟩ _
        · rcases ha with rfl | rfl
          · rw [ri_ne _ _ _ _ (by decide)]
          · rw [ri_eq _ _ (by omega), if_neg hi]
        · rw [ri_ne _ _ _ _ (by decide)]; exact cc.1
        · rw [ri_eq _ _ (by omega), if_pos rfl]; rfl
        · exact cc.2.2
      have h41 : gI (wI T 357 (nI (64 + A.L.n)) (nI (A.c.s ||| 2 ^ (wk b (tk b m A.o) - 14)))) 904 352 = nI A1.o := by rw [s3]; exact e4
      generalize wI T 357 (nI (64 + A.L.n)) (nI (A.c.s ||| 2 ^ (wk b (tk b m A.o) - 14))) = T1 at hT1 hf1 hl1 h41
      obtain ⟨T2, r1, r2, r3⟩ := v_adv (F := F) hF hT1 h41 s1.1 hl1
      have v2' := MA_v r3 s1
      rw [r1, qc_some', z_i352 r3.1.1, qk_true, v_sg44 r3.1.1 v2', qc_some']
      have tq2 := tak_11 (k := (tk b m A1.o).1) (v := (tk b m A1.o).2.1) (w := wk b (tk b m A1.o)) (e := (tk b m A1.o).2.2.2) hw1
      by_cases c44 : (tk b m A1.o).1 = 4 ∧ (tk b m A1.o).2.1 = 44
      · rw [if_pos c44] at tq2
        unfold go at tq2
        obtain ⟨p1, p2, p3, p4⟩ := st_go s1 (by omega) (by omega) (by omega) tq2 (by show 10 ≠ 0; decide)
        obtain ⟨A2, hA2⟩ : ∃ B : AS, B = (10, (tk b m A1.o).2.2.2, A1.n, A1.t, A1.f, A1.L) := ⟨_, rfl⟩
        rw [← hA2] at p1 p2 p3 p4
        have hw2 : A2.w = 10 := by rw [hA2]
        have hn2 : A2.L.n = A.L.n := by rw [hA2]; exact hn1
        have hs2 : A2.n = A.n := by rw [hA2]; exact hs1
        have h42 : gI T2 904 352 = nI A2.o := by rw [p3]; exact (v2'.2.2.1 (by omega)).2.2.1 (by omega)
        have hl2 : ML4 T2 A2.L (5 ≤ A2.w) := by
          rw [hA2]
          exact ML4_c r3.2.2 (fun _ => by omega) ⟨rfl, rfl, rfl, rfl, rfl, rfl⟩
        obtain ⟨T3, q1, q2, q3⟩ := v_adv (F := F) hF r3.1 h42 p1.1 hl2
        rw [decide_eq_true c44, if_neg (show ¬ bI true = 0 by decide), z_i352 r3.1.1, qk_true, q1, qc_some']
        have r := ih (fu + 1) T3 A2 q3 p1 hw2 (by omega) (by omega)
        rw [hn2] at r
        refine MO_s (MF_trans hf1 (MF_trans r2 q2)) (s4.trans p4) r (fun B pb => ?_)
        obtain ⟨b1, b2, b3, b4⟩ := pb
        exact ⟨b1, by rw [b2]; exact hn2, by rw [b3]; exact hs2, by omega⟩
      · rw [decide_eq_false c44, if_pos (show bI false = 0 from rfl), f_X12_readStates_9, if_pos (show bI false = 0 from rfl)]
        exact Or.inr ⟨T2, A1, MF_trans hf1 r2, rfl, r3, s1, s4, Or.inr (Or.inr ⟨hw1, c44⟩), hn1, hs1, s2⟩
    · rw [if_neg acc] at tq
      have bad : MO T b m (f_X12_readStates_37 F 352 T) A (PQr b m A) := by
        unfold f_X12_readStates_37
        rw [z_i352 h.1.1, qk_true]
        exact Or.inl (MFt_w (v_cant h.1.1 hA h0 m2 v (fun _ _ => tq)))
      rw [f_X12_readStates_9, if_neg one_ne, z_i352 h.1.1, qk_true, qv_eq, v.2.1]
      rcases MV_w v with ⟨c, w, x1, x2, x3, x4⟩ | ⟨c, x1⟩
      · have z14 : wval w 18 < 14 ↔ w < 14 ∨ w = 18 := wv_lt (c := 14) x1 (by omega)
        rw [if_pos ((zk1 v).mpr c), qv_eq, x2]
        by_cases q : w < 14 ∨ w = 18
        · rw [if_pos (z14.mpr q)]; exact bad
        · have l : (tk b m A.o).1 = 6 := by
            rcases Nat.decEq (tk b m A.o).1 6 with l | l
            · have := x3 l; omega
            · exact l
          rw [if_neg (fun p => q (z14.mp p)), v.2.2.2.2.2 F, qc_some', decide_eq_true l, if_neg (show ¬ bI true = 0 by decide)]
          exact bad
      · rw [if_neg (fun q => c ((zk1 v).mp q))]; exact bad
end MPT

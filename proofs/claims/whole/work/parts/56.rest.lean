/-! restore: the reference; count -/
theorem m_restore {l : Launch} {κ : mm_K} {d : Nat} {G : mm_G} {K : Int32 → mm_G → Prop} {P : ps_T} {m : Nat} (a : Int32) (hP : ps_ok P) (hM : mB_ G P m) (h0 : st_rest P a = none → K (an_rest P a) G) (h : ∀ G' Q, st_rest P a = some Q → mB_ G' Q m → fr_ fM_ G G' → K (an_rest P a) G') : mC l κ true (d + 2) 0 0 m_X13_restore [.ref 226, .int a] G (rI K) := by
  unfold an_rest at h0 h
  obtain ⟨a1, a2, a3, a4, a5, a6, a7, a8, a9⟩ := hM
  refine e_X13_restore a (t_in (n := 3) a (by decide) (by decide) (fun e => ⟨fun _ => ?_, fun q => absurd (by decide) q⟩) (fun i e hi ei => ⟨fun q => absurd q (by decide), fun _ => ?_⟩))
  · have hn : st_rest P a = none := by unfold st_rest; rw [e]
    have h0 := h0 hn
    rw [hn] at h0
    exact h0
  · obtain ⟨b1, b2⟩ := a6 i hi
    cases e2 : ps_s P i with
    | none =>
      have hn : st_rest P a = none := by unfold st_rest; rw [e]; simp only [e2]
      have hh := h0 hn
      rw [hn] at hh
      subst ei
      rw [nI_clamp (by omega), b1 e2]
      exact ⟨(ki_vp (by omega)).2 hi, fun z => absurd rfl z, fun _ => hh⟩
    | some x =>
      obtain ⟨p, s⟩ := x
      have hn : st_rest P a = some (wr_ P p s) := by unfold st_rest; rw [e]; simp only [e2]
      rw [hn] at h
      subst ei
      obtain ⟨c1, c2, c3, c4, c5⟩ := b2 p s e2
      obtain ⟨q1, q2⟩ := hP.2.2.2.2.1 i p s e2
      have hs20 := q2.1
      rw [nI_clamp (by omega), c1, a2, nI_add]
      refine ⟨(ki_vp (by omega)).2 hi, fun _ => t_copiesArea (by omega) (by omega) (by omega) q1.1 q1.2.2 c2 (fun G1 A1 o1 f1 => ⟨(ki_vp (by omega)).2 hi, (ki_vp (by omega)).2 hi, ?_⟩), fun z => absurd z (by decide)⟩
      have hfa : ∀ c k, (c < 234 ∨ 247 < c) → fa_ m c k = false := fun c k q => fa_F (by omega) (by omega) (by omega) (by omega)
      suffices H : ∀ n j G2, j + n = 20 → fr_ (fun c k => (decide (c = 226) && (decide (k = 65) || decide (k = 66))) || (decide (268 ≤ c) && decide (c ≤ 270))) G1 G2 → mg_i G2 226 65 = mg_i G1 279 i → mg_i G2 226 66 = mg_i G1 280 i → (∀ q, q < j → mg_i G2 268 q = mg_i G1 281 (20 * i + q) ∧ mg_i G2 269 q = mg_i G1 282 (20 * i + q) ∧ mg_i G2 270 q = mg_i G1 283 (20 * i + q)) → mV l κ true (d + 2) 0 0 m_X13_restore 53 [some (.ref 226), some (.int (nI i)), some (.int (nI j))] [] G2 (rI K) from
        H 20 0 _ rfl ((fr_.rfl'.si (by simp)).si (by simp)) (by simp only [mg_i_i, mg_i_l, mg_i_r, mg_i_b, mg_l_i, mg_l_l, mg_l_r, mg_l_b, mg_r_i, mg_r_l, mg_r_r, mg_r_b, false_and, and_false, true_and, and_true, reduceCtorEq, if_true, if_false, reduceIte, Nat.reduceEqDiff, Nat.reduceAdd, Nat.succ_ne_self, ne_eq, not_false_eq_true, not_true_eq_false]) (by simp only [mg_i_i, mg_i_l, mg_i_r, mg_i_b, mg_l_i, mg_l_l, mg_l_r, mg_l_b, mg_r_i, mg_r_l, mg_r_r, mg_r_b, false_and, and_false, true_and, and_true, reduceCtorEq, if_true, if_false, reduceIte, Nat.reduceEqDiff, Nat.reduceAdd, Nat.succ_ne_self, ne_eq, not_false_eq_true, not_true_eq_false]) (fun q hq => absurd hq (Nat.not_lt_zero q))
      intro n
      induction n with
      | zero =>
        intro j G2 hj hf2 b1 b2 b3
        refine p_X13_restore_53 _ _ ⟨fun _ => ?_, fun z => absurd (nI_le (by omega) (by omega)) z⟩
        suffices H2 : ∀ n2 w G3, w + n2 = 160 → fr_ (fun c k => decide (c = 271)) G2 G3 → (∀ q, q < w → mg_i G3 271 q = mg_i G1 284 (160 * i + q)) → mV l κ true (d + 2) 0 0 m_X13_restore 118 [some (.ref 226), some (.int (nI i)), some (.int (nI w))] [] G3 (rI K) from H2 160 0 G2 rfl fr_.rfl' (fun q hq => absurd hq (Nat.not_lt_zero q))
        intro n2
        induction n2 with
        | zero =>
          intro w G3 hw hf3 d1
          refine p_X13_restore_118 _ _ ⟨fun _ => ?_, fun z => absurd (nI_le (by omega) (by omega)) z⟩
          have hr : ∀ c k, (c < 234 ∨ 247 < c) → (c < 268 ∨ 271 < c) → (c ≠ 226 ∨ (k ≠ 65 ∧ k ≠ 66)) → mg_i G3 c k = mg_i G c k ∧ mg_l G3 c k = mg_l G c k := by
            intro c k y1 y2 y3
            have z3 : decide (c = 271) = false := by simp; omega
            have z2 : ((decide (c = 226) && (decide (k = 65) || decide (k = 66))) || (decide (268 ≤ c) && decide (c ≤ 270))) = false := by simp; omega
            exact ⟨by rw [hf3.i c k z3, hf2.i c k z2, f1.i c k (hfa c k y1)], by rw [hf3.l c k z3, hf2.l c k z2, f1.l c k (hfa c k y1)]⟩
          have hrd : ∀ q, (q < 64 * m ∨ 64 * m + 64 ≤ q) → rd_m G3 q = rd_m G q := by
            intro q hq
            rw [rd_m.fr hf3 (fun c k y1 y2 => by simp; omega), rd_m.fr hf2 (fun c k y1 y2 => by simp; omega), o1 q hq]
          have hlow : ∀ c k, (c = 234 ∨ c = 236) → (c ≠ 234 ∨ k ≠ m) → (c ≠ 236 ∨ k < 4 * m ∨ 4 * m + 4 ≤ k) → mg_i G3 c k = mg_i G c k := by
            intro c k y1 y2 y3
            rw [hf3.i c k (by simp; omega), hf2.i c k (by simp; omega), f1.i c k (fa_F (by omega) y2 (by omega) y3)]
          have g1 : ∀ c k, (c < 234 ∨ 247 < c) → mg_i G1 c k = mg_i G c k := fun c k y1 => f1.i c k (hfa c k y1)
          refine h G3 _ rfl ⟨a1, by rw [(hr 226 18 (by omega) (by omega) (by omega)).1]; exact a2, A1.only q1.1 q1.2.2 (by rw [hf3.i _ _ (by simp), hf2.i _ _ (by simp)]) (fun j hj => by rw [hf3.i _ _ (by simp), hf2.i _ _ (by simp)]) (fun u u1 u2 => by rw [rd_m.fr hf3 (fun c k y1 y2 => by simp; omega), rd_m.fr hf2 (fun c k y1 y2 => by simp; omega)]), ?_, ?_, fun q hq => ?_, ⟨by rw [(hr 226 2 (by omega) (by omega) (by omega)).1]; exact a7.1, fun q hq => by rw [(hr 227 q (by omega) (by omega) (by omega)).1]; exact a7.2 q hq⟩, by rw [(hr 226 17 (by omega) (by omega) (by omega)).1]; exact a8, fun k hk => by rw [(hr 233 k (by omega) (by omega) (by omega)).2]; exact a9 k hk⟩ ?_
          · obtain ⟨t1, t2, t3⟩ := a4
            refine ⟨by rw [(hr 249 m (by omega) (by omega) (by omega)).1]; exact t1, by rw [(hr 254 m (by omega) (by omega) (by omega)).1]; exact t2, fun k hk => ?_⟩
            obtain ⟨u1, u2, u3, u4⟩ := t3 k hk
            refine ⟨by rw [(hr 250 _ (by omega) (by omega) (by omega)).1]; exact u1, fun j hj => by rw [(hr 251 _ (by omega) (by omega) (by omega)).1]; exact u2 j hj, fun q => by rw [(hr 252 _ (by omega) (by omega) (by omega)).1]; exact u3 q, fun g q => ⟨by rw [(hr 252 _ (by omega) (by omega) (by omega)).1]; exact (u4 g q).1, fun j hj => by rw [(hr 253 _ (by omega) (by omega) (by omega)).1]; exact (u4 g q).2 j hj⟩⟩
          · refine ⟨?_, fun y => ?_, fun k hk => ?_⟩
            · rw [hf3.i _ _ (by simp), b1, g1 _ _ (by omega)]; exact c3
            · rw [hf3.i _ _ (by simp), b2, g1 _ _ (by omega)]; exact c4 y
            · have hk : k < s.2.length := hk
              obtain ⟨u1, u2, u3, u4⟩ := c5 k hk
              refine ⟨?_, ?_, ?_, fun j hj => ?_⟩
              · rw [hf3.i _ _ (by simp), (b3 k (by omega)).1, g1 _ _ (by omega)]; exact u1
              · rw [hf3.i _ _ (by simp), (b3 k (by omega)).2.1, g1 _ _ (by omega)]; exact u2
              · rw [hf3.i _ _ (by simp), (b3 k (by omega)).2.2, g1 _ _ (by omega)]; exact u3
              · have hk0 : s.2.length ≠ 0 := by omega
                have hen : (rs_o (rr_ p (ps_t P) (ps_f P) s.1 (sx_at s k).2 (sx_at s k).1).1).length ≤ 8 := (ru_run_ok (fu := ps_f P) (en_of_ok (k := (sx_at s k).1) (am := none) q1 hP.2.1 (q2.2.1 hk0) (q1.2.2 _) (fun x hx => (q1.2.1 _ (q2.2.1 hk0) x hx).1) (by have := px_len_lt (q1.2.2 s.1); have := (q2.2.2 k hk).2; omega))).1.2.2.2.1
                have hj8 : j < 8 := Nat.lt_of_lt_of_le hj hen
                have := u4 j hj
                rw [show 8 * (20 * i + k) + j = 160 * i + (8 * k + j) by omega] at this
                rw [d1 (8 * k + j) (by omega), g1 _ _ (by omega)]
                exact this
          · refine ⟨fun y => ?_, fun p2 s2 y => ?_⟩
            · rw [(hr 278 _ (by omega) (by omega) (by omega)).1]; exact (a6 q hq).1 y
            · obtain ⟨t1, t2, t3, t4, t5⟩ := (a6 q hq).2 p2 s2 y
              obtain ⟨y1, y2⟩ := hP.2.2.2.2.1 q p2 s2 y
              refine ⟨by rw [(hr 278 _ (by omega) (by omega) (by omega)).1]; exact t1, t2.only y1.1 y1.2.2 (hlow _ _ (by omega) (by omega) (by omega)) (fun j hj => hlow _ _ (by omega) (by omega) (by omega)) (fun u u1 u2 => hrd u (by omega)), by rw [(hr 279 _ (by omega) (by omega) (by omega)).1]; exact t3, fun z => by rw [(hr 280 _ (by omega) (by omega) (by omega)).1]; exact t4 z, fun k hk => ⟨by rw [(hr 281 _ (by omega) (by omega) (by omega)).1]; exact (t5 k hk).1, by rw [(hr 282 _ (by omega) (by omega) (by omega)).1]; exact (t5 k hk).2.1, by rw [(hr 283 _ (by omega) (by omega) (by omega)).1]; exact (t5 k hk).2.2.1, fun j hj => by rw [(hr 284 _ (by omega) (by omega) (by omega)).1]; exact (t5 k hk).2.2.2 j hj⟩⟩
          · refine ⟨by rw [hf3.1, hf2.1, f1.1], fun c k q => ?_⟩
            have qq : c < 226 ∨ 285 ≤ c := by
              unfold fM_ at q
              simp at q
              omega
            obtain ⟨u1, u2, u3⟩ := hf3.2 c k (by simp; omega)
            obtain ⟨v1, v2, v3⟩ := hf2.2 c k (by simp; omega)
            obtain ⟨w1, w2, w3⟩ := f1.2 c k (hfa c k (by omega))
            exact ⟨by rw [u1, v1, w1], by rw [u2, v2, w2], by rw [u3, v3, w3]⟩
        | succ n2 ih2 =>
          intro w G3 hw hf3 d1
          refine p_X13_restore_118 _ _ ⟨fun z => absurd z (nI_ge (by omega) (by omega)), fun _ => ?_⟩
          rw [ki_mul, nI_add, nI_add, nI_clamp (by omega), nI_clamp (by omega)]
          refine ⟨(ki_vp (by omega)).2 (by omega), (ki_vp (by omega)).2 (by omega), ih2 (w + 1) _ (by omega) (hf3.si (by simp)) (fun q hq => ?_)⟩
          simp only [mg_i_i, mg_i_l, mg_i_r, mg_i_b, mg_l_i, mg_l_l, mg_l_r, mg_l_b, mg_r_i, mg_r_l, mg_r_r, mg_r_b, false_and, and_false, true_and, and_true, reduceCtorEq, if_true, if_false, reduceIte, Nat.reduceEqDiff, Nat.reduceAdd, Nat.succ_ne_self, ne_eq, not_false_eq_true, not_true_eq_false]
          by_cases c : q = w
          · rw [if_pos c, c, hf3.i _ _ (by simp), hf2.i _ _ (by simp)]
          · rw [if_neg c]; exact d1 q (by omega)
      | succ n ih =>
        intro j G2 hj hf2 b1 b2 b3
        refine p_X13_restore_53 _ _ ⟨fun z => absurd z (nI_ge (by omega) (by omega)), fun _ => ?_⟩
        rw [ki_mul, nI_add, nI_add, nI_clamp (by omega), nI_clamp (by omega)]
        refine ⟨(ki_vp (by omega)).2 (by omega), (ki_vp (by omega)).2 (by omega), (ki_vp (by omega)).2 (by omega), (ki_vp (by omega)).2 (by omega), (ki_vp (by omega)).2 (by omega), (ki_vp (by omega)).2 (by omega), ih (j + 1) _ (by omega) (((hf2.si (by simp)).si (by simp)).si (by simp)) (by simp only [mg_i_i, mg_i_l, mg_i_r, mg_i_b, mg_l_i, mg_l_l, mg_l_r, mg_l_b, mg_r_i, mg_r_l, mg_r_r, mg_r_b, false_and, and_false, true_and, and_true, reduceCtorEq, if_true, if_false, reduceIte, Nat.reduceEqDiff, Nat.reduceAdd, Nat.succ_ne_self, ne_eq, not_false_eq_true, not_true_eq_false]; exact b1) (by simp only [mg_i_i, mg_i_l, mg_i_r, mg_i_b, mg_l_i, mg_l_l, mg_l_r, mg_l_b, mg_r_i, mg_r_l, mg_r_r, mg_r_b, false_and, and_false, true_and, and_true, reduceCtorEq, if_true, if_false, reduceIte, Nat.reduceEqDiff, Nat.reduceAdd, Nat.succ_ne_self, ne_eq, not_false_eq_true, not_true_eq_false]; exact b2) (fun q hq => ?_)⟩
        simp only [mg_i_i, mg_i_l, mg_i_r, mg_i_b, mg_l_i, mg_l_l, mg_l_r, mg_l_b, mg_r_i, mg_r_l, mg_r_r, mg_r_b, false_and, and_false, true_and, and_true, reduceCtorEq, if_true, if_false, reduceIte, Nat.reduceEqDiff, Nat.reduceAdd, Nat.succ_ne_self, ne_eq, not_false_eq_true, not_true_eq_false]
        by_cases c : q = j
        · rw [if_pos c, if_pos c, if_pos c, c, hf2.i 281 _ (by simp), hf2.i 282 _ (by simp), hf2.i 283 _ (by simp)]
          exact ⟨rfl, rfl, rfl⟩
        · rw [if_neg c, if_neg c, if_neg c]; exact b3 q (by omega)
/-! count -/
def tb_ (P : ps_T) (k : Nat) : Bool := (tx_gv (ps_t P) k).isSome
def hl_ (P : ps_T) (i : Nat) : Bool := (ps_s P i).isSome
def an_num (P : ps_T) (w : Int32) : Int32 := match ix_ (ps_t P).length (w - nI 10) with
  | some k => nI (tx_in (ps_t P) k).length
  | none => match ix_ (ps_t P).length (w - nI 20) with
    | none => -1
    | some k => match tx_gv (ps_t P) k with
      | none => -2
      | some g => nI g.length
def an_count (P : ps_T) (w : Int32) : Int32 := if w = nI 0 then nI (ps_p P).length else if w = nI 1 then nI (ps_t P).length else if w = nI 2 then nI (fb_ct (tb_ P) (ps_t P).length) else if w = nI 3 then nI (ps_f P) else if w = nI 4 then nI (ps_n P).2.length else if w = nI 5 then nI (ps_b P).length else if w = nI 6 then nI (fb_ct (hl_ P) 3) else an_num P w
theorem sub_nI {w : Int32} {c k : Nat} (h : w - nI c = nI k) : w = nI (k + c) := by
  rw [← nI_add, ← h, Int32.sub_add_cancel]
theorem c_count {l : Launch} {κ : mm_K} {d : Nat} {G : mm_G} {K : Int32 → mm_G → Prop} {P : ps_T} (w : Int32) (hP : ps_ok P) (hC : cB_ G P) (h : K (an_count P w) G) : mC l κ true (d + 2) 0 0 m_X12_count [.ref 0, .int w] G (rI K) := by
  obtain ⟨a1, a2, a3, a4, a5, a6, a7⟩ := hC
  have ht := hP.2.1.1
  unfold an_count at h
  have hne : ∀ {i j : Nat}, i < 100 → j < 100 → i ≠ j → ¬ nI i = nI j := fun {i j} h1 h2 h3 z => h3 ((nI_eq (by omega) (by omega)).1 z)
  refine e_X12_count w ⟨fun z => ?_, fun z => ?_, fun z => ?_, fun z => ?_, fun z => ?_, fun z => ?_, fun z => ?_, fun z => ?_⟩
  · rw [if_pos z] at h; rw [a1.1]; exact h
  · rw [z, if_neg (hne (by omega) (by omega) (by omega)), if_pos rfl] at h; rw [a2.1]; exact h
  · rw [z, if_neg (hne (by omega) (by omega) (by omega)), if_neg (hne (by omega) (by omega) (by omega)), if_pos rfl] at h
    refine e_X11_tableSize ?_
    suffices H : ∀ n k, k + n = (ps_t P).length → mV l κ true (d + 1) 0 0 m_X11_tableSize 4 [some (.ref 62), some (.int (nI (fb_ct (tb_ P) k))), some (.int (nI k))] [] G (rI K) from H _ 0 (Nat.zero_add _)
    intro n
    induction n with
    | zero =>
      intro k hk
      refine p_X11_tableSize_4 _ _ ⟨fun _ => ?_, fun y => absurd (by rw [a2.1]; exact nI_le (by omega) (by omega)) y⟩
      rw [show (ps_t P).length = k by omega] at h; exact h
    | succ n ih =>
      intro k hk
      have hI := ih (k + 1) (by omega)
      obtain ⟨-, -, u3, u4⟩ := a2.2.2 k (by omega)
      refine p_X11_tableSize_4 _ _ ⟨fun y => absurd y (by rw [a2.1]; exact nI_ge (by omega) (by omega)), fun _ => ⟨(ki_vp (by omega)).2 (by omega), ?_⟩⟩
      rw [nI_clamp (by omega), nI_add, nI_add]
      cases e : tx_gv (ps_t P) k with
      | none =>
        rw [ct_F (p := tb_ P) (n := k) (by unfold tb_; rw [e]; rfl)] at hI
        rw [show mg_i G 74 k = nI 0 from u3 e]
        exact ⟨fun _ => hI, fun y => absurd rfl y⟩
      | some g =>
        rw [ct_T (p := tb_ P) (n := k) (by unfold tb_; rw [e]; rfl)] at hI
        rw [show mg_i G 74 k = nI 1 from (u4 g e).1]
        exact ⟨fun y => absurd y (by decide), fun _ => hI⟩
  · rw [z, if_neg (hne (by omega) (by omega) (by omega)), if_neg (hne (by omega) (by omega) (by omega)), if_neg (hne (by omega) (by omega) (by omega)), if_pos rfl] at h; rw [a2.2.1]; exact h
  · rw [z, if_neg (hne (by omega) (by omega) (by omega)), if_neg (hne (by omega) (by omega) (by omega)), if_neg (hne (by omega) (by omega) (by omega)), if_neg (hne (by omega) (by omega) (by omega)), if_pos rfl] at h; rw [a1.2.2.1]; exact h
  · rw [z, if_neg (hne (by omega) (by omega) (by omega)), if_neg (hne (by omega) (by omega) (by omega)), if_neg (hne (by omega) (by omega) (by omega)), if_neg (hne (by omega) (by omega) (by omega)), if_neg (hne (by omega) (by omega) (by omega)), if_pos rfl] at h; rw [a5.1]; exact h
  · rw [z, if_neg (hne (by omega) (by omega) (by omega)), if_neg (hne (by omega) (by omega) (by omega)), if_neg (hne (by omega) (by omega) (by omega)), if_neg (hne (by omega) (by omega) (by omega)), if_neg (hne (by omega) (by omega) (by omega)), if_neg (hne (by omega) (by omega) (by omega)), if_pos rfl] at h
    refine e_X12_heldSlots ?_
    suffices H : ∀ n k, k + n = 3 → mV l κ true (d + 1) 0 0 m_X12_heldSlots 4 [some (.ref 0), some (.int (nI (fb_ct (hl_ P) k))), some (.int (nI k))] [] G (rI K) from H 3 0 rfl
    intro n
    induction n with
    | zero =>
      intro k hk
      obtain rfl : k = 3 := by omega
      exact p_X12_heldSlots_4 _ _ ⟨fun _ => h, fun y => absurd (nI_le (by omega) (by omega)) y⟩
    | succ n ih =>
      intro k hk
      have hI := ih (k + 1) (by omega)
      obtain ⟨u3, u4⟩ := a4 k (by omega)
      refine p_X12_heldSlots_4 _ _ ⟨fun y => absurd y (nI_ge (by omega) (by omega)), fun _ => ⟨(ki_vp (by omega)).2 (by omega), ?_⟩⟩
      rw [nI_clamp (by omega), nI_add, nI_add]
      cases e : ps_s P k with
      | none =>
        rw [ct_F (p := hl_ P) (n := k) (by unfold hl_; rw [e]; rfl)] at hI
        rw [u3 e]
        exact ⟨fun _ => hI, fun y => absurd rfl y⟩
      | some x =>
        rw [ct_T (p := hl_ P) (n := k) (by unfold hl_; rw [e]; rfl)] at hI
        rw [(u4 x.1 x.2 e).1]
        exact ⟨fun y => absurd y (by decide), fun _ => hI⟩
  · have hw : ∀ i, i ≤ 6 → ¬ w = nI i := fun i hi y => by rw [y, nI_toInt (by omega)] at z; omega
    rw [if_neg (hw 0 (by omega)), if_neg (hw 1 (by omega)), if_neg (hw 2 (by omega)), if_neg (hw 3 (by omega)), if_neg (hw 4 (by omega)), if_neg (hw 5 (by omega)), if_neg (hw 6 (by omega))] at h
    unfold an_num at h
    have h20 : (∀ k, ix_ (ps_t P).length (w - nI 10) ≠ some k) → (w < nI 20 → K (-1) G) ∧ (¬ w < nI 20 → mC l κ true d 0 0 m_X12_hasTrial [.ref 0, .int (w - nI 20)] G (rI (fun r1 G2 => ((r1 = 0 → K (-1) G2) ∧ (¬ r1 = 0 → vp_in (w - nI 20) 8 ∧ (((mg_i G2 74 ((w - nI 20).toNatClampNeg)) = 0 → K (-2) G2) ∧ (¬ (mg_i G2 74 ((w - nI 20).toNatClampNeg)) = 0 → vp_in (w - nI 20) 8 ∧ K (mg_i G2 (75 + 2 * (w - nI 20).toNatClampNeg) 1) G2))))))) := by
      intro hno
      cases e10 : ix_ (ps_t P).length (w - nI 10) with
      | some k => exact absurd e10 (hno k)
      | none =>
        rw [e10] at h
        simp only [] at h
        refine ⟨fun y => ?_, fun y => s_hasTrial _ a2.1 ht (fun e => ⟨fun _ => ?_, fun q => absurd (by decide) q⟩) (fun k e hk ek => ⟨fun q => absurd q (by decide), fun _ => ?_⟩)⟩
        · cases e20 : ix_ (ps_t P).length (w - nI 20) with
          | none => rw [e20] at h; exact h
          | some k =>
            obtain ⟨k1, k2⟩ := ix_some (by omega) e20
            rw [sub_nI k2, nI_ltI (by omega) (by omega)] at y
            omega
        · rw [e] at h; exact h
        · rw [e] at h
          simp only [] at h
          obtain ⟨-, -, u3, u4⟩ := a2.2.2 k hk
          rw [ek, nI_clamp (by omega)]
          refine ⟨(ki_vp (by omega)).2 (by omega), ?_⟩
          cases eg : tx_gv (ps_t P) k with
          | none =>
            rw [eg] at h
            rw [show mg_i G 74 k = nI 0 from u3 eg]
            exact ⟨fun _ => h, fun q => absurd rfl q⟩
          | some g =>
            rw [eg] at h
            rw [show mg_i G 74 k = nI 1 from (u4 g eg).1]
            refine ⟨fun q => absurd q (by decide), fun _ => ⟨(ki_vp (by omega)).2 (by omega), ?_⟩⟩
            rw [show mg_i G (75 + 2 * k) 1 = nI g.length from (u4 g eg).2.1.1]
            exact h
    refine e_X12_numbersOf w ⟨fun y => h20 (fun k hk => ?_), fun y => s_hasTrial _ a2.1 ht (fun e => ⟨fun _ => h20 (fun k hk => by rw [e] at hk; cases hk), fun q => absurd (by decide) q⟩) (fun k e hk ek => ⟨fun q => absurd q (by decide), fun _ => ?_⟩)⟩
    · obtain ⟨k1, k2⟩ := ix_some (by omega) hk
      rw [sub_nI k2, nI_ltI (by omega) (by omega)] at y
      omega
    · rw [e] at h
      rw [ek, nI_clamp (by omega), show mg_i G 72 k = nI (tx_in (ps_t P) k).length from (a2.2.2 k hk).1]
      exact ⟨(ki_vp (by omega)).2 (by omega), h⟩
theorem m_count {l : Launch} {κ : mm_K} {d : Nat} {G : mm_G} {K : Int32 → mm_G → Prop} {P : ps_T} {m : Nat} (w : Int32) (hP : ps_ok P) (hM : mB_ G P m) (h : K (an_count P w) G) : mC l κ true (d + 2) 0 0 m_X13_count [.ref 226, .int w] G (rI K) := by
  have hM0 := hM
  obtain ⟨a1, a2, a3, a4, a5, a6, a7, a8, a9⟩ := hM
  have ht := hP.2.1.1
  unfold an_count at h
  have hne : ∀ {i j : Nat}, i < 100 → j < 100 → i ≠ j → ¬ nI i = nI j := fun {i j} h1 h2 h3 z => h3 ((nI_eq (by omega) (by omega)).1 z)
  refine e_X13_count w ⟨fun z => ?_, fun z => ?_, fun z => ?_, fun z => ?_, fun z => ?_, fun z => ?_, fun z => ?_, fun z => ?_⟩
  · rw [if_pos z] at h
    rw [a2, nI_clamp (by omega), a3.1]; exact ⟨(ki_vp (by omega)).2 (by omega), h⟩
  · rw [z, if_neg (hne (by omega) (by omega) (by omega)), if_pos rfl] at h
    rw [a2, nI_clamp (by omega), a4.1]; exact ⟨(ki_vp (by omega)).2 (by omega), h⟩
  · rw [z, if_neg (hne (by omega) (by omega) (by omega)), if_neg (hne (by omega) (by omega) (by omega)), if_pos rfl] at h
    suffices H : ∀ n k, k + n = (ps_t P).length → mV l κ true (d + 2) 0 0 m_X13_count 68 [some (.ref 226), some (.int w), some (.int (nI (fb_ct (tb_ P) k))), some (.int (nI k))] [] G (rI K) from H _ 0 (Nat.zero_add _)
    intro n
    induction n with
    | zero =>
      intro k hk
      refine p_X13_count_68 _ _ _ ?_
      rw [a2, nI_clamp (by omega), a4.1]
      refine ⟨(ki_vp (by omega)).2 (by omega), fun _ => ?_, fun y => absurd (nI_le (by omega) (by omega)) y⟩
      rw [show (ps_t P).length = k by omega] at h; exact h
    | succ n ih =>
      intro k hk
      have hI := ih (k + 1) (by omega)
      obtain ⟨-, -, u3, u4⟩ := a4.2.2 k (by omega)
      refine p_X13_count_68 _ _ _ ?_
      rw [a2, nI_clamp (by omega), a4.1, ki_mul, nI_add, nI_clamp (by omega), nI_add, nI_add]
      refine ⟨(ki_vp (by omega)).2 (by omega), fun y => absurd y (nI_ge (by omega) (by omega)), fun _ => ⟨(ki_vp (by omega)).2 (by omega), ?_⟩⟩
      cases e : tx_gv (ps_t P) k with
      | none =>
        rw [ct_F (p := tb_ P) (n := k) (by unfold tb_; rw [e]; rfl)] at hI
        rw [u3 e]
        exact ⟨fun _ => hI, fun y => absurd rfl y⟩
      | some g =>
        rw [ct_T (p := tb_ P) (n := k) (by unfold tb_; rw [e]; rfl)] at hI
        have hg := (hP.2.1.2 k).2 g e
        rw [(u4 g e).1, ki_m1 (by omega)]
        exact ⟨fun y => y.elim, fun _ => hI⟩
  · rw [z, if_neg (hne (by omega) (by omega) (by omega)), if_neg (hne (by omega) (by omega) (by omega)), if_neg (hne (by omega) (by omega) (by omega)), if_pos rfl] at h
    rw [a2, nI_clamp (by omega), a4.2.1]; exact ⟨(ki_vp (by omega)).2 (by omega), h⟩
  · rw [z, if_neg (hne (by omega) (by omega) (by omega)), if_neg (hne (by omega) (by omega) (by omega)), if_neg (hne (by omega) (by omega) (by omega)), if_neg (hne (by omega) (by omega) (by omega)), if_pos rfl] at h; rw [a5.1]; exact h
  · rw [z, if_neg (hne (by omega) (by omega) (by omega)), if_neg (hne (by omega) (by omega) (by omega)), if_neg (hne (by omega) (by omega) (by omega)), if_neg (hne (by omega) (by omega) (by omega)), if_neg (hne (by omega) (by omega) (by omega)), if_pos rfl] at h; rw [a7.1]; exact h
  · rw [z, if_neg (hne (by omega) (by omega) (by omega)), if_neg (hne (by omega) (by omega) (by omega)), if_neg (hne (by omega) (by omega) (by omega)), if_neg (hne (by omega) (by omega) (by omega)), if_neg (hne (by omega) (by omega) (by omega)), if_neg (hne (by omega) (by omega) (by omega)), if_pos rfl] at h
    have hq : ∀ i, i < 3 → mg_i G 278 i = nI (if hl_ P i then 1 else 0) := by
      intro i hi
      unfold hl_
      cases e : ps_s P i with
      | none => exact (a6 i hi).1 e
      | some x => exact ((a6 i hi).2 x.1 x.2 e).1
    have e0 : (nI 0).toNatClampNeg = 0 := nI_clamp (by omega)
    have e1 : (nI 1).toNatClampNeg = 1 := nI_clamp (by omega)
    have e2 : (nI 2).toNatClampNeg = 2 := nI_clamp (by omega)
    rw [e0, e1, e2, hq 0 (by omega), hq 1 (by omega), hq 2 (by omega)]
    have hv : ∀ i, i < 3 → vp_in (nI i) 3 := fun i hi => (ki_vp (by omega)).2 hi
    have hct : fb_ct (hl_ P) 3 = (if hl_ P 0 then 1 else 0) + (if hl_ P 1 then 1 else 0) + (if hl_ P 2 then 1 else 0) := by
      rw [fb_ct_succ, fb_ct_succ, fb_ct_succ]
      show 0 + _ + _ + _ = _
      rw [Nat.zero_add]
    rw [hct] at h
    have hz1 : (nI 1 = 0) = False := eq_false (by decide)
    have hz0 : (nI 0 = 0) = True := eq_true (by decide)
    refine ⟨hv 0 (by omega), ?_⟩
    generalize hl_ P 0 = x0 at h ⊢
    generalize hl_ P 1 = x1 at h ⊢
    generalize hl_ P 2 = x2 at h ⊢
    have v1 := hv 1 (by omega)
    have v2 := hv 2 (by omega)
    cases x0 <;> cases x1 <;> cases x2 <;> simp only [Bool.false_eq_true, if_true, if_false, hz1, hz0, not_true_eq_false, not_false_eq_true, true_implies, false_implies, and_true, true_and, nI_add, Nat.reduceAdd] at h ⊢ <;> exact ⟨v1, v2, h⟩
  · have hw : ∀ i, i ≤ 6 → ¬ w = nI i := fun i hi y => by rw [y, nI_toInt (by omega)] at z; omega
    rw [if_neg (hw 0 (by omega)), if_neg (hw 1 (by omega)), if_neg (hw 2 (by omega)), if_neg (hw 3 (by omega)), if_neg (hw 4 (by omega)), if_neg (hw 5 (by omega)), if_neg (hw 6 (by omega))] at h
    unfold an_num at h
    refine t_isTrial _ hP hM0 (fun e10 => ⟨fun _ => ?_, fun q => absurd (by decide) q⟩) (fun k e10 hk ek => ⟨fun q => absurd q (by decide), fun _ => ?_⟩)
    · rw [e10] at h
      simp only [] at h
      refine t_isTrial _ hP hM0 (fun e20 => ⟨fun q => absurd (by decide) q, fun _ => ?_⟩) (fun k e20 hk ek => ⟨fun _ => ?_, fun q => absurd q (by decide)⟩)
      · rw [e20] at h; exact h
      · rw [e20] at h
        simp only [] at h
        obtain ⟨-, -, u3, u4⟩ := a4.2.2 k hk
        have ew : nI 8 * mg_i G 226 18 + w - nI 20 = nI (8 * m + k) := by
          rw [a2, ki_mul, sub_nI ek, nI_add, ki_sub (by omega)]
          congr 1
        rw [ew, nI_clamp (by omega)]
        refine ⟨(ki_vp (by omega)).2 (by omega), ?_⟩
        cases eg : tx_gv (ps_t P) k with
        | none =>
          rw [eg] at h
          rw [u3 eg]
          exact ⟨fun q => absurd rfl q, fun _ => h⟩
        | some g =>
          rw [eg] at h
          have hg := (hP.2.1.2 k).2 g eg
          rw [(u4 g eg).1, ki_m1 (by omega)]
          exact ⟨fun _ => h, fun q => q.elim⟩
    · rw [e10] at h
      simp only [] at h
      obtain ⟨u1, -⟩ := a4.2.2 k hk
      have ew : nI 8 * mg_i G 226 18 + w - nI 10 = nI (8 * m + k) := by
        rw [a2, ki_mul, sub_nI ek, nI_add, ki_sub (by omega)]
        congr 1
      rw [ew, nI_clamp (by omega), u1]
      exact ⟨(ki_vp (by omega)).2 (by omega), h⟩

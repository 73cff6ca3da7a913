/-! the join: both sides together -/
def jj_ (G : mm_G) (P : ps_T) (a : Nat) : Prop := ps_ok P ∧ cB_ G P ∧ mB_ G P a ∧ cC_ G P ∧ zG_ G ∧ gz_ G ∧ 285 ≤ mg_n G
/-- the component has gone on to Q, the reference stands at P -/
def jc_ (G : mm_G) (P Q : ps_T) (a : Nat) : Prop := ps_ok P ∧ mB_ G P a ∧ ps_ok Q ∧ cB_ G Q ∧ cC_ G Q ∧ zG_ G ∧ gz_ G ∧ 285 ≤ mg_n G
theorem jc_.fin {G G1 : mm_G} {P Q : ps_T} {a b : Nat} {S : Nat → Nat → Bool} (h : jc_ G P Q a) (hM : mB_ G1 Q b) (hf : fr_ S G G1) (hS : ∀ c k, c < 226 ∨ 285 ≤ c → S c k = false) : jj_ G1 Q b := by
  obtain ⟨h1, h2, h3, h4, h5, h6, h7, h8⟩ := h
  exact ⟨h3, h4.on h3 (hf.on (fun c k q => hS c k (by have := rgB_iff.1 q; omega))) (by rw [hf.1]; exact Nat.le_refl _), hM, h5.off h3 hf (fun c k x y => hS c k (by omega)), h6.fr hf (fun c k q => hS c k (by omega)), h7.fz hf.fz h8 (fun c k x y => hS c k (by omega)), by rw [hf.1]; exact h8⟩
theorem jc_.run {G G1 : mm_G} {P : ps_T} {a : Nat} {S : Nat → Nat → Bool} (h : jc_ G P P a) (hf : fr_ S G G1) (hS : ∀ c k, c < 226 ∨ 285 ≤ c → S c k = false) (hQ : ∀ c k, rgQ c k = true → S c k = false) : jj_ G1 P a :=
  h.fin (h.2.1.on (hf.on hQ)) hf hS
theorem jj_.mid {G G1 : mm_G} {P Q : ps_T} {a : Nat} {S : Nat → Nat → Bool} (h : jj_ G P a) (hQ : ps_ok Q) (hf : fr_ S G G1) (hS : ∀ c k, 226 ≤ c → S c k = false) (h33 : ∀ c k, 33 ≤ c → c ≤ 48 → S c k = false) (hC : cB_ G1 Q) (hK : cC_ G1 Q) : jc_ G1 P Q a := by
  obtain ⟨h1, h2, h3, h4, h6, h7, h8⟩ := h
  exact ⟨h1, h3.on (hf.on (fun c k q => hS c k (by have := rgQ_iff.1 q; omega))), hQ, hC, hK, h6.fr hf (fun c k q => hS c k (by omega)), h7.fz hf.fz h8 h33, by rw [hf.1]; exact h8⟩
theorem jj_.run {G G1 : mm_G} {P : ps_T} {a : Nat} {S : Nat → Nat → Bool} (h : jj_ G P a) (hf : fr_ S G G1) (hS : ∀ c k, c < 91 ∨ 187 < c → S c k = false) (hK : cC_ G1 P) : jc_ G1 P P a :=
  h.mid h.1 hf (fun c k q => hS c k (by omega)) (fun c k x y => hS c k (by omega)) (h.2.1.on h.1 (hf.on (fun c k q => hS c k (by have := rgB_iff.1 q; omega))) (by rw [hf.1]; exact Nat.le_refl _)) hK
theorem jj_.same {G : mm_G} {P : ps_T} {a : Nat} (h : jj_ G P a) : jc_ G P P a := ⟨h.1, h.2.2.1, h.1, h.2.1, h.2.2.2⟩
theorem jc_.same {G : mm_G} {P : ps_T} {a : Nat} (h : jc_ G P P a) : jj_ G P a := ⟨h.1, h.2.2.2.1, h.2.1, h.2.2.2.2⟩
theorem jj_.fc {G G1 : mm_G} {P : ps_T} {a : Nat} (h : jj_ G P a) (hf : fr_ fc_ G G1) : jc_ G1 P P a := h.run hf (fun c k q => fc_F (by omega)) (h.2.2.2.1.off h.1 hf (fun c k x y => fc_F (by omega)))
theorem jj_.fl {G G1 : mm_G} {P : ps_T} {a : Nat} (h : jj_ G P a) (hf : fr_ fl_ G G1) (hL : cL_ G1 P) : jc_ G1 P P a := h.run hf (fun c k q => fl_F (by omega)) (h.2.2.2.1.of h.1 hf (Or.inr hL) (Or.inl (fun c k x y => fl_F (by omega))) (Or.inl (fun c k x y => fl_F (by omega))) (Or.inl (fun c k x y => fl_F (by omega))))
theorem jj_.fO {G G1 : mm_G} {P : ps_T} {a : Nat} (h : jj_ G P a) (hf : fr_ fO_ G G1) (hL : cL_ G1 P) (hO : cO_ G1 P) : jc_ G1 P P a := h.run hf (fun c k q => fO_F (by omega)) (h.2.2.2.1.of h.1 hf (Or.inr hL) (Or.inr hO) (Or.inl (fun c k x y => fO_F (by omega))) (Or.inl (fun c k x y => fO_F (by omega))))
theorem jj_.fS {G G1 : mm_G} {P : ps_T} {a : Nat} (h : jj_ G P a) (hf : fr_ fS_ G G1) (hK : cK_ G1 P) : jc_ G1 P P a := h.run hf (fun c k q => fS_F (by omega)) (h.2.2.2.1.of h.1 hf (Or.inl (fun c k x y => fS_F (by omega))) (Or.inl (fun c k x y => fS_F (by omega))) (Or.inr hK) (Or.inl (fun c k x y => fS_F (by omega))))
theorem jj_.fU {G G1 : mm_G} {P : ps_T} {a : Nat} (h : jj_ G P a) (hf : fr_ fU_ G G1) (hU : cU_ G1 P) : jc_ G1 P P a := h.run hf (fun c k q => fU_F (by omega)) (h.2.2.2.1.of h.1 hf (Or.inl (fun c k x y => fU_F (by omega))) (Or.inl (fun c k x y => fU_F (by omega))) (Or.inl (fun c k x y => fU_F (by omega))) (Or.inr hU))
theorem fbh_F {c k : Nat} (h : c < 226 ∨ 285 ≤ c) : fb_ c k = false := by
  unfold fb_
  rw [fg_F (by omega)]
  rcases h with z | z
  · rw [decide_eq_false (p := 262 ≤ c) (by omega)]; rfl
  · rw [decide_eq_false (p := c ≤ 264) (by omega), Bool.and_false]; rfl
theorem fBh_F {c k : Nat} (h : c < 226 ∨ 285 ≤ c) : fB_ c k = false := by
  unfold fB_
  rw [fbh_F h, decide_eq_false (p := c = 265) (by omega), decide_eq_false (p := c = 266) (by omega)]; rfl
theorem fhh_F {c k : Nat} (h : c < 226 ∨ 285 ≤ c) : fh_ c k = false := by
  unfold fh_
  rw [fg_F (by omega), decide_eq_false (p := c = 267) (by omega)]; rfl
theorem fVh_F {c k : Nat} (h : c < 226 ∨ 285 ≤ c) : fV_ c k = false := by
  unfold fV_
  rw [fg_F (by omega), decide_eq_false (p := c = 272) (by omega), decide_eq_false (p := c = 226) (by omega)]; rfl
theorem fgrh_F {c k : Nat} (h : c < 226 ∨ 285 ≤ c) : fgr_ c k = false := by
  unfold fgr_
  rw [fg_F (by omega)]
  rcases h with z | z
  · rw [decide_eq_false (p := 273 ≤ c) (by omega)]; rfl
  · rw [decide_eq_false (p := c ≤ 276) (by omega), Bool.and_false]; rfl
theorem fwzh_F {c k : Nat} (h : c < 226 ∨ 285 ≤ c) : fwz_ c k = false := by
  unfold fwz_
  rw [fVh_F h, fgrh_F h, decide_eq_false (p := c = 277) (by omega)]; rfl
theorem jc_.fg {G G1 : mm_G} {P : ps_T} {a : Nat} (h : jc_ G P P a) (hf : fr_ fg_ G G1) : jj_ G1 P a := h.run hf (fun c k q => fg_F (by omega)) (fun c k q => fg_on q)
theorem jc_.fb {G G1 : mm_G} {P : ps_T} {a : Nat} (h : jc_ G P P a) (hf : fr_ fb_ G G1) : jj_ G1 P a := h.run hf (fun c k q => fbh_F q) (fun c k q => fb_on q)
theorem jc_.fB {G G1 : mm_G} {P : ps_T} {a : Nat} (h : jc_ G P P a) (hf : fr_ fB_ G G1) : jj_ G1 P a := h.run hf (fun c k q => fBh_F q) (fun c k q => fB_on q)
theorem jc_.fh {G G1 : mm_G} {P : ps_T} {a : Nat} (h : jc_ G P P a) (hf : fr_ fh_ G G1) : jj_ G1 P a := h.run hf (fun c k q => fhh_F q) (fun c k q => fh_on q)
theorem jc_.fV {G G1 : mm_G} {P : ps_T} {a : Nat} (h : jc_ G P P a) (hf : fr_ fV_ G G1) : jj_ G1 P a := h.run hf (fun c k q => fVh_F q) (fun c k q => fV_on q)
theorem jc_.fwz {G G1 : mm_G} {P : ps_T} {a : Nat} (h : jc_ G P P a) (hf : fr_ fwz_ G G1) : jj_ G1 P a := h.run hf (fun c k q => fwzh_F q) (fun c k q => fwz_on q)
theorem jc_.fM {G G1 : mm_G} {P Q : ps_T} {a b : Nat} (h : jc_ G P Q a) (hf : fr_ fM_ G G1) (hM : mB_ G1 Q b) : jj_ G1 Q b := h.fin hM hf (fun c k q => fM_F q)
theorem jc_.fd {G G1 : mm_G} {P Q : ps_T} {a b : Nat} (h : jc_ G P Q a) (hf : fr_ (fun c _ => decide (226 ≤ c) && decide (c < 285)) G G1) (hM : mB_ G1 Q b) : jj_ G1 Q b := h.fin hM hf (fun c k q => by
  rcases q with z | z
  · rw [decide_eq_false (p := 226 ≤ c) (by omega)]; rfl
  · rw [decide_eq_false (p := c < 285) (by omega), Bool.and_false])
theorem jc_.fmm {G G1 : mm_G} {P Q : ps_T} {a b : Nat} (h : jc_ G P Q a) (hf : fr_ fmm_ G G1) (hM : mB_ G1 Q b) : jj_ G1 Q b := h.fin hM hf (fun c k q => decide_eq_false (by omega))
/-- a state with the same rows, trials and fuel -/
theorem jj_.alike {G G1 : mm_G} {P Q : ps_T} {a : Nat} {S : Nat → Nat → Bool} (h : jj_ G P a) (hQ : ps_ok Q) (h1 : ps_p Q = ps_p P) (h2 : ps_t Q = ps_t P) (h3 : ps_f Q = ps_f P) (hf : fr_ S G G1) (hS : ∀ c k, (33 ≤ c ∧ c ≤ 48) ∨ (98 ≤ c ∧ c ≤ 187) ∨ 226 ≤ c → S c k = false) (hC : cB_ G1 Q) : jc_ G1 P Q a :=
  h.mid hQ hf (fun c k q => hS c k (by omega)) (fun c k x y => hS c k (by omega)) hC ((h.2.2.2.1.off h.1 hf (fun c k x y => hS c k (by omega))).P h1 h2 h3)
theorem jj_.new {G G1 : mm_G} {P Q : ps_T} {a : Nat} (h : jj_ G P a) (hQ : ps_ok Q) (hf : fr_ fKz_ G G1) (hC : cB_ G1 Q) (hZ : cZ_ G1) : jc_ G1 P Q a :=
  h.mid hQ hf (fun c k q => decide_eq_false (by omega)) (fun c k x y => decide_eq_false (by omega)) hC hZ.C
theorem jj_.read {G G1 : mm_G} {P : ps_T} {a : Nat} (h : jj_ G P a) (hC : cB_ G1 (st_read P)) (hz : zG_ G1) (hg : gz_ G1) (hf : fnz_ fRs_ G G1) (hk : cZ_ G1 ∨ ∃ pl, st_read P = wfl_ P pl ∧ fnz_ fRf_ G G1) : jc_ G1 P (st_read P) a := by
  obtain ⟨h1, h2, h3, h4, h6, h7, h8⟩ := h
  refine ⟨h1, h3.on (fun c k q => hf.2 c k (by have := rgQ_iff.1 q; omega) (decide_eq_false (by have := rgQ_iff.1 q; omega))), st_read_ok h1, hC, ?_, hz, hg, Nat.le_trans h8 hf.1⟩
  rcases hk with z | ⟨pl, e, f⟩
  · exact z.C
  · rw [e]
    exact (h4.fz h1 f h8 (fun c k x y => fRf_iff.2 (by omega))).P rfl rfl rfl
theorem st_feed_a {P : ps_T} {a1 a2 a3 a4 a5 : Int32} : ps_p (st_feed P a1 a2 a3 a4 a5) = ps_p P ∧ ps_t (st_feed P a1 a2 a3 a4 a5) = ps_t P ∧ ps_f (st_feed P a1 a2 a3 a4 a5) = ps_f P := by
  unfold st_feed
  split <;> exact ⟨rfl, rfl, rfl⟩
theorem st_back_a {P : ps_T} {a : Int32} : ps_p (st_back P a) = ps_p P ∧ ps_t (st_back P a) = ps_t P ∧ ps_f (st_back P a) = ps_f P := by
  unfold st_back
  split <;> exact ⟨rfl, rfl, rfl⟩
theorem ns_see_a {P : ps_T} {a b c : Int32} : ps_p (ns_see P a b c) = ps_p P ∧ ps_t (ns_see P a b c) = ps_t P ∧ ps_f (ns_see P a b c) = ps_f P := by
  unfold ns_see
  split <;> exact ⟨rfl, rfl, rfl⟩
theorem st_hold_a {P : ps_T} {a : Int32} : ps_p (st_hold P a) = ps_p P ∧ ps_t (st_hold P a) = ps_t P ∧ ps_f (st_hold P a) = ps_f P := by
  unfold st_hold
  split <;> exact ⟨rfl, rfl, rfl⟩

/-! suspects, suspect: the component -/
def cq_ (P : ps_T) (a b c : Int32) : Option (Nat × Nat × Nat) := match ix_ (ps_p P).length a with
  | none => none
  | some r => match ix_ 3 b with
    | none => none
    | some n => match ix_ ((ps_n P).2.length + 1) c with
      | none => none
      | some k => if k = 0 ∨ (ps_n P).1 = r then some (r, n, k) else none
theorem s_canSuspect {l : Launch} {κ : mm_K} {d : Nat} {G : mm_G} {K : Int32 → mm_G → Prop} {P : ps_T} (a b c : Int32) (hP : ps_ok P) (hC : cB_ G P) (h0 : cq_ P a b c = none → K (nI 0) G) (h1 : ∀ r n k, cq_ P a b c = some (r, n, k) → r < (ps_p P).length → a = nI r → n ≤ 2 → b = nI n → k ≤ (ps_n P).2.length → c = nI k → (k ≠ 0 → (ps_n P).1 = r) → K (nI 1) G) : mC l κ true (d + 1) 0 0 m_X12_canSuspect [.ref 0, .int a, .int b, .int c] G (rI K) := by
  have hp := hP.1.1
  have hsx := hP.2.2.2.1
  have h20 := hsx.1
  have e4 : mg_i G 50 4 = nI (ps_n P).2.length := hC.1.2.2.1
  have e5 : (ps_n P).2.length ≠ 0 → mg_i G 50 5 = nI (ps_n P).1 := hC.1.2.2.2.1
  unfold cq_ at h0 h1
  refine e_X12_canSuspect a b c (s_hasRow a hC.1.1 hp (fun e => ⟨fun _ => h0 (by rw [e]), fun q => absurd (by decide) q⟩) (fun r e hr ea => ⟨fun q => absurd q (by decide), fun _ => ?_⟩))
  rw [e] at h0 h1
  cases e2 : ix_ 3 b with
  | none =>
    have hh := h0 (by simp only [e2])
    rcases ix_q (n := 2) (by decide) e2 with z | ⟨z, z2⟩
    · exact ⟨fun _ => hh, fun y => absurd z y⟩
    · exact ⟨fun y => absurd y z, fun _ => ⟨fun _ => hh, fun y => absurd z2 y⟩⟩
  | some n =>
    obtain ⟨n1, n2⟩ := ix_some (by decide) e2
    subst n2
    simp only [e2] at h0 h1
    refine ⟨fun y => ?_, fun _ => ⟨fun y => ?_, fun _ => ?_⟩⟩
    · rw [ki_0, nI_ltI (by omega) (by omega)] at y; omega
    · rw [nI_ltI (by omega) (by omega)] at y; omega
    · rw [e4]
      cases e3 : ix_ ((ps_n P).2.length + 1) c with
      | none =>
        have hh := h0 (by simp only [e3])
        rcases ix_q (n := (ps_n P).2.length) (by omega) e3 with z | ⟨z, z2⟩
        · exact ⟨fun _ => hh, fun y => absurd z y⟩
        · refine ⟨fun y => absurd y z, fun _ => ⟨fun y => ?_, fun _ => hh⟩⟩
          rw [fa_lt] at z2
          rw [fa_le] at y
          omega
      | some k =>
        obtain ⟨m1, m2⟩ := ix_some (by omega) e3
        subst m2 ea
        simp only [e3] at h0 h1
        refine ⟨fun y => ?_, fun _ => ⟨fun _ => ⟨fun y => ?_, fun y => ?_⟩, fun y => absurd (nI_le (by omega) (by omega)) y⟩⟩
        · rw [ki_0, nI_ltI (by omega) (by omega)] at y; omega
        · rw [ki_0, nI_eq (by omega) (by omega)] at y
          exact h1 r n k (by rw [if_pos (Or.inl y)]) hr rfl (by omega) rfl (by omega) rfl (fun q => absurd y q)
        · rw [ki_0, nI_eq (by omega) (by omega)] at y
          have hs1 := hsx.2.1 (by omega)
          rw [e5 (by omega), nI_eq (by omega) (by omega)]
          exact ⟨fun z => h0 (by rw [if_neg (by omega)]), fun z => h1 r n k (by rw [if_pos (Or.inr z)]) hr rfl (by omega) rfl (by omega) rfl (fun _ => z)⟩
def sp_ (P : ps_T) (r n k : Nat) : List Nat := (nw_ P r n k).map (sv_ P r n)
theorem sp_len (P : ps_T) (r n k : Nat) : (sp_ P r n k).length = (nw_ P r n k).length := List.length_map _
theorem sp_at {P : ps_T} {r n k i : Nat} (h : i < (nw_ P r n k).length) : (sp_ P r n k).getD i 0 = sv_ P r n ((nw_ P r n k).getD i 0) := by
  unfold sp_
  rw [List.getD_eq_getElem?_getD, List.getD_eq_getElem?_getD, List.getElem?_map, List.getElem?_eq_getElem h]
  rfl
def an_suspects (P : ps_T) (a b c : Int32) : Int32 := match cq_ P a b c with
  | none => -1
  | some (r, n, k) => nI (sp_ P r n k).length
def an_suspect (P : ps_T) (a b c i : Int32) : Int32 := match cq_ P a b c with
  | none => -1
  | some (r, n, k) => match ix_ (sp_ P r n k).length i with
    | none => -1
    | some j => nI ((sp_ P r n k).getD j 0)
theorem kU_.cU {G : mm_G} {P : ps_T} {r n : Nat} (h : kU_ G P r n) (hr : r < (ps_p P).length) (hn : n ≤ 2) : cU_ G P := Or.inr ⟨r, n, hr, hn, h⟩
theorem c_suspects {l : Launch} {κ : mm_K} {d : Nat} {G : mm_G} {K : Int32 → mm_G → Prop} {P : ps_T} (a b c : Int32) (hP : ps_ok P) (hC : cB_ G P) (hU : cU_ G P) (h : ∀ G', cU_ G' P → fr_ fU_ G G' → K (an_suspects P a b c) G') : mC l κ true (d + 5) 0 0 m_X12_suspects [.ref 0, .int a, .int b, .int c] G (rI K) := by
  unfold an_suspects at h
  refine e_X12_suspects a b c (s_canSuspect a b c hP hC (fun e => ⟨fun _ => ?_, fun y => absurd (by decide) y⟩) (fun r n k e hr ea hn eb hk ec hs => ⟨fun y => absurd y (by decide), fun _ => ?_⟩))
  · rw [e] at h; exact h G hU fr_.rfl'
  · rw [e] at h
    subst ea eb ec
    simp only [sp_len] at h
    exact s_narrow hP hC hU hr hn hk hs (fun G2 k2 l2 f2 => h G2 (k2.cU hr hn) f2)
theorem c_suspect {l : Launch} {κ : mm_K} {d : Nat} {G : mm_G} {K : Int32 → mm_G → Prop} {P : ps_T} (a b c i : Int32) (hP : ps_ok P) (hC : cB_ G P) (hU : cU_ G P) (h : ∀ G', cU_ G' P → fr_ fU_ G G' → K (an_suspect P a b c i) G') : mC l κ true (d + 5) 0 0 m_X12_suspect [.ref 0, .int a, .int b, .int c, .int i] G (rI K) := by
  unfold an_suspect at h
  refine e_X12_suspect a b c i (s_canSuspect a b c hP hC (fun e => ⟨fun y => absurd (by decide) y, fun _ => ?_⟩) (fun r n k e hr ea hn eb hk ec hs => ⟨fun _ => ?_, fun y => absurd y (by decide)⟩))
  · rw [e] at h; exact h G hU fr_.rfl'
  · rw [e] at h
    subst ea eb ec
    have h120 : (sL_ P r n).length ≤ 120 := su_120 (hP.1.2.2 r) hn
    refine s_narrow hP hC hU hr hn hk hs (fun G2 k2 l2 f2 => ?_)
    have hh := h G2 (k2.cU hr hn) f2
    obtain ⟨l1, l3, l4⟩ := l2
    simp only [] at hh
    rw [sp_len] at hh
    cases e2 : ix_ (nw_ P r n k).length i with
    | none =>
      rw [e2] at hh
      rcases ix_none (by omega) e2 with z | ⟨z, z2⟩
      · exact ⟨fun _ => hh, fun y => absurd z y⟩
      · exact ⟨fun y => absurd y z, fun _ => ⟨fun _ => hh, fun y => absurd z2 y⟩⟩
    | some j =>
      rw [e2] at hh
      obtain ⟨j1, j2⟩ := ix_some (by omega) e2
      subst j2
      obtain ⟨m1, m2⟩ := l4 j j1
      refine ⟨fun y => ?_, fun _ => ⟨fun y => ?_, fun _ => ?_⟩⟩
      · rw [ki_0, nI_ltI (by omega) (by omega)] at y; omega
      · rw [nI_leI (by omega) (by omega)] at y; omega
      · rw [nI_clamp (by omega), m1, nI_clamp (by omega), k2.2.2.2.1 _ m2]
        simp only [sp_at j1] at hh
        exact ⟨(ki_vp (by omega)).2 (by omega), (ki_vp (by omega)).2 (by omega), hh⟩

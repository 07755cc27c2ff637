theorem IK_up {N : Nat} {σ : Sg} (h : IK N σ) : IK (N + 1) σ := fun k hk => by
  obtain ⟨h1, s, h2, h3⟩ := h k hk
  exact ⟨h1, s, by omega, h3⟩
/-- the law, by what it gives: the class's way and the reference's give the same numbers -/
def OffX (σ σ' : Sg) : Prop := (∀ c, c ≠ 8 → c ≠ 10 → σ'.1 c = σ.1 c) ∧ σ'.1 8 1 = σ.1 8 1 ∧ σ'.2 = σ.2
def OffM (σ σ' : Sg) : Prop := (∀ c, c ≠ 78 → c ≠ 79 → σ'.1 c = σ.1 c) ∧ σ'.2 = σ.2
def XL (σ : Sg) (g : Int32 → Int32 → Int32 → Int32 → Int32 → Int32 → Int32) : Prop :=
  ∀ (w s h d k p : Int32) (σ' : Sg) (Q : Int32 → Sg → Prop), σ'.1 9 = σ.1 9 → σ'.1 8 1 = σ.1 8 1 → (∀ σ'', OffX σ' σ'' → Q (g w s h d k p) σ'') → w_X8_gives w s h d k p σ' Q
def sameLaw (σ σ' : Sg) : Prop := (∀ j, j < 130 → σ'.1 73 j = σ.1 73 j ∧ σ'.1 74 j = σ.1 74 j) ∧ σ'.1 75 0 = σ.1 75 0 ∧ (∀ j, j < 61 → σ'.1 76 j = σ.1 76 j ∧ σ'.1 77 j = σ.1 77 j) ∧ σ'.1 60 29 = σ.1 60 29
def ML (σ : Sg) (g : Int32 → Int32 → Int32 → Int32 → Int32 → Int32 → Int32) : Prop :=
  ∀ (k way shoe hour : Int32) (σ' : Sg) (Q : Int32 → Sg → Prop), sameLaw σ σ' → vp_in k 6 → (∀ σ'', OffM σ' σ'' → Q (g (σ'.1 67 1) shoe hour way k (σ'.1 63 k.toNatClampNeg)) σ'') → w_X12_turnBy k way shoe hour σ' Q
def IL (σ : Sg) : Prop := ∃ g : Int32 → Int32 → Int32 → Int32 → Int32 → Int32 → Int32, (∀ w s h d k p, inR (g w s h d k p) (-1) 1) ∧ XL σ g ∧ ML σ g
def Inv (N : Nat) (σ : Sg) : Prop := IA σ ∧ IT σ ∧ IC σ ∧ II σ ∧ IB σ ∧ IS σ ∧ IK N σ ∧ IL σ
/-! what holds, holds where its cells are as they were -/
theorem sameLaw.trans {a b c : Sg} (h1 : sameLaw a b) (h2 : sameLaw b c) : sameLaw a c :=
  ⟨fun j hj => ⟨(h2.1 j hj).1.trans (h1.1 j hj).1, (h2.1 j hj).2.trans (h1.1 j hj).2⟩, h2.2.1.trans h1.2.1, fun j hj => ⟨(h2.2.2.1 j hj).1.trans (h1.2.2.1 j hj).1, (h2.2.2.1 j hj).2.trans (h1.2.2.1 j hj).2⟩, h2.2.2.2.trans h1.2.2.2⟩
theorem IL_c {σ σ' : Sg} (h : IL σ) (e1 : σ'.1 9 = σ.1 9) (e2 : σ'.1 8 1 = σ.1 8 1) (e3 : sameLaw σ σ') : IL σ' := by
  obtain ⟨g, h0, h1, h2⟩ := h
  refine ⟨g, h0, fun w s h d k p τ Q a b c => h1 w s h d k p τ Q (a.trans e1) (b.trans e2) c, fun k way shoe hour τ Q a b c => h2 k way shoe hour τ Q (e3.trans a) b c⟩
theorem sameLaw_of {σ σ' : Sg} (h1 : σ'.1 73 = σ.1 73) (h2 : σ'.1 74 = σ.1 74) (h3 : σ'.1 75 = σ.1 75) (h4 : σ'.1 76 = σ.1 76) (h5 : σ'.1 77 = σ.1 77) (h6 : σ'.1 60 29 = σ.1 60 29) : sameLaw σ σ' :=
  ⟨fun j _ => ⟨congrFun h1 j, congrFun h2 j⟩, congrFun h3 0, fun j _ => ⟨congrFun h4 j, congrFun h5 j⟩, h6⟩
theorem IT_c {σ σ' : Sg} (h : IT σ) (e1 : σ'.1 0 4 = σ.1 0 4) (e2 : σ'.1 60 17 = σ.1 60 17) (e3 : σ'.1 14 = σ.1 14) (e4 : σ'.1 72 = σ.1 72) : IT σ' := by
  obtain ⟨n, h1, h2, h3, h4⟩ := h
  exact ⟨n, h1, e1.trans h2, e2.trans h3, by rw [e3, e4]; exact h4⟩
theorem IC_c {σ σ' : Sg} (h : IC σ) (e1 : σ'.1 1 4 = σ.1 1 4) (e2 : σ'.1 1 7 = σ.1 1 7) (e3 : σ'.1 36 = σ.1 36) (e4 : σ'.1 37 = σ.1 37) (e5 : σ'.1 60 10 = σ.1 60 10) (e6 : σ'.1 60 11 = σ.1 60 11) (e7 : σ'.1 68 = σ.1 68) (e8 : σ'.1 69 = σ.1 69) (e9 : σ'.1 70 = σ.1 70) (e10 : σ'.1 71 = σ.1 71) : IC σ' := by
  unfold IC at h ⊢
  rw [e1, e2, e3, e4, e5, e6, e7, e8, e9, e10]
  exact h
theorem II_c {σ σ' : Sg} (h : II σ) (e1 : σ'.1 84 = σ.1 84) (e2 : σ'.1 39 = σ.1 39) (e3 : σ'.1 38 = σ.1 38) (e4 : σ'.1 60 40 = σ.1 60 40) (e5 : σ'.1 60 41 = σ.1 60 41) (e6 : σ'.1 60 42 = σ.1 60 42) (e7 : σ'.1 1 4 = σ.1 1 4) (e8 : σ'.1 40 = σ.1 40 ∧ σ'.1 41 = σ.1 41 ∧ σ'.1 42 = σ.1 42 ∧ σ'.1 43 = σ.1 43) (e9 : σ'.1 85 = σ.1 85 ∧ σ'.1 86 = σ.1 86 ∧ σ'.1 87 = σ.1 87 ∧ σ'.1 88 = σ.1 88) : II σ' := by
  unfold II at h ⊢
  rw [e1, e2, e3, e4, e5, e6, e7, e8.1, e8.2.1, e8.2.2.1, e8.2.2.2, e9.1, e9.2.1, e9.2.2.1, e9.2.2.2]
  exact h
theorem IB_c {σ σ' : Sg} (h : IB σ) (e1 : σ'.1 89 = σ.1 89) (e2 : σ'.1 90 = σ.1 90) (e3 : σ'.1 58 = σ.1 58) (e4 : σ'.1 59 = σ.1 59) (e5 : σ'.1 57 1 = σ.1 57 1) (e6 : σ'.1 57 3 = σ.1 57 3) (e7 : σ'.1 60 47 = σ.1 60 47) (e8 : σ'.1 60 49 = σ.1 60 49) : IB σ' := by
  unfold IB at h ⊢
  rw [e1, e2, e3, e4, e5, e6, e7, e8]
  exact h
theorem IS_c {σ σ' : Sg} (h : IS σ) (e1 : σ'.1 57 1 = σ.1 57 1) (e2 : σ'.1 91 = σ.1 91) (e3 : σ'.1 92 = σ.1 92) (e4 : ∀ s, s < 6 → σ'.1 (45 + 2 * s) = σ.1 (45 + 2 * s)) (e5 : σ'.2 = σ.2) : IS σ' := by
  obtain ⟨b, h1, h2, h3⟩ := h
  exact ⟨b, h1, e1.trans h2, fun s hs => by rw [e2, e3, e4 s hs, e5]; exact h3 s hs⟩
theorem IK_c {N : Nat} {σ σ' : Sg} (h : IK N σ) (e : ∀ k, k < 6 → σ'.1 (16 + 2 * k) = σ.1 (16 + 2 * k) ∧ σ'.1 (17 + 2 * k) = σ.1 (17 + 2 * k)) : IK (N + 1) σ' := fun k hk => by
  obtain ⟨h1, s, h2, h3⟩ := h k hk
  rw [(e k hk).1, (e k hk).2]
  exact ⟨h1, s, by omega, h3⟩
theorem IA_c {σ σ' : Sg} (h : IA σ) (e1 : σ'.1 1 = σ.1 1) (e2 : σ'.1 2 = σ.1 2 ∧ σ'.1 3 = σ.1 3 ∧ σ'.1 4 = σ.1 4 ∧ σ'.1 5 = σ.1 5 ∧ σ'.1 6 = σ.1 6 ∧ σ'.1 7 = σ.1 7) (e3 : σ'.1 61 = σ.1 61 ∧ σ'.1 62 = σ.1 62 ∧ σ'.1 63 = σ.1 63 ∧ σ'.1 64 = σ.1 64 ∧ σ'.1 65 = σ.1 65 ∧ σ'.1 66 = σ.1 66) (e4 : σ'.1 60 1 = σ.1 60 1) (e5 : σ'.1 60 6 = σ.1 60 6) (e6 : σ'.1 67 = σ.1 67) : IA σ' := by
  obtain ⟨a1, a2, a3, a4, a5, a6⟩ := e2
  obtain ⟨b1, b2, b3, b4, b5, b6⟩ := e3
  unfold IA at h ⊢
  rw [e1, a1, a2, a3, a4, a5, a6, b1, b2, b3, b4, b5, b6, e4, e5, e6]
  exact h
/-- nothing changed -/
theorem Inv_up {N : Nat} {σ : Sg} (h : Inv N σ) : Inv (N + 1) σ := ⟨h.1, h.2.1, h.2.2.1, h.2.2.2.1, h.2.2.2.2.1, h.2.2.2.2.2.1, IK_up h.2.2.2.2.2.2.1, h.2.2.2.2.2.2.2⟩

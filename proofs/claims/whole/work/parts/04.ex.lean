/-! the judgement over abstract heaps: a heap is a shape Γ (cells by number) and its numbers σ -/
abbrev aC : Type := (FieldType × Nat × List (Option Nat)) ⊕ (Nat × List (Bool ⊕ Option Nat))
abbrev Sg : Type := (Nat → Nat → Int32) × (Nat → Nat → Int64)
/-- base address, outside arrays' addresses, class numbers and slots, array classes -/
abbrev aE : Type := Nat × (Nat → Nat) × va_G × (FieldType → ClassId)
/-- name, bytes, locals, what it returns -/
abbrev aM : Type := MethodName × ByteArray × Nat × Option FieldType
/-- abstract values: .ref i is the cell i, .float j the outside array j -/
def cv (E : aE) (v : Value) : Value := match v with
  | .ref i => .ref (E.1 + i)
  | .float j => .ref (E.2.1 j.toNat)
  | .int x => .int x
  | .long x => .long x
  | .double x => .double x
  | .null => .null
  | .retAddr x => .retAddr x
theorem cv_cat (E : aE) (v : Value) : (cv E v).category = v.category := by cases v <;> rfl
def cF (E : aE) (σ : Sg) (i k : Nat) (f : Bool ⊕ Option Nat) : Value := match f with
  | .inl false => .int (σ.1 i k)
  | .inl true => .long (σ.2 i k)
  | .inr none => .null
  | .inr (some q) => .ref (E.1 + q)
def cA (E : aE) (σ : Sg) (i : Nat) (ty : FieldType) (n : Nat) (rs : List (Option Nat)) : vp_A := match ty with
  | .long => (n, .inr (.inl (σ.2 i)))
  | .object _ => (n, .inr (.inr (.inr (.inr (fun j => (rs.getD j none).map (fun q => E.1 + q))))))
  | _ => (n, .inl (σ.1 i))
def cL (E : aE) (σ : Sg) (i : Nat) : Nat → List (Bool ⊕ Option Nat) → List Value
  | _, [] => []
  | k, f :: fs => cF E σ i k f :: cL E σ i (k + 1) fs
def cE (E : aE) (σ : Sg) (i : Nat) (c : aC) : va_E := match c with
  | .inl (ty, n, rs) => .inl (E.2.2.2 ty, cA E σ i ty n rs)
  | .inr (ci, ks) => .inr (ci, cL E σ i 0 ks)
def cM (E : aE) (σ : Sg) : Nat → List aC → va_W
  | _, [] => []
  | i, c :: cs => (E.1 + i, cE E σ i c) :: cM E σ (i + 1) cs
abbrev cW (E : aE) (Γ : List aC) (σ : Sg) : va_W := cM E σ 0 Γ
def sI (σ : Sg) (c k : Nat) (v : Int32) : Sg := (fun c' => if c' = c then (fun k' => if k' = k then v else σ.1 c k') else σ.1 c', σ.2)
def sJ (σ : Sg) (c k : Nat) (v : Int64) : Sg := (σ.1, fun c' => if c' = c then (fun k' => if k' = k then v else σ.2 c k') else σ.2 c')
/-- a whole row at once -/
def sIr (σ : Sg) (c : Nat) (f : Nat → Int32) : Sg := (fun c' => if c' = c then f else σ.1 c', σ.2)
def sJr (σ : Sg) (c : Nat) (f : Nat → Int64) : Sg := (σ.1, fun c' => if c' = c then f else σ.2 c')
theorem sI_eq (σ : Sg) (c k : Nat) (v : Int32) : sI σ c k v = sIr σ c (fun k' => if k' = k then v else σ.1 c k') := rfl
theorem sJ_eq (σ : Sg) (c k : Nat) (v : Int64) : sJ σ c k v = sJr σ c (fun k' => if k' = k then v else σ.2 c k') := rfl
theorem cL_at (E : aE) (σ : Sg) (i : Nat) : ∀ (fs : List (Bool ⊕ Option Nat)) (k0 k : Nat), (cL E σ i k0 fs)[k]? = (fs[k]?).map (cF E σ i (k0 + k))
  | [], _, _ => by simp [cL]
  | f :: fs, k0, 0 => by simp [cL]
  | f :: fs, k0, k + 1 => by
    rw [show cL E σ i k0 (f :: fs) = cF E σ i k0 f :: cL E σ i (k0 + 1) fs from rfl, List.getElem?_cons_succ, List.getElem?_cons_succ, cL_at E σ i fs (k0 + 1) k, show k0 + 1 + k = k0 + (k + 1) by omega]
theorem cL_len (E : aE) (σ : Sg) (i : Nat) : ∀ (fs : List (Bool ⊕ Option Nat)) (k0 : Nat), (cL E σ i k0 fs).length = fs.length
  | [], _ => rfl
  | f :: fs, k0 => by simp [cL, cL_len E σ i fs (k0 + 1)]
theorem cM_at (E : aE) (σ : Sg) : ∀ (Γ : List aC) (i0 i : Nat), (cM E σ i0 Γ)[i]? = (Γ[i]?).map (fun c => (E.1 + (i0 + i), cE E σ (i0 + i) c))
  | [], _, _ => by simp [cM]
  | c :: cs, i0, 0 => by simp [cM]
  | c :: cs, i0, i + 1 => by
    rw [show cM E σ i0 (c :: cs) = (E.1 + i0, cE E σ i0 c) :: cM E σ (i0 + 1) cs from rfl, List.getElem?_cons_succ, List.getElem?_cons_succ, cM_at E σ cs (i0 + 1) i, show i0 + 1 + i = i0 + (i + 1) by omega]
theorem cW_at {E : aE} {σ : Sg} {Γ : List aC} {i : Nat} {c : aC} (h : Γ[i]? = some c) : (cW E Γ σ)[i]? = some (E.1 + i, cE E σ i c) := by
  rw [cM_at, h, Nat.zero_add]; rfl
theorem cW_of {E : aE} {σ : Sg} {Γ : List aC} {i : Nat} {q : Nat × va_E} (h : (cW E Γ σ)[i]? = some q) : ∃ c, Γ[i]? = some c ∧ q = (E.1 + i, cE E σ i c) := by
  rw [cM_at, Nat.zero_add] at h
  cases hc : Γ[i]? with
  | none => rw [hc] at h; cases h
  | some c => rw [hc] at h; exact ⟨c, rfl, (Option.some.inj h).symm⟩
theorem cE_congr {E : aE} {σ σ' : Sg} {i : Nat} (h1 : σ'.1 i = σ.1 i) (h2 : σ'.2 i = σ.2 i) (c : aC) : cE E σ' i c = cE E σ i c := by
  have hL : ∀ (ks : List (Bool ⊕ Option Nat)) (k : Nat), cL E σ' i k ks = cL E σ i k ks := by
    intro ks
    induction ks with
    | nil => intro k; rfl
    | cons f fs ih =>
      intro k
      simp only [cL]
      rw [ih]
      congr 1
      rcases f with b | r
      · cases b
        · simp only [cF]; rw [h1]
        · simp only [cF]; rw [h2]
      · cases r <;> rfl
  rcases c with ⟨ty, n, rs⟩ | ⟨ci, ks⟩
  · simp only [cE]
    congr 2
    cases ty <;> simp only [cA] <;> first | rw [h1] | rw [h2] | rfl
  · simp only [cE]
    rw [hL]
/-- one cell's contents change -/
theorem cW_set {E : aE} {σ σ' : Sg} {Γ : List aC} {i : Nat} {c : aC} {e : va_E} (hΓ : Γ[i]? = some c) (he : cE E σ' i c = e) (h1 : ∀ j, j ≠ i → σ'.1 j = σ.1 j) (h2 : ∀ j, j ≠ i → σ'.2 j = σ.2 j) : (cW E Γ σ).set i (E.1 + i, e) = cW E Γ σ' := by
  apply List.ext_getElem?
  intro j
  by_cases hj : j = i
  · subst hj
    rw [List.getElem?_set_self (List.getElem?_eq_some_iff.mp (cW_at (E := E) (σ := σ) hΓ)).1, cW_at hΓ, he]
  · rw [List.getElem?_set_ne (Ne.symm hj), cM_at, cM_at, Nat.zero_add]
    cases Γ[j]? with
    | none => rfl
    | some c' => simp only [Option.map_some]; rw [cE_congr (h1 j hj) (h2 j hj)]
def aA (E : aE) : Nat → Prop := fun q => E.1 ≤ q
theorem cW_D {E : aE} {σ : Sg} {Γ : List aC} : va_D (aA E) (cW E Γ σ) := by
  refine ⟨fun i j p q hp hq hpq => ?_, fun k q hq => ?_⟩
  · obtain ⟨_, -, rfl⟩ := cW_of hp
    obtain ⟨_, -, rfl⟩ := cW_of hq
    simp only at hpq
    omega
  · obtain ⟨_, -, rfl⟩ := cW_of hq
    exact Nat.le_add_right _ _
/-! the words that hold all along -/
def lG : List Cond := lw_tbl.filter goodWord
theorem inG {w : Cond} (h : w ∈ lw_tbl) (hg : goodWord w = true) : w ∈ lG := List.mem_filter.mpr ⟨h, hg⟩
theorem goodG {w : Cond} (h : w ∈ lG) : (w.onTables && w.keeps) = true ∨ ∃ ty, w = .arrayClass ty := good_of_word (List.mem_filter.mp h).2
theorem goodIn_G {c : Cond} (hc : c ∈ lG) : GoodIn lG (c :: lG) := fun w hw => by
  rcases List.mem_cons.mp hw with rfl | h
  · exact ⟨hc, goodG hc⟩
  · exact ⟨h, goodG h⟩
/-! what a method's start gives: classes, nest links, static rows, the script -/
def nestL : List (String × Nat × MethodName) := [
  ("CoachmenFace", 9, yX7_init), ("CoachmenFace", 18, yX8_init), ("CoachmenFace", 25, yX9_init), ("CoachmenFace", 90, yX10_init), ("CoachmenFace", 93, yX0_init),
  ("CoachmenFace$Land", 34, yX11_within), ("CoachmenFace$LawReader", 84, yX11_within), ("CoachmenFace$Law", 66, yX11_within), ("CoachmenFace$Dinners", 82, yX11_within), ("CoachmenFace$Bodies", 26, yX11_within)]
def stL : List (String × String × List Int32) := [
  ("CoachmenFace$Land", "LEAST", [0, 0, 1, 0, 0, 0, 0, -3, 0]),
  ("CoachmenFace$Land", "MOST", [255, 7, 4, 9, 255, 9, 5, 3, 99]),
  ("CoachmenFace$Coach", "RIGHT", [0, 1, 1, 1, 0, -1, -1, -1]),
  ("CoachmenFace$Coach", "DOWN", [-1, -1, 0, 1, 1, 1, 0, -1]),
  ("CoachmenFace$Boxes", "BEYOND", [0, -1, 1]),
  ("CoachmenFace$Bodies", "OWN", [1, 10, 11, 2, 20, 0, 0, 0, 0, 30, 0, 0, 0, 41, 40, 0, 0, 0, 0, 50, 0, 0, 60, 61, 70, 0, 0, 0, 81, 80, 0, 0]),
  ("CoachmenFace$Bodies", "ABOVE", [-1, 0, 0, 2, 1, 3, 0, 6]),
  ("CoachmenFaceModel", "ORDER", [0, -1, 1])]
/-- the outside rows: 0 the script, then the static ones: length, contents -/
def exN (sx : Nat × (Nat → Int32)) (j : Nat) : Nat := match j with
  | 0 => sx.1
  | j + 1 => match stL[j]? with
    | some q => q.2.2.length
    | none => 0
def exV (sx : Nat × (Nat → Int32)) (j : Nat) : Nat → Int32 := match j with
  | 0 => sx.2
  | j + 1 => match stL[j]? with
    | some q => fun i => q.2.2.getD i 0
    | none => fun _ => 0
def tyL (E : aE) : List (ClassId × FieldType) := [(E.2.2.2 .int, .int), (E.2.2.2 .long, .long), (E.2.2.2 .byte, .byte), (E.2.2.2 .short, .short), (E.2.2.2 (.object "CoachmenFace$Coach"), .object "CoachmenFace$Coach"), (E.2.2.2 (.object "CoachmenFace$Shelf"), .object "CoachmenFace$Shelf")]
def En (E : aE) (sx : Nat × (Nat → Int32)) (U : State) (H : Heap) : Prop :=
  va_K E.2.2.1 vwCl (tyL E) U ∧ (∀ q ∈ nestL, va_Nw (.methodLinkNest q.1 q.2.1 q.2.2 "CoachmenFace") U) ∧ (va_AO "CoachmenFace$Coach" U ∧ va_AO "CoachmenFace$Shelf" U) ∧
  (∀ (j : Nat) (q : String × String × List Int32), stL[j]? = some q → va_Z q.1 q.2.1 "[I" (.ref (E.2.1 (j + 1))) (aA E) U H) ∧ ∀ j : Nat, j < 9 → va_T .int (E.2.1 j) (exN sx j) (fun i => .int (exV sx j i)) (aA E) U H
theorem En.moved {E : aE} {sx : Nat × (Nat → Int32)} {s U : State} {H H1 : Heap} (h : En E sx s H) (hW : s.WarmedH U.vm) (hq : ∀ a : Nat, a < H.size → ¬ aA E a → H1[a]? = H[a]?) : En E sx U H1 :=
  ⟨h.1.moved hW.alike, fun q hm => va_Nw.warmM hW (h.2.1 q hm), ⟨h.2.2.1.1.moved hW.alike, h.2.2.1.2.moved hW.alike⟩, fun j q hj => ((h.2.2.2.1 j q hj).moved hW.alike).kept hq, fun j hj => ((h.2.2.2.2 j hj).moved hW.alike).kept hq⟩
theorem En.same {E : aE} {sx : Nat × (Nat → Int32)} {s U : State} {H : Heap} (h : En E sx s H) (hv : s.vm = U.vm) : En E sx U H :=
  ⟨h.1.moved (hv ▸ Vm.Alike.refl _), fun q hm => (h.2.1 q hm).same rfl hv, ⟨h.2.2.1.1.moved (hv ▸ Vm.Alike.refl _), h.2.2.1.2.moved (hv ▸ Vm.Alike.refl _)⟩, fun j q hj => (h.2.2.2.1 j q hj).moved (hv ▸ Vm.Alike.refl _), fun j hj => (h.2.2.2.2 j hj).moved (hv ▸ Vm.Alike.refl _)⟩
/-! locals by their places -/
def prL (E : aE) : Nat → List (Option Value) → List (Nat × Value)
  | _, [] => []
  | i, none :: L => prL E (i + 1) L
  | i, some v :: L => (i, cv E v) :: prL E (i + 1) L
theorem prL_in (E : aE) : ∀ (L : List (Option Value)) (i0 : Nat) (q : Nat × Value), q ∈ prL E i0 L ↔ ∃ (i : Nat) (v : Value), L[i]? = some (some v) ∧ q = (i0 + i, cv E v)
  | [], i0, q => by simp [prL]
  | none :: L, i0, q => by
    rw [show prL E i0 (none :: L) = prL E (i0 + 1) L from rfl, prL_in E L (i0 + 1) q]
    constructor
    · rintro ⟨i, v, h, e⟩
      exact ⟨i + 1, v, by simpa using h, by rw [e, show i0 + 1 + i = i0 + (i + 1) by omega]⟩
    · rintro ⟨i, v, h, e⟩
      cases i with
      | zero => simp at h
      | succ i => exact ⟨i, v, by simpa using h, by rw [e, show i0 + 1 + i = i0 + (i + 1) by omega]⟩
  | some w :: L, i0, q => by
    rw [show prL E i0 (some w :: L) = (i0, cv E w) :: prL E (i0 + 1) L from rfl, List.mem_cons, prL_in E L (i0 + 1) q]
    constructor
    · rintro (e | ⟨i, v, h, e⟩)
      · exact ⟨0, w, by simp, by simpa using e⟩
      · exact ⟨i + 1, v, by simpa using h, by rw [e, show i0 + 1 + i = i0 + (i + 1) by omega]⟩
    · rintro ⟨i, v, h, e⟩
      cases i with
      | zero =>
        left
        have hv : w = v := by simpa using h
        rw [e, hv]; rfl
      | succ i => exact Or.inr ⟨i, v, by simpa using h, by rw [e, show i0 + 1 + i = i0 + (i + 1) by omega]⟩
def LH (E : aE) (ls : Array Slot) (nL : Nat) (L : List (Option Value)) : Prop := lv_has ls nL (prL E 0 L)
theorem LH.at {E : aE} {ls : Array Slot} {nL : Nat} {L : List (Option Value)} (h : LH E ls nL L) {i : Nat} {v : Value} (hi : L[i]? = some (some v)) : ls[i]? = some (.val (cv E v)) :=
  h.2.2 (i, cv E v) ((prL_in E L 0 _).mpr ⟨i, v, hi, by rw [Nat.zero_add]⟩)
theorem LH.sub {E : aE} {ls : Array Slot} {nL : Nat} {L L' : List (Option Value)} (h : LH E ls nL L) (hs : ∀ (i : Nat) (v : Value), L'[i]? = some (some v) → L[i]? = some (some v)) : LH E ls nL L' :=
  ⟨h.1, h.2.1, fun q hq => by
    obtain ⟨i, v, h1, rfl⟩ := (prL_in E L' 0 q).mp hq
    exact h.2.2 _ ((prL_in E L 0 _).mpr ⟨i, v, hs i v h1, rfl⟩)⟩
def isL (v : Value) : Bool := match v with
  | .long _ => true
  | .double _ => true
  | _ => false
theorem isL_cat (E : aE) (v : Value) : ((cv E v).category == 2) = isL v := by cases v <;> rfl
def clrO (o : Option Value) : Option Value := match o with
  | none => none
  | some w => bif isL w then none else some w
/-- the place behind which something is stored holds no long any more -/
def clr : List (Option Value) → Nat → List (Option Value)
  | [], _ => []
  | o :: L, 0 => o :: L
  | o :: L, 1 => clrO o :: L
  | o :: L, i + 2 => o :: clr L (i + 1)
theorem clr_at : ∀ (L : List (Option Value)) (i j : Nat) (v : Value), (clr L i)[j]? = some (some v) → L[j]? = some (some v) ∧ ¬ (j + 1 = i ∧ isL v = true)
  | [], i, j, v, h => by simp [clr] at h
  | o :: L, 0, j, v, h => ⟨h, by omega⟩
  | o :: L, 1, 0, v, h => by
    simp only [clr, List.getElem?_cons_zero, Option.some.injEq] at h
    cases o with
    | none => simp [clrO] at h
    | some w =>
      cases hw : isL w <;> simp [clrO, hw] at h
      subst h
      exact ⟨rfl, by simp [hw]⟩
  | o :: L, 1, j + 1, v, h => ⟨by simpa [clr] using h, by omega⟩
  | o :: L, i + 2, 0, v, h => ⟨by simpa [clr] using h, by omega⟩
  | o :: L, i + 2, j + 1, v, h => by
    have h' : (clr L (i + 1))[j]? = some (some v) := by simpa [clr] using h
    obtain ⟨h1, h2⟩ := clr_at L (i + 1) j v h'
    exact ⟨by simpa using h1, fun q => h2 ⟨by omega, q.2⟩⟩
def sto1 (L : List (Option Value)) (i : Nat) (v : Value) : List (Option Value) := (clr L i).set i (some v)
def sto2 (L : List (Option Value)) (i : Nat) (v : Value) : List (Option Value) := ((clr L i).set i (some v)).set (i + 1) none
theorem LH.s1 {E : aE} {ls' : Array Slot} {nL : Nat} {L : List (Option Value)} {i : Nat} {v : Value} (h : lv_has ls' nL ((i, cv E v) :: (prL E 0 L).filter (fun q => !(q.1 == i) && !(q.1 + 1 == i && q.2.category == 2)))) : LH E ls' nL (sto1 L i v) := by
  refine ⟨h.1, h.2.1, fun q hq => h.2.2 q ?_⟩
  obtain ⟨j, w, h1, rfl⟩ := (prL_in E _ 0 q).mp hq
  rw [Nat.zero_add]
  unfold sto1 at h1
  by_cases hj : j = i
  · subst hj
    by_cases hl : j < (clr L j).length
    · rw [List.getElem?_set_self hl] at h1
      have e : v = w := by simpa using h1
      rw [e]; exact List.mem_cons_self
    · rw [List.getElem?_eq_none (by simpa using hl)] at h1
      cases h1
  · rw [List.getElem?_set_ne (Ne.symm hj)] at h1
    obtain ⟨h2, h3⟩ := clr_at L i j w h1
    refine List.mem_cons_of_mem _ (List.mem_filter.mpr ⟨(prL_in E L 0 _).mpr ⟨j, w, h2, by rw [Nat.zero_add]⟩, ?_⟩)
    simp only [isL_cat]
    by_cases hji : j + 1 = i
    · have : isL w = false := by
        cases hw : isL w
        · rfl
        · exact absurd ⟨hji, hw⟩ h3
      simp [hj, this]
    · simp [hj, hji]
theorem LH.s2 {E : aE} {ls' : Array Slot} {nL : Nat} {L : List (Option Value)} {i : Nat} {v : Value} (h : lv_has ls' nL ((i, cv E v) :: (prL E 0 L).filter (fun q => !(q.1 == i) && (!(q.1 == i + 1) && !(q.1 + 1 == i && q.2.category == 2))))) : LH E ls' nL (sto2 L i v) := by
  refine ⟨h.1, h.2.1, fun q hq => h.2.2 q ?_⟩
  obtain ⟨j, w, h1, rfl⟩ := (prL_in E _ 0 q).mp hq
  rw [Nat.zero_add]
  unfold sto2 at h1
  by_cases hj1 : j = i + 1
  · subst hj1
    by_cases hl : i + 1 < ((clr L i).set i (some v)).length
    · rw [List.getElem?_set_self hl] at h1
      simp at h1
    · rw [List.getElem?_eq_none (by simpa using hl)] at h1
      cases h1
  rw [List.getElem?_set_ne (Ne.symm hj1)] at h1
  by_cases hj : j = i
  · subst hj
    by_cases hl : j < (clr L j).length
    · rw [List.getElem?_set_self hl] at h1
      have e : v = w := by simpa using h1
      rw [e]; exact List.mem_cons_self
    · rw [List.getElem?_eq_none (by simpa using hl)] at h1
      cases h1
  · rw [List.getElem?_set_ne (Ne.symm hj)] at h1
    obtain ⟨h2, h3⟩ := clr_at L i j w h1
    refine List.mem_cons_of_mem _ (List.mem_filter.mpr ⟨(prL_in E L 0 _).mpr ⟨j, w, h2, by rw [Nat.zero_add]⟩, ?_⟩)
    simp only [isL_cat]
    by_cases hji : j + 1 = i
    · have : isL w = false := by
        cases hw : isL w
        · rfl
        · exact absurd ⟨hji, hw⟩ h3
      simp [hj, hj1, this]
    · simp [hj, hj1, hji]

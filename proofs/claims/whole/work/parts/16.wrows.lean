/-! MODELS: a method as a function of the store; its answer, or none where a number leaves the ints, an index its array, or a loop its measure -/
def ck (P : Prop) [Decidable P] {α : Type} (m : Option α) : Option α := if P then m else none
def lb {α β : Type} (x : α) (f : α → β) : β := f x
abbrev inb (n : Nat) (i : Int) : Prop := 0 ≤ i ∧ i < (n : Int)
def sq {α β : Type} (m : Option (β × SS)) (k : β → SS → Option (α × SS)) : Option (α × SS) := match m with
  | some (x, s) => k x s
  | none => none
def sr {α β : Type} (m : Option ((α ⊕ β) × SS)) (k : β → SS → Option (α × SS)) : Option (α × SS) := match m with
  | some (.inl a, s) => some (a, s)
  | some (.inr x, s) => k x s
  | none => none
def srr {α β γ : Type} (m : Option ((α ⊕ β) × SS)) (k : β → SS → Option ((α ⊕ γ) × SS)) : Option ((α ⊕ γ) × SS) := match m with
  | some (.inl a, s) => some (.inl a, s)
  | some (.inr x, s) => k x s
  | none => none
def sx {α β : Type} (m : Option ((β ⊕ String) × SS)) (k : β → SS → Option ((α ⊕ String) × SS)) : Option ((α ⊕ String) × SS) := match m with
  | some (.inl x, s) => k x s
  | some (.inr E, s) => some (.inr E, s)
  | none => none
def bo (x y : Int) : Int := (iv x ||| iv y).toInt
def bs (x y : Int) : Int := (iv x <<< (iv y &&& 31)).toInt
def bh (x y : Int) : Int := (iv x >>> (iv y &&& 31)).toInt
def gS2 {α β : Type} (G : α → Prop) (G1 : β → Prop) : α ⊕ β → Prop
  | .inl a => G a
  | .inr b => G1 b
def cS2 {α β : Type} (C : α → List MC → Nat → Nat → Prop) (D : β → List MC → Nat → Nat → Prop) : α ⊕ β → List MC → Nat → Nat → Prop
  | .inl a => C a
  | .inr b => D b
def cJ (g : MG) (sc : MS) (M : MM) (d w : Nat) (Q : MO → List MC → Prop) {β : Type} (J : Nat) (lv : β → ML) (st : β → List MV) : β → List MC → Nat → Nat → Prop := fun b h mc ms => Ev g sc M d w J (lv b) (st b) h mc ms Q
/-- the answer of a method: a number, nothing, a place, or what it throws -/
def cI1 (Q : MO → List MC → Prop) : Int → List MC → Nat → Nat → Prop := fun a h _ _ => Q (.inl (some (iI a))) h
def cU1 (Q : MO → List MC → Prop) : Unit → List MC → Nat → Nat → Prop := fun _ h _ _ => Q (.inl none) h
def cP1 (Q : MO → List MC → Prop) : Nat → List MC → Nat → Nat → Prop := fun a h _ _ => Q (.inl (some (mr a))) h
def cE1 (Q : MO → List MC → Prop) : String → List MC → Nat → Nat → Prop := fun E h _ _ => Q (.inr E) h
def gU : Unit → Prop := fun _ => True
def gE : String → Prop := fun _ => True
/-- the judgement: what the model answers, the code does; what is made is what the store's count says -/
def Ew (g : MG) (sc : MS) (M : MM) (d w : Nat) (Q : MO → List MC → Prop) {α : Type} (G : α → Prop) (C : α → List MC → Nat → Nat → Prop) (pc : Nat) (lv : ML) (st : List MV) (h : List MC) (σ : SS) (m : Option (α × SS)) : Prop :=
  ∀ (a : α) (σ' : SS), m = some (a, σ') → (∃ h', Wd h' σ') ∧ K σ ≤ K σ' ∧ G a ∧ ∀ mc ms : Nat, (∀ h', Wd h' σ' → C a h' mc ms) → Ev g sc M d w pc lv st h (K σ' - K σ + mc) (K σ' - K σ + ms) Q
/-- a method's contract by its model -/
def Cw (g : MG) (N : MM) (F L : Nat) (av : List MV) {α : Type} (G : α → Prop) (C : (MO → List MC → Prop) → α → List MC → Nat → Nat → Prop) (h : List MC) (σ : SS) (m : Option (α × SS)) : Prop :=
  ∀ (a : α) (σ' : SS), m = some (a, σ') → (∃ h', Wd h' σ') ∧ K σ ≤ K σ' ∧ G a ∧ ∀ (d w : Nat) (Q : MO → List MC → Prop), F ≤ d → L ≤ w → (∀ h', Wd h' σ' → C Q a h' 0 0) → Ev g none N d w 0 (m_args 0 av) [] h (K σ' - K σ) (K σ' - K σ) Q
theorem w_step {g : MG} {sc : MS} {M : MM} {d w : Nat} {Q : MO → List MC → Prop} {α : Type} {G : α → Prop} {C : α → List MC → Nat → Nat → Prop} {pc : Nat} {lv : ML} {st : List MV} {h : List MC} {σ : SS} {m : Option (α × SS)} {pc2 : Nat} {lv2 : ML} {st2 : List MV} (hs : ∀ mc ms, Ev g sc M d w pc2 lv2 st2 h mc ms Q → Ev g sc M d w pc lv st h mc ms Q) (k : Ew g sc M d w Q G C pc2 lv2 st2 h σ m) : Ew g sc M d w Q G C pc lv st h σ m := by
  intro a σ' hm
  obtain ⟨k0, k1, k2, k3⟩ := k a σ' hm
  exact ⟨k0, k1, k2, fun mc ms hc => hs _ _ (k3 mc ms hc)⟩
theorem w_of {g : MG} {N : MM} {F L : Nat} {av : List MV} {α : Type} {G : α → Prop} {C : (MO → List MC → Prop) → α → List MC → Nat → Nat → Prop} {h : List MC} {σ : SS} {m : Option (α × SS)} (k : ∀ (d w : Nat) (Q : MO → List MC → Prop), F ≤ d → L ≤ w → Ew g none N d w Q G (C Q) 0 (m_args 0 av) [] h σ m) : Cw g N F L av G C h σ m := by
  intro a σ' hm
  obtain ⟨k0, k1, k2, -⟩ := k F L (fun _ _ => True) (Nat.le_refl _) (Nat.le_refl _) a σ' hm
  exact ⟨k0, k1, k2, fun d w Q hF hL hQ => (k d w Q hF hL a σ' hm).2.2.2 0 0 hQ⟩
theorem w_ck {g : MG} {sc : MS} {M : MM} {d w : Nat} {Q : MO → List MC → Prop} {α : Type} {G : α → Prop} {C : α → List MC → Nat → Nat → Prop} {pc : Nat} {lv : ML} {st : List MV} {h : List MC} {σ : SS} {m : Option (α × SS)} {P : Prop} [Decidable P] (k : P → Ew g sc M d w Q G C pc lv st h σ m) : Ew g sc M d w Q G C pc lv st h σ (ck P m) := by
  intro a σ' hm
  unfold ck at hm
  split at hm
  · rename_i hP
    exact k hP a σ' hm
  · cases hm
theorem w_top {g : MG} {sc : MS} {M : MM} {d w : Nat} {Q : MO → List MC → Prop} {α : Type} {G : α → Prop} {C : α → List MC → Nat → Nat → Prop} {pc : Nat} {lv : ML} {st : List MV} {h : List MC} {σ : SS}  {x : Int} {m : Int → Option (α × SS)} (k : ∀ y : Int, y = x → Ew g sc M d w Q G C pc lv (iI y :: st) h σ (m y)) : Ew g sc M d w Q G C pc lv (iI x :: st) h σ (lb x m) := k x rfl
theorem w_iconst {g : MG} {sc : MS} {M : MM} {d w : Nat} {Q : MO → List MC → Prop} {α : Type} {G : α → Prop} {C : α → List MC → Nat → Nat → Prop} {pc : Nat} {lv : ML} {st : List MV} {h : List MC} {σ : SS} {m : Option (α × SS)} {v : Int} (hd : decode M.2.1 pc = .ok (.iconst v, 1)) (k : Ew g sc M d w Q G C (pc + 1) lv (iI v :: st) h σ m) : Ew g sc M d w Q G C pc lv st h σ m := w_step (fun _ _ => e_iconst hd rfl) k
theorem w_bipush {g : MG} {sc : MS} {M : MM} {d w : Nat} {Q : MO → List MC → Prop} {α : Type} {G : α → Prop} {C : α → List MC → Nat → Nat → Prop} {pc : Nat} {lv : ML} {st : List MV} {h : List MC} {σ : SS} {m : Option (α × SS)} {v : Int} (hd : decode M.2.1 pc = .ok (.bipush v, 2)) (hv : (Int8.ofInt v).toInt32 = iv v) (k : Ew g sc M d w Q G C (pc + 2) lv (iI v :: st) h σ m) : Ew g sc M d w Q G C pc lv st h σ m := w_step (fun _ _ => e_bipush hd hv) k
theorem w_sipush {g : MG} {sc : MS} {M : MM} {d w : Nat} {Q : MO → List MC → Prop} {α : Type} {G : α → Prop} {C : α → List MC → Nat → Nat → Prop} {pc : Nat} {lv : ML} {st : List MV} {h : List MC} {σ : SS} {m : Option (α × SS)} {v : Int} (hd : decode M.2.1 pc = .ok (.sipush v, 3)) (hv : (Int16.ofInt v).toInt32 = iv v) (k : Ew g sc M d w Q G C (pc + 3) lv (iI v :: st) h σ m) : Ew g sc M d w Q G C pc lv st h σ m := w_step (fun _ _ => e_sipush hd hv) k
theorem w_ldc {g : MG} {sc : MS} {M : MM} {d w : Nat} {Q : MO → List MC → Prop} {α : Type} {G : α → Prop} {C : α → List MC → Nat → Nat → Prop} {pc : Nat} {lv : ML} {st : List MV} {h : List MC} {σ : SS} {m : Option (α × SS)} {i : Nat} {x : Int32} (v : Int) (hd : decode M.2.1 pc = .ok (.ldc i, 2)) (hw : Cond.constant M.1.cls i x ∈ m_Ts) (hv : x = iv v) (k : Ew g sc M d w Q G C (pc + 2) lv (iI v :: st) h σ m) : Ew g sc M d w Q G C pc lv st h σ m := w_step (fun _ _ => e_ldc hd (hv ▸ hw)) k
theorem w_iload_n {g : MG} {sc : MS} {M : MM} {d w : Nat} {Q : MO → List MC → Prop} {α : Type} {G : α → Prop} {C : α → List MC → Nat → Nat → Prop} {pc : Nat} {lv : ML} {st : List MV} {h : List MC} {σ : SS} {m : Option (α × SS)} {k9 : Fin 4} {i : Nat} {x : Int} (hd : decode M.2.1 pc = .ok (.iload_n k9, 1)) (hi : (k9 : Nat) = i) (hg : m_get lv i = some (iI x)) (k : Ew g sc M d w Q G C (pc + 1) lv (iI x :: st) h σ m) : Ew g sc M d w Q G C pc lv st h σ m := w_step (fun _ _ => e_iload_n hd hi hg) k
theorem w_iload {g : MG} {sc : MS} {M : MM} {d w : Nat} {Q : MO → List MC → Prop} {α : Type} {G : α → Prop} {C : α → List MC → Nat → Nat → Prop} {pc : Nat} {lv : ML} {st : List MV} {h : List MC} {σ : SS} {m : Option (α × SS)} {i : Nat} {x : Int} (hd : decode M.2.1 pc = .ok (.iload i, 2)) (hg : m_get lv i = some (iI x)) (k : Ew g sc M d w Q G C (pc + 2) lv (iI x :: st) h σ m) : Ew g sc M d w Q G C pc lv st h σ m := w_step (fun _ _ => e_iload hd hg) k
theorem w_aload_n {g : MG} {sc : MS} {M : MM} {d w : Nat} {Q : MO → List MC → Prop} {α : Type} {G : α → Prop} {C : α → List MC → Nat → Nat → Prop} {pc : Nat} {lv : ML} {st : List MV} {h : List MC} {σ : SS} {m : Option (α × SS)} {k9 : Fin 4} {i r : Nat} (hd : decode M.2.1 pc = .ok (.aload_n k9, 1)) (hi : (k9 : Nat) = i) (hg : m_get lv i = some (mr r)) (k : Ew g sc M d w Q G C (pc + 1) lv (mr r :: st) h σ m) : Ew g sc M d w Q G C pc lv st h σ m := w_step (fun _ _ => e_aload_n hd hi hg) k
theorem w_aload {g : MG} {sc : MS} {M : MM} {d w : Nat} {Q : MO → List MC → Prop} {α : Type} {G : α → Prop} {C : α → List MC → Nat → Nat → Prop} {pc : Nat} {lv : ML} {st : List MV} {h : List MC} {σ : SS} {m : Option (α × SS)} {i r : Nat} (hd : decode M.2.1 pc = .ok (.aload i, 2)) (hg : m_get lv i = some (mr r)) (k : Ew g sc M d w Q G C (pc + 2) lv (mr r :: st) h σ m) : Ew g sc M d w Q G C pc lv st h σ m := w_step (fun _ _ => e_aload hd hg) k
theorem w_istore_n {g : MG} {sc : MS} {M : MM} {d w : Nat} {Q : MO → List MC → Prop} {α : Type} {G : α → Prop} {C : α → List MC → Nat → Nat → Prop} {pc : Nat} {lv : ML} {st : List MV} {h : List MC} {σ : SS} {m : Option (α × SS)} {k9 : Fin 4} {i : Nat} {x : Int} (lv2 : ML) (hd : decode M.2.1 pc = .ok (.istore_n k9, 1)) (hi : (k9 : Nat) = i) (hn : i < M.2.2.1) (hlv2 : m_put lv i (iI x) = lv2) (k : Ew g sc M d w Q G C (pc + 1) lv2 st h σ m) : Ew g sc M d w Q G C pc lv (iI x :: st) h σ m := w_step (fun _ _ => e_istore_n hd hi hn hlv2) k
theorem w_istore {g : MG} {sc : MS} {M : MM} {d w : Nat} {Q : MO → List MC → Prop} {α : Type} {G : α → Prop} {C : α → List MC → Nat → Nat → Prop} {pc : Nat} {lv : ML} {st : List MV} {h : List MC} {σ : SS} {m : Option (α × SS)} {i : Nat} {x : Int} (lv2 : ML) (hd : decode M.2.1 pc = .ok (.istore i, 2)) (hn : i < M.2.2.1) (hlv2 : m_put lv i (iI x) = lv2) (k : Ew g sc M d w Q G C (pc + 2) lv2 st h σ m) : Ew g sc M d w Q G C pc lv (iI x :: st) h σ m := w_step (fun _ _ => e_istore hd hn hlv2) k
theorem w_astore_n {g : MG} {sc : MS} {M : MM} {d w : Nat} {Q : MO → List MC → Prop} {α : Type} {G : α → Prop} {C : α → List MC → Nat → Nat → Prop} {pc : Nat} {lv : ML} {st : List MV} {h : List MC} {σ : SS} {m : Option (α × SS)} {k9 : Fin 4} {i r : Nat} (lv2 : ML) (hd : decode M.2.1 pc = .ok (.astore_n k9, 1)) (hi : (k9 : Nat) = i) (hn : i < M.2.2.1) (hlv2 : m_put lv i (mr r) = lv2) (k : Ew g sc M d w Q G C (pc + 1) lv2 st h σ m) : Ew g sc M d w Q G C pc lv (mr r :: st) h σ m := w_step (fun _ _ => e_astore_n hd hi hn hlv2) k
theorem w_astore {g : MG} {sc : MS} {M : MM} {d w : Nat} {Q : MO → List MC → Prop} {α : Type} {G : α → Prop} {C : α → List MC → Nat → Nat → Prop} {pc : Nat} {lv : ML} {st : List MV} {h : List MC} {σ : SS} {m : Option (α × SS)} {i r : Nat} (lv2 : ML) (hd : decode M.2.1 pc = .ok (.astore i, 2)) (hn : i < M.2.2.1) (hlv2 : m_put lv i (mr r) = lv2) (k : Ew g sc M d w Q G C (pc + 2) lv2 st h σ m) : Ew g sc M d w Q G C pc lv (mr r :: st) h σ m := w_step (fun _ _ => e_astore hd hn hlv2) k
theorem w_iinc {g : MG} {sc : MS} {M : MM} {d w : Nat} {Q : MO → List MC → Prop} {α : Type} {G : α → Prop} {C : α → List MC → Nat → Nat → Prop} {pc : Nat} {lv : ML} {st : List MV} {h : List MC} {σ : SS} {m : Option (α × SS)} {i : Nat} {n x : Int} (lv2 : ML) (hd : decode M.2.1 pc = .ok (.iinc i n, 3)) (hg : m_get lv i = some (iI x)) (hn : i < M.2.2.1) (hlv2 : m_put lv i (iI (x + n)) = lv2) (k : rng (x + n) → Ew g sc M d w Q G C (pc + 3) lv2 st h σ m) : Ew g sc M d w Q G C pc lv st h σ (ck (rng (x + n)) m) := w_ck (fun c => w_step (fun _ _ => z_iinc hd hg hn hlv2) (k c))
theorem w_iadd {g : MG} {sc : MS} {M : MM} {d w : Nat} {Q : MO → List MC → Prop} {α : Type} {G : α → Prop} {C : α → List MC → Nat → Nat → Prop} {pc : Nat} {lv : ML} {st : List MV} {h : List MC} {σ : SS} {m : Option (α × SS)} {x y : Int} (hd : decode M.2.1 pc = .ok (.iadd, 1)) (k : rng (x + y) → Ew g sc M d w Q G C (pc + 1) lv (iI (x + y) :: st) h σ m) : Ew g sc M d w Q G C pc lv (iI y :: iI x :: st) h σ (ck (rng (x + y)) m) := w_ck (fun c => w_step (fun _ _ => z_iadd hd) (k c))
theorem w_isub {g : MG} {sc : MS} {M : MM} {d w : Nat} {Q : MO → List MC → Prop} {α : Type} {G : α → Prop} {C : α → List MC → Nat → Nat → Prop} {pc : Nat} {lv : ML} {st : List MV} {h : List MC} {σ : SS} {m : Option (α × SS)} {x y : Int} (hd : decode M.2.1 pc = .ok (.isub, 1)) (k : rng (x - y) → Ew g sc M d w Q G C (pc + 1) lv (iI (x - y) :: st) h σ m) : Ew g sc M d w Q G C pc lv (iI y :: iI x :: st) h σ (ck (rng (x - y)) m) := w_ck (fun c => w_step (fun _ _ => z_isub hd) (k c))
theorem w_imul {g : MG} {sc : MS} {M : MM} {d w : Nat} {Q : MO → List MC → Prop} {α : Type} {G : α → Prop} {C : α → List MC → Nat → Nat → Prop} {pc : Nat} {lv : ML} {st : List MV} {h : List MC} {σ : SS} {m : Option (α × SS)} {x y : Int} (hd : decode M.2.1 pc = .ok (.imul, 1)) (k : rng (x * y) → Ew g sc M d w Q G C (pc + 1) lv (iI (x * y) :: st) h σ m) : Ew g sc M d w Q G C pc lv (iI y :: iI x :: st) h σ (ck (rng (x * y)) m) := w_ck (fun c => w_step (fun _ _ => z_imul hd) (k c))
theorem w_and3 {g : MG} {sc : MS} {M : MM} {d w : Nat} {Q : MO → List MC → Prop} {α : Type} {G : α → Prop} {C : α → List MC → Nat → Nat → Prop} {pc : Nat} {lv : ML} {st : List MV} {h : List MC} {σ : SS} {m : Option (α × SS)} {x : Int} (hd : decode M.2.1 pc = .ok (.iand, 1)) (k : Ew g sc M d w Q G C (pc + 1) lv (iI (x % 4) :: st) h σ m) : Ew g sc M d w Q G C pc lv (iI 3 :: iI x :: st) h σ m := w_step (fun _ _ => z_and3 hd) k
theorem w_shr2 {g : MG} {sc : MS} {M : MM} {d w : Nat} {Q : MO → List MC → Prop} {α : Type} {G : α → Prop} {C : α → List MC → Nat → Nat → Prop} {pc : Nat} {lv : ML} {st : List MV} {h : List MC} {σ : SS} {m : Option (α × SS)} {x : Int} (hd : decode M.2.1 pc = .ok (.ishr, 1)) (hx : rng x) (k : Ew g sc M d w Q G C (pc + 1) lv (iI (x / 4) :: st) h σ m) : Ew g sc M d w Q G C pc lv (iI 2 :: iI x :: st) h σ m := w_step (fun _ _ => z_shr2 hd hx) k
theorem w_ior {g : MG} {sc : MS} {M : MM} {d w : Nat} {Q : MO → List MC → Prop} {α : Type} {G : α → Prop} {C : α → List MC → Nat → Nat → Prop} {pc : Nat} {lv : ML} {st : List MV} {h : List MC} {σ : SS} {m : Option (α × SS)} {x y : Int} (hd : decode M.2.1 pc = .ok (.ior, 1)) (k : Ew g sc M d w Q G C (pc + 1) lv (iI (bo x y) :: st) h σ m) : Ew g sc M d w Q G C pc lv (iI y :: iI x :: st) h σ m := w_step (fun _ _ q => e_ior hd (by rw [iv_of (iv x ||| iv y)]; exact q)) k
theorem w_ishl {g : MG} {sc : MS} {M : MM} {d w : Nat} {Q : MO → List MC → Prop} {α : Type} {G : α → Prop} {C : α → List MC → Nat → Nat → Prop} {pc : Nat} {lv : ML} {st : List MV} {h : List MC} {σ : SS} {m : Option (α × SS)} {x y : Int} (hd : decode M.2.1 pc = .ok (.ishl, 1)) (k : Ew g sc M d w Q G C (pc + 1) lv (iI (bs x y) :: st) h σ m) : Ew g sc M d w Q G C pc lv (iI y :: iI x :: st) h σ m := w_step (fun _ _ q => e_ishl hd (by rw [iv_of (iv x <<< (iv y &&& 31))]; exact q)) k
theorem w_ishr {g : MG} {sc : MS} {M : MM} {d w : Nat} {Q : MO → List MC → Prop} {α : Type} {G : α → Prop} {C : α → List MC → Nat → Nat → Prop} {pc : Nat} {lv : ML} {st : List MV} {h : List MC} {σ : SS} {m : Option (α × SS)} {x y : Int} (hd : decode M.2.1 pc = .ok (.ishr, 1)) (k : Ew g sc M d w Q G C (pc + 1) lv (iI (bh x y) :: st) h σ m) : Ew g sc M d w Q G C pc lv (iI y :: iI x :: st) h σ m := w_step (fun _ _ q => e_ishr hd (by rw [iv_of (iv x >>> (iv y &&& 31))]; exact q)) k
theorem bo_rng (x y : Int) : rng (bo x y) := iv_rng _
theorem bs_rng (x y : Int) : rng (bs x y) := iv_rng _
theorem bh_rng (x y : Int) : rng (bh x y) := iv_rng _
theorem w_dup {g : MG} {sc : MS} {M : MM} {d w : Nat} {Q : MO → List MC → Prop} {α : Type} {G : α → Prop} {C : α → List MC → Nat → Nat → Prop} {pc : Nat} {lv : ML} {st : List MV} {h : List MC} {σ : SS} {m : Option (α × SS)} {v : MV} (hd : decode M.2.1 pc = .ok (.dup, 1)) (hc : m_cat v = 1) (k : Ew g sc M d w Q G C (pc + 1) lv (v :: v :: st) h σ m) : Ew g sc M d w Q G C pc lv (v :: st) h σ m := w_step (fun _ _ => e_dup hd hc) k
theorem w_pop {g : MG} {sc : MS} {M : MM} {d w : Nat} {Q : MO → List MC → Prop} {α : Type} {G : α → Prop} {C : α → List MC → Nat → Nat → Prop} {pc : Nat} {lv : ML} {st : List MV} {h : List MC} {σ : SS} {m : Option (α × SS)} {v : MV} (hd : decode M.2.1 pc = .ok (.pop, 1)) (hc : m_cat v = 1) (k : Ew g sc M d w Q G C (pc + 1) lv st h σ m) : Ew g sc M d w Q G C pc lv (v :: st) h σ m := w_step (fun _ _ => e_pop hd hc) k
theorem w_dup2 {g : MG} {sc : MS} {M : MM} {d w : Nat} {Q : MO → List MC → Prop} {α : Type} {G : α → Prop} {C : α → List MC → Nat → Nat → Prop} {pc : Nat} {lv : ML} {st : List MV} {h : List MC} {σ : SS} {m : Option (α × SS)} {v y9 : MV} (hd : decode M.2.1 pc = .ok (.dup2, 1)) (hc : m_cat v = 1) (hc2 : m_cat y9 = 1) (k : Ew g sc M d w Q G C (pc + 1) lv (v :: y9 :: v :: y9 :: st) h σ m) : Ew g sc M d w Q G C pc lv (v :: y9 :: st) h σ m := w_step (fun _ _ => e_dup2 hd hc hc2) k
theorem w_goto {g : MG} {sc : MS} {M : MM} {d w : Nat} {Q : MO → List MC → Prop} {α : Type} {G : α → Prop} {C : α → List MC → Nat → Nat → Prop} {pc : Nat} {lv : ML} {st : List MV} {h : List MC} {σ : SS} {m : Option (α × SS)} {off : Int} (tgt : Nat) (hd : decode M.2.1 pc = .ok (.goto off, 3)) (ht : (pc : Int) + off = (tgt : Int)) (k : Ew g sc M d w Q G C tgt lv st h σ m) : Ew g sc M d w Q G C pc lv st h σ m := w_step (fun _ _ => e_goto hd ht) k
theorem w_both {g : MG} {sc : MS} {M : MM} {d w : Nat} {Q : MO → List MC → Prop} {α : Type} {G : α → Prop} {C : α → List MC → Nat → Nat → Prop} {pc : Nat} {lv : ML} {st : List MV} {h : List MC} {σ : SS}  {P : Prop} [Decidable P] {m1 m2 : Option (α × SS)} (k1 : P → Ew g sc M d w Q G C pc lv st h σ m1) (k2 : ¬ P → Ew g sc M d w Q G C pc lv st h σ m2) : Ew g sc M d w Q G C pc lv st h σ (if P then m1 else m2) := by
  by_cases c : P
  · rw [if_pos c]; exact k1 c
  · rw [if_neg c]; exact k2 c
theorem w_if_eq {g : MG} {sc : MS} {M : MM} {d w : Nat} {Q : MO → List MC → Prop} {α : Type} {G : α → Prop} {C : α → List MC → Nat → Nat → Prop} {pc : Nat} {lv : ML} {st : List MV} {h : List MC} {σ : SS} {m1 m2 : Option (α × SS)} {x off : Int} (tgt : Nat) (hd : decode M.2.1 pc = .ok (.ifCond .eq off, 3)) (ht : (pc : Int) + off = (tgt : Int)) (hx : rng x) (k1 : x = 0 → Ew g sc M d w Q G C tgt lv st h σ m1) (k2 : ¬ (x = 0) → Ew g sc M d w Q G C (pc + 3) lv st h σ m2) : Ew g sc M d w Q G C pc lv (iI x :: st) h σ (if x = 0 then m1 else m2) := by
  refine w_both (fun c => w_step (fun _ _ q => z_if_eq hd ht hx ?_ ?_) (k1 c)) (fun c => w_step (fun _ _ q => z_if_eq hd ht hx ?_ ?_) (k2 c))
  all_goals first | exact fun _ => q | (intro e; exact absurd e c) | (intro e; exact absurd c e) | (intro e; exact absurd e (by omega))
theorem w_icmp_eq {g : MG} {sc : MS} {M : MM} {d w : Nat} {Q : MO → List MC → Prop} {α : Type} {G : α → Prop} {C : α → List MC → Nat → Nat → Prop} {pc : Nat} {lv : ML} {st : List MV} {h : List MC} {σ : SS} {m1 m2 : Option (α × SS)} {x y off : Int} (tgt : Nat) (hd : decode M.2.1 pc = .ok (.if_icmp .eq off, 3)) (ht : (pc : Int) + off = (tgt : Int)) (hx : rng x) (hy : rng y) (k1 : x = y → Ew g sc M d w Q G C tgt lv st h σ m1) (k2 : ¬ (x = y) → Ew g sc M d w Q G C (pc + 3) lv st h σ m2) : Ew g sc M d w Q G C pc lv (iI y :: iI x :: st) h σ (if x = y then m1 else m2) := by
  refine w_both (fun c => w_step (fun _ _ q => z_icmp_eq hd ht hx hy ?_ ?_) (k1 c)) (fun c => w_step (fun _ _ q => z_icmp_eq hd ht hx hy ?_ ?_) (k2 c))
  all_goals first | exact fun _ => q | (intro e; exact absurd e c) | (intro e; exact absurd c e) | (intro e; exact absurd e (by omega))
theorem w_if_ne {g : MG} {sc : MS} {M : MM} {d w : Nat} {Q : MO → List MC → Prop} {α : Type} {G : α → Prop} {C : α → List MC → Nat → Nat → Prop} {pc : Nat} {lv : ML} {st : List MV} {h : List MC} {σ : SS} {m1 m2 : Option (α × SS)} {x off : Int} (tgt : Nat) (hd : decode M.2.1 pc = .ok (.ifCond .ne off, 3)) (ht : (pc : Int) + off = (tgt : Int)) (hx : rng x) (k1 : x = 0 → Ew g sc M d w Q G C (pc + 3) lv st h σ m1) (k2 : ¬ (x = 0) → Ew g sc M d w Q G C tgt lv st h σ m2) : Ew g sc M d w Q G C pc lv (iI x :: st) h σ (if x = 0 then m1 else m2) := by
  refine w_both (fun c => w_step (fun _ _ q => z_if_ne hd ht hx ?_ ?_) (k1 c)) (fun c => w_step (fun _ _ q => z_if_ne hd ht hx ?_ ?_) (k2 c))
  all_goals first | exact fun _ => q | (intro e; exact absurd e c) | (intro e; exact absurd c e) | (intro e; exact absurd e (by omega))
theorem w_icmp_ne {g : MG} {sc : MS} {M : MM} {d w : Nat} {Q : MO → List MC → Prop} {α : Type} {G : α → Prop} {C : α → List MC → Nat → Nat → Prop} {pc : Nat} {lv : ML} {st : List MV} {h : List MC} {σ : SS} {m1 m2 : Option (α × SS)} {x y off : Int} (tgt : Nat) (hd : decode M.2.1 pc = .ok (.if_icmp .ne off, 3)) (ht : (pc : Int) + off = (tgt : Int)) (hx : rng x) (hy : rng y) (k1 : x = y → Ew g sc M d w Q G C (pc + 3) lv st h σ m1) (k2 : ¬ (x = y) → Ew g sc M d w Q G C tgt lv st h σ m2) : Ew g sc M d w Q G C pc lv (iI y :: iI x :: st) h σ (if x = y then m1 else m2) := by
  refine w_both (fun c => w_step (fun _ _ q => z_icmp_ne hd ht hx hy ?_ ?_) (k1 c)) (fun c => w_step (fun _ _ q => z_icmp_ne hd ht hx hy ?_ ?_) (k2 c))
  all_goals first | exact fun _ => q | (intro e; exact absurd e c) | (intro e; exact absurd c e) | (intro e; exact absurd e (by omega))
theorem w_if_lt {g : MG} {sc : MS} {M : MM} {d w : Nat} {Q : MO → List MC → Prop} {α : Type} {G : α → Prop} {C : α → List MC → Nat → Nat → Prop} {pc : Nat} {lv : ML} {st : List MV} {h : List MC} {σ : SS} {m1 m2 : Option (α × SS)} {x off : Int} (tgt : Nat) (hd : decode M.2.1 pc = .ok (.ifCond .lt off, 3)) (ht : (pc : Int) + off = (tgt : Int)) (hx : rng x) (k1 : x < 0 → Ew g sc M d w Q G C tgt lv st h σ m1) (k2 : ¬ x < 0 → Ew g sc M d w Q G C (pc + 3) lv st h σ m2) : Ew g sc M d w Q G C pc lv (iI x :: st) h σ (if x < 0 then m1 else m2) := by
  refine w_both (fun c => w_step (fun _ _ q => z_if_lt hd ht hx ?_ ?_) (k1 c)) (fun c => w_step (fun _ _ q => z_if_lt hd ht hx ?_ ?_) (k2 c))
  all_goals first | exact fun _ => q | (intro e; exact absurd e c) | (intro e; exact absurd c e) | (intro e; exact absurd e (by omega))
theorem w_icmp_lt {g : MG} {sc : MS} {M : MM} {d w : Nat} {Q : MO → List MC → Prop} {α : Type} {G : α → Prop} {C : α → List MC → Nat → Nat → Prop} {pc : Nat} {lv : ML} {st : List MV} {h : List MC} {σ : SS} {m1 m2 : Option (α × SS)} {x y off : Int} (tgt : Nat) (hd : decode M.2.1 pc = .ok (.if_icmp .lt off, 3)) (ht : (pc : Int) + off = (tgt : Int)) (hx : rng x) (hy : rng y) (k1 : x < y → Ew g sc M d w Q G C tgt lv st h σ m1) (k2 : ¬ x < y → Ew g sc M d w Q G C (pc + 3) lv st h σ m2) : Ew g sc M d w Q G C pc lv (iI y :: iI x :: st) h σ (if x < y then m1 else m2) := by
  refine w_both (fun c => w_step (fun _ _ q => z_icmp_lt hd ht hx hy ?_ ?_) (k1 c)) (fun c => w_step (fun _ _ q => z_icmp_lt hd ht hx hy ?_ ?_) (k2 c))
  all_goals first | exact fun _ => q | (intro e; exact absurd e c) | (intro e; exact absurd c e) | (intro e; exact absurd e (by omega))
theorem w_if_ge {g : MG} {sc : MS} {M : MM} {d w : Nat} {Q : MO → List MC → Prop} {α : Type} {G : α → Prop} {C : α → List MC → Nat → Nat → Prop} {pc : Nat} {lv : ML} {st : List MV} {h : List MC} {σ : SS} {m1 m2 : Option (α × SS)} {x off : Int} (tgt : Nat) (hd : decode M.2.1 pc = .ok (.ifCond .ge off, 3)) (ht : (pc : Int) + off = (tgt : Int)) (hx : rng x) (k1 : x < 0 → Ew g sc M d w Q G C (pc + 3) lv st h σ m1) (k2 : ¬ x < 0 → Ew g sc M d w Q G C tgt lv st h σ m2) : Ew g sc M d w Q G C pc lv (iI x :: st) h σ (if x < 0 then m1 else m2) := by
  refine w_both (fun c => w_step (fun _ _ q => z_if_ge hd ht hx ?_ ?_) (k1 c)) (fun c => w_step (fun _ _ q => z_if_ge hd ht hx ?_ ?_) (k2 c))
  all_goals first | exact fun _ => q | (intro e; exact absurd e c) | (intro e; exact absurd c e) | (intro e; exact absurd e (by omega))
theorem w_icmp_ge {g : MG} {sc : MS} {M : MM} {d w : Nat} {Q : MO → List MC → Prop} {α : Type} {G : α → Prop} {C : α → List MC → Nat → Nat → Prop} {pc : Nat} {lv : ML} {st : List MV} {h : List MC} {σ : SS} {m1 m2 : Option (α × SS)} {x y off : Int} (tgt : Nat) (hd : decode M.2.1 pc = .ok (.if_icmp .ge off, 3)) (ht : (pc : Int) + off = (tgt : Int)) (hx : rng x) (hy : rng y) (k1 : x < y → Ew g sc M d w Q G C (pc + 3) lv st h σ m1) (k2 : ¬ x < y → Ew g sc M d w Q G C tgt lv st h σ m2) : Ew g sc M d w Q G C pc lv (iI y :: iI x :: st) h σ (if x < y then m1 else m2) := by
  refine w_both (fun c => w_step (fun _ _ q => z_icmp_ge hd ht hx hy ?_ ?_) (k1 c)) (fun c => w_step (fun _ _ q => z_icmp_ge hd ht hx hy ?_ ?_) (k2 c))
  all_goals first | exact fun _ => q | (intro e; exact absurd e c) | (intro e; exact absurd c e) | (intro e; exact absurd e (by omega))
theorem w_if_gt {g : MG} {sc : MS} {M : MM} {d w : Nat} {Q : MO → List MC → Prop} {α : Type} {G : α → Prop} {C : α → List MC → Nat → Nat → Prop} {pc : Nat} {lv : ML} {st : List MV} {h : List MC} {σ : SS} {m1 m2 : Option (α × SS)} {x off : Int} (tgt : Nat) (hd : decode M.2.1 pc = .ok (.ifCond .gt off, 3)) (ht : (pc : Int) + off = (tgt : Int)) (hx : rng x) (k1 : 0 < x → Ew g sc M d w Q G C tgt lv st h σ m1) (k2 : ¬ 0 < x → Ew g sc M d w Q G C (pc + 3) lv st h σ m2) : Ew g sc M d w Q G C pc lv (iI x :: st) h σ (if 0 < x then m1 else m2) := by
  refine w_both (fun c => w_step (fun _ _ q => z_if_gt hd ht hx ?_ ?_) (k1 c)) (fun c => w_step (fun _ _ q => z_if_gt hd ht hx ?_ ?_) (k2 c))
  all_goals first | exact fun _ => q | (intro e; exact absurd e c) | (intro e; exact absurd c e) | (intro e; exact absurd e (by omega))
theorem w_icmp_gt {g : MG} {sc : MS} {M : MM} {d w : Nat} {Q : MO → List MC → Prop} {α : Type} {G : α → Prop} {C : α → List MC → Nat → Nat → Prop} {pc : Nat} {lv : ML} {st : List MV} {h : List MC} {σ : SS} {m1 m2 : Option (α × SS)} {x y off : Int} (tgt : Nat) (hd : decode M.2.1 pc = .ok (.if_icmp .gt off, 3)) (ht : (pc : Int) + off = (tgt : Int)) (hx : rng x) (hy : rng y) (k1 : y < x → Ew g sc M d w Q G C tgt lv st h σ m1) (k2 : ¬ y < x → Ew g sc M d w Q G C (pc + 3) lv st h σ m2) : Ew g sc M d w Q G C pc lv (iI y :: iI x :: st) h σ (if y < x then m1 else m2) := by
  refine w_both (fun c => w_step (fun _ _ q => z_icmp_gt hd ht hx hy ?_ ?_) (k1 c)) (fun c => w_step (fun _ _ q => z_icmp_gt hd ht hx hy ?_ ?_) (k2 c))
  all_goals first | exact fun _ => q | (intro e; exact absurd e c) | (intro e; exact absurd c e) | (intro e; exact absurd e (by omega))
theorem w_if_le {g : MG} {sc : MS} {M : MM} {d w : Nat} {Q : MO → List MC → Prop} {α : Type} {G : α → Prop} {C : α → List MC → Nat → Nat → Prop} {pc : Nat} {lv : ML} {st : List MV} {h : List MC} {σ : SS} {m1 m2 : Option (α × SS)} {x off : Int} (tgt : Nat) (hd : decode M.2.1 pc = .ok (.ifCond .le off, 3)) (ht : (pc : Int) + off = (tgt : Int)) (hx : rng x) (k1 : 0 < x → Ew g sc M d w Q G C (pc + 3) lv st h σ m1) (k2 : ¬ 0 < x → Ew g sc M d w Q G C tgt lv st h σ m2) : Ew g sc M d w Q G C pc lv (iI x :: st) h σ (if 0 < x then m1 else m2) := by
  refine w_both (fun c => w_step (fun _ _ q => z_if_le hd ht hx ?_ ?_) (k1 c)) (fun c => w_step (fun _ _ q => z_if_le hd ht hx ?_ ?_) (k2 c))
  all_goals first | exact fun _ => q | (intro e; exact absurd e c) | (intro e; exact absurd c e) | (intro e; exact absurd e (by omega))
theorem w_icmp_le {g : MG} {sc : MS} {M : MM} {d w : Nat} {Q : MO → List MC → Prop} {α : Type} {G : α → Prop} {C : α → List MC → Nat → Nat → Prop} {pc : Nat} {lv : ML} {st : List MV} {h : List MC} {σ : SS} {m1 m2 : Option (α × SS)} {x y off : Int} (tgt : Nat) (hd : decode M.2.1 pc = .ok (.if_icmp .le off, 3)) (ht : (pc : Int) + off = (tgt : Int)) (hx : rng x) (hy : rng y) (k1 : y < x → Ew g sc M d w Q G C (pc + 3) lv st h σ m1) (k2 : ¬ y < x → Ew g sc M d w Q G C tgt lv st h σ m2) : Ew g sc M d w Q G C pc lv (iI y :: iI x :: st) h σ (if y < x then m1 else m2) := by
  refine w_both (fun c => w_step (fun _ _ q => z_icmp_le hd ht hx hy ?_ ?_) (k1 c)) (fun c => w_step (fun _ _ q => z_icmp_le hd ht hx hy ?_ ?_) (k2 c))
  all_goals first | exact fun _ => q | (intro e; exact absurd e c) | (intro e; exact absurd c e) | (intro e; exact absurd e (by omega))
theorem w_gi {g : MG} {sc : MS} {M : MM} {d w : Nat} {Q : MO → List MC → Prop} {α : Type} {G : α → Prop} {C : α → List MC → Nat → Nat → Prop} {pc : Nat} {lv : ML} {st : List MV} {h : List MC} {σ : SS} {m : Option (α × SS)} {i ci k p : Nat} (hd : decode M.2.1 pc = .ok (.getfield i, 3)) (hf : m_fl M.1.cls i ci k) (hW : Wd h σ) (hp : oi p ci k) (kk : Ew g sc M d w Q G C (pc + 3) lv (iI (σ.1 p k) :: st) h σ m) : Ew g sc M d w Q G C pc lv (mr p :: st) h σ m := by
  obtain ⟨-, a, b, c, hg, hR⟩ := hW
  obtain ⟨l, h1, h2⟩ := hp a b c (σ.1 1 99).toNat (σ.1 51 99).toNat hg
  exact w_step (fun _ _ => z_gi hd hf hR h1 h2) kk
theorem w_gr {g : MG} {sc : MS} {M : MM} {d w : Nat} {Q : MO → List MC → Prop} {α : Type} {G : α → Prop} {C : α → List MC → Nat → Nat → Prop} {pc : Nat} {lv : ML} {st : List MV} {h : List MC} {σ : SS} {m : Option (α × SS)} {i ci k p r : Nat} (hd : decode M.2.1 pc = .ok (.getfield i, 3)) (hf : m_fl M.1.cls i ci k) (hW : Wd h σ) (hp : orf p ci k r) (kk : Ew g sc M d w Q G C (pc + 3) lv (mr r :: st) h σ m) : Ew g sc M d w Q G C pc lv (mr p :: st) h σ m := by
  obtain ⟨-, a, b, c, hg, hR⟩ := hW
  obtain ⟨l, h1, h2⟩ := hp a b c (σ.1 1 99).toNat (σ.1 51 99).toNat hg
  exact w_step (fun _ _ => z_gr hd hf hR h1 h2) kk
theorem sF_g {σ : SS} {p k : Nat} {v : Int} (hk : k ≠ 99) (a : Nat) : (sF σ p k v).1 a 99 = σ.1 a 99 := sF_other (fun z => hk z.2.symm)
theorem sF_K {σ : SS} {p k : Nat} {v : Int} (hk : k ≠ 99) : K (sF σ p k v) = K σ := by unfold K; rw [sF_g hk, sF_g hk, sF_g hk]
theorem sA_K {σ : SS} {p : Nat} {i v : Int} : K (sA σ p i v) = K σ := rfl
/-- the heap changes, the store too, what was made stays: a step -/
theorem w_stepS {g : MG} {sc : MS} {M : MM} {d w : Nat} {Q : MO → List MC → Prop} {α : Type} {G : α → Prop} {C : α → List MC → Nat → Nat → Prop} {pc : Nat} {lv : ML} {st : List MV} {h : List MC} {σ : SS}  {τ : SS} {pc2 : Nat} {lv2 : ML} {st2 : List MV} {m : SS → Option (α × SS)} (hK : K τ = K σ) (hs : ∀ mc ms, (∀ h1, Wd h1 τ → Ev g sc M d w pc2 lv2 st2 h1 mc ms Q) → Ev g sc M d w pc lv st h mc ms Q) (hE : ∃ h1, Wd h1 τ) (k : ∀ (h1 : List MC) (σ1 : SS), σ1 = τ → Wd h1 σ1 → Ew g sc M d w Q G C pc2 lv2 st2 h1 σ1 (m σ1)) : Ew g sc M d w Q G C pc lv st h σ (lb τ m) := by
  intro a σ' hm
  obtain ⟨h0, hW0⟩ := hE
  obtain ⟨k0, k1, k2, -⟩ := k h0 τ rfl hW0 a σ' hm
  rw [hK] at k1
  refine ⟨k0, k1, k2, fun mc ms hc => hs _ _ (fun h1 hW1 => ?_)⟩
  have h9 := (k h1 τ rfl hW1 a σ' hm).2.2.2 mc ms hc
  rw [hK] at h9
  exact h9
theorem Wd.setF {h : List MC} {σ : SS} {p k ci : Nat} {v : Int} (hW : Wd h σ) (hp : oi p ci k) (hk : k ≠ 99) (hv : rng v) : ∃ h1, Wd h1 (sF σ p k v) := by
  obtain ⟨hn, a, b, c, hg, hR⟩ := hW
  obtain ⟨l, h1, h2⟩ := hp a b c (σ.1 1 99).toNat (σ.1 51 99).toNat hg
  have h9 := hR.setF (k := k) h1 hv
  rw [← sF_g (σ := σ) (p := p) (v := v) hk 1, ← sF_g (σ := σ) (p := p) (v := v) hk 51] at h9
  exact ⟨_, by rw [sF_g hk, sF_g hk, sF_g hk]; exact hn, a, b, c, hg, h9⟩
theorem w_pi {g : MG} {sc : MS} {M : MM} {d w : Nat} {Q : MO → List MC → Prop} {α : Type} {G : α → Prop} {C : α → List MC → Nat → Nat → Prop} {pc : Nat} {lv : ML} {st : List MV} {h : List MC} {σ : SS}  {i ci k p : Nat} {v : Int} {m : SS → Option (α × SS)} (hd : decode M.2.1 pc = .ok (.putfield i, 3)) (hf : m_fp M.1.cls i ci k .int false) (hW : Wd h σ) (hp : oi p ci k) (hk : k ≠ 99) (hv : rng v) (kk : ∀ (h1 : List MC) (σ1 : SS), σ1 = sF σ p k v → Wd h1 σ1 → Ew g sc M d w Q G C (pc + 3) lv st h1 σ1 (m σ1)) : Ew g sc M d w Q G C pc lv (iI v :: mr p :: st) h σ (lb (sF σ p k v) m) := by
  refine w_stepS (sF_K hk) ?_ (hW.setF hp hk hv) kk
  intro mc ms q
  obtain ⟨hn, a, b, c, hg, hR⟩ := hW
  obtain ⟨l, h1, h2⟩ := hp a b c (σ.1 1 99).toNat (σ.1 51 99).toNat hg
  refine z_pi hd hf hR h1 h2 hv (fun h9 hR9 => q h9 ⟨by rw [sF_g hk, sF_g hk, sF_g hk]; exact hn, a, b, c, hg, ?_⟩)
  rw [sF_g hk, sF_g hk]
  exact hR9
theorem w_ald {g : MG} {sc : MS} {M : MM} {d w : Nat} {Q : MO → List MC → Prop} {α : Type} {G : α → Prop} {C : α → List MC → Nat → Nat → Prop} {pc : Nat} {lv : ML} {st : List MV} {h : List MC} {σ : SS} {m : Option (α × SS)} {p n : Nat} {i : Int} (hd : decode M.2.1 pc = .ok (.iaload, 1)) (hW : Wd h σ) (hp : ia p n) (kk : inb n i → Ew g sc M d w Q G C (pc + 1) lv (iI (σ.2.1 p i) :: st) h σ m) : Ew g sc M d w Q G C pc lv (iI i :: mr p :: st) h σ (ck (inb n i) m) := by
  obtain ⟨-, a, b, c, hg, hR⟩ := hW
  exact w_ck (fun q => w_step (fun _ _ => z_ald hd hR (hp.2 a b c _ _ hg) q.1 q.2 hp.1) (kk q))
theorem w_bld {g : MG} {sc : MS} {M : MM} {d w : Nat} {Q : MO → List MC → Prop} {α : Type} {G : α → Prop} {C : α → List MC → Nat → Nat → Prop} {pc : Nat} {lv : ML} {st : List MV} {h : List MC} {σ : SS} {m : Option (α × SS)} {p n : Nat} {i : Int} (hd : decode M.2.1 pc = .ok (.baload, 1)) (hW : Wd h σ) (hp : za p n) (kk : inb n i → Ew g sc M d w Q G C (pc + 1) lv (iI (σ.2.1 p i) :: st) h σ m) : Ew g sc M d w Q G C pc lv (iI i :: mr p :: st) h σ (ck (inb n i) m) := by
  obtain ⟨-, a, b, c, hg, hR⟩ := hW
  exact w_ck (fun q => w_step (fun _ _ => z_bld hd hR (hp.2 a b c _ _ hg) q.1 q.2 hp.1) (kk q))
theorem Wd.setA {h : List MC} {σ : SS} {p n : Nat} {i v : Int} (hW : Wd h σ) (hp : ia p n) (hv : rng v) : ∃ h1, Wd h1 (sA σ p i v) := by
  obtain ⟨hn, a, b, c, hg, hR⟩ := hW
  exact ⟨_, hn, a, b, c, hg, hR.setA (i := i) (hp.2 a b c _ _ hg) hv⟩
theorem Wd.setZ {h : List MC} {σ : SS} {p n : Nat} {i v : Int} (hW : Wd h σ) (hp : za p n) (hv : rng v) : ∃ h1, Wd h1 (sA σ p i v) := by
  obtain ⟨hn, a, b, c, hg, hR⟩ := hW
  exact ⟨_, hn, a, b, c, hg, hR.setA (i := i) (hp.2 a b c _ _ hg) hv⟩
theorem w_ast {g : MG} {sc : MS} {M : MM} {d w : Nat} {Q : MO → List MC → Prop} {α : Type} {G : α → Prop} {C : α → List MC → Nat → Nat → Prop} {pc : Nat} {lv : ML} {st : List MV} {h : List MC} {σ : SS}  {p n : Nat} {i v : Int} {m : SS → Option (α × SS)} (hd : decode M.2.1 pc = .ok (.iastore, 1)) (hW : Wd h σ) (hp : ia p n) (hv : rng v) (kk : inb n i → ∀ (h1 : List MC) (σ1 : SS), σ1 = sA σ p i v → Wd h1 σ1 → Ew g sc M d w Q G C (pc + 1) lv st h1 σ1 (m σ1)) : Ew g sc M d w Q G C pc lv (iI v :: iI i :: mr p :: st) h σ (ck (inb n i) (lb (sA σ p i v) m)) := by
  refine w_ck (fun z => w_stepS sA_K ?_ (hW.setA hp hv) (kk z))
  intro mc ms q
  obtain ⟨hn, a, b, c, hg, hR⟩ := hW
  exact z_ast hd hR (hp.2 a b c _ _ hg) z.1 z.2 hp.1 hv (fun h9 hR9 => q h9 ⟨hn, a, b, c, hg, hR9⟩)
theorem w_bst {g : MG} {sc : MS} {M : MM} {d w : Nat} {Q : MO → List MC → Prop} {α : Type} {G : α → Prop} {C : α → List MC → Nat → Nat → Prop} {pc : Nat} {lv : ML} {st : List MV} {h : List MC} {σ : SS}  {p n : Nat} {i v : Int} {m : SS → Option (α × SS)} (hd : decode M.2.1 pc = .ok (.bastore, 1)) (hW : Wd h σ) (hp : za p n) (hv : v = 0 ∨ v = 1) (kk : inb n i → ∀ (h1 : List MC) (σ1 : SS), σ1 = sA σ p i v → Wd h1 σ1 → Ew g sc M d w Q G C (pc + 1) lv st h1 σ1 (m σ1)) : Ew g sc M d w Q G C pc lv (iI v :: iI i :: mr p :: st) h σ (ck (inb n i) (lb (sA σ p i v) m)) := by
  refine w_ck (fun z => w_stepS sA_K ?_ (hW.setZ hp (by omega)) (kk z))
  intro mc ms q
  obtain ⟨hn, a, b, c, hg, hR⟩ := hW
  exact z_bst hd hR (hp.2 a b c _ _ hg) z.1 z.2 hp.1 hv (fun h9 hR9 => q h9 ⟨hn, a, b, c, hg, hR9⟩)
theorem w_len {g : MG} {sc : MS} {M : MM} {d w : Nat} {Q : MO → List MC → Prop} {α : Type} {G : α → Prop} {C : α → List MC → Nat → Nat → Prop} {pc : Nat} {lv : ML} {st : List MV} {h : List MC} {σ : SS} {m : Option (α × SS)} {p n : Nat} (hd : decode M.2.1 pc = .ok (.arraylength, 1)) (hW : Wd h σ) (hp : ia p n) (kk : Ew g sc M d w Q G C (pc + 1) lv (iI (n : Int) :: st) h σ m) : Ew g sc M d w Q G C pc lv (mr p :: st) h σ m := by
  obtain ⟨-, a, b, c, hg, hR⟩ := hW
  exact w_step (fun _ _ => z_len hd hR (hp.2 a b c _ _ hg)) kk
/-! ends: by return, at a join -/
theorem w_iret {g : MG} {sc : MS} {M : MM} {d w : Nat} {Q : MO → List MC → Prop} {α : Type} {G : α → Prop} {C : α → List MC → Nat → Nat → Prop} {pc : Nat} {lv : ML}  {h : List MC} {σ : SS}  {x : Int} {a : α} (hd : decode M.2.1 pc = .ok (.ireturn, 1)) (hret : M.2.2.2.1 = some .int) (hW : Wd h σ) (ha : ∀ h' mc ms, C a h' mc ms → Q (.inl (some (iI x))) h') (hG : G a) : Ew g sc M d w Q G C pc lv [iI x] h σ (some (a, σ)) := by
  intro a9 σ9 hm
  cases hm
  exact ⟨⟨h, hW⟩, Nat.le_refl _, hG, fun mc ms hc => z_iret hd hret (ha _ _ _ (hc h hW))⟩
theorem w_zret {g : MG} {sc : MS} {M : MM} {d w : Nat} {Q : MO → List MC → Prop} {α : Type} {G : α → Prop} {C : α → List MC → Nat → Nat → Prop} {pc : Nat} {lv : ML}  {h : List MC} {σ : SS}  {x : Int} {a : α} (hd : decode M.2.1 pc = .ok (.ireturn, 1)) (hret : M.2.2.2.1 = some .boolean) (hx : x = 0 ∨ x = 1) (hW : Wd h σ) (ha : ∀ h' mc ms, C a h' mc ms → Q (.inl (some (iI x))) h') (hG : G a) : Ew g sc M d w Q G C pc lv [iI x] h σ (some (a, σ)) := by
  intro a9 σ9 hm
  cases hm
  exact ⟨⟨h, hW⟩, Nat.le_refl _, hG, fun mc ms hc => z_zret hd hret hx (ha _ _ _ (hc h hW))⟩
theorem w_ret {g : MG} {sc : MS} {M : MM} {d w : Nat} {Q : MO → List MC → Prop} {α : Type} {G : α → Prop} {C : α → List MC → Nat → Nat → Prop} {pc : Nat} {lv : ML}  {h : List MC} {σ : SS}  {a : α} (hd : decode M.2.1 pc = .ok (.return_, 1)) (hret : M.2.2.2.1 = none) (hW : Wd h σ) (ha : ∀ h' mc ms, C a h' mc ms → Q (.inl none) h') (hG : G a) : Ew g sc M d w Q G C pc lv [] h σ (some (a, σ)) := by
  intro a9 σ9 hm
  cases hm
  exact ⟨⟨h, hW⟩, Nat.le_refl _, hG, fun mc ms hc => e_return hd hret (ha _ _ _ (hc h hW))⟩
theorem w_aret {g : MG} {sc : MS} {M : MM} {d w : Nat} {Q : MO → List MC → Prop} {α : Type} {G : α → Prop} {C : α → List MC → Nat → Nat → Prop} {pc : Nat} {lv : ML}  {h : List MC} {σ : SS}  {r : Nat} {rt : FieldType} {a : α} (hd : decode M.2.1 pc = .ok (.areturn, 1)) (hret : M.2.2.2.1 = some rt) (hrt : (∃ n, rt = .object n) ∨ ∃ t, rt = .array t) (hW : Wd h σ) (ha : ∀ h' mc ms, C a h' mc ms → Q (.inl (some (mr r))) h') (hG : G a) : Ew g sc M d w Q G C pc lv [mr r] h σ (some (a, σ)) := by
  intro a9 σ9 hm
  cases hm
  exact ⟨⟨h, hW⟩, Nat.le_refl _, hG, fun mc ms hc => e_areturn hd hret hrt (ha _ _ _ (hc h hW))⟩
/-- locals may be forgotten -/
def m_sub2 (l : ML) : ML → Prop
  | [] => True
  | q :: r => m_get l q.1 = some q.2 ∧ m_sub2 l r
theorem m_sn (l : ML) : m_sub2 l [] := True.intro
theorem m_sc2 {l r : ML} {i : Nat} {v : MV} (h : m_get l i = some v) (t : m_sub2 l r) : m_sub2 l ((i, v) :: r) := ⟨h, t⟩
theorem Ev.sub {g : MG} {sc : MS} {M : MM} {d w pc : Nat} {lv lv2 : ML} {st : List MV} {h : List MC} {mc ms : Nat} {Q : MO → List MC → Prop} (hs : m_sub2 lv lv2) (k : Ev g sc M d w pc lv2 st h mc ms Q) : Ev g sc M d w pc lv st h mc ms Q := by
  intro p e R s m args below meth c A al0 H locs cells slots CT ST ls ws LV VS hF hSt hsc hR g1 g2 g3 g4 hA hK hP hD hS hW hal hls hlv hst
  have key : ∀ l2 : ML, m_sub2 lv l2 → ∃ LV2, m_ls (m_al ws) sc l2 LV2 ∧ ∀ q ∈ LV2, q ∈ LV := by
    intro l2
    induction l2 with
    | nil => intro _; exact ⟨[], m_ls.nil, fun q hq => by cases hq⟩
    | cons q r ih =>
      intro hq
      obtain ⟨h1, h2⟩ := hq
      obtain ⟨LV2, h3, h4⟩ := ih h2
      obtain ⟨V, h5, h6⟩ := hlv.at (m_get_find h1)
      refine ⟨(q.1, V) :: LV2, m_ls.cons h6 h3, fun z hz => ?_⟩
      rcases List.mem_cons.mp hz with rfl | hz
      · exact h5
      · exact h4 z hz
  obtain ⟨LV2, h1, h2⟩ := key lv2 hs
  exact k p e R s m args below meth c A al0 H locs cells slots CT ST ls ws LV2 VS hF hSt hsc hR g1 g2 g3 g4 hA hK hP hD hS hW hal ⟨hls.1, hls.2.1, fun q hq => hls.2.2 q (h2 q hq)⟩ h1 hst
theorem w_sub {g : MG} {sc : MS} {M : MM} {d w : Nat} {Q : MO → List MC → Prop} {α : Type} {G : α → Prop} {C : α → List MC → Nat → Nat → Prop} {pc : Nat} {lv : ML} {st : List MV} {h : List MC} {σ : SS} {m : Option (α × SS)} {lv2 : ML} (hs : m_sub2 lv lv2) (k : Ew g sc M d w Q G C pc lv2 st h σ m) : Ew g sc M d w Q G C pc lv st h σ m := w_step (fun _ _ => Ev.sub hs) k
theorem w_exit {g : MG} {sc : MS} {M : MM} {d w : Nat} {Q : MO → List MC → Prop} {α : Type} {G : α → Prop} {C : α → List MC → Nat → Nat → Prop} {pc : Nat} {lv : ML} {st : List MV} {h : List MC} {σ : SS}  {a : α} (lv2 : ML) (hs : m_sub2 lv lv2) (hW : Wd h σ) (ha : ∀ h' mc ms, C a h' mc ms → Ev g sc M d w pc lv2 st h' mc ms Q) (hG : G a) : Ew g sc M d w Q G C pc lv st h σ (some (a, σ)) := by
  intro a9 σ9 hm
  cases hm
  refine ⟨⟨h, hW⟩, Nat.le_refl _, hG, fun mc ms hc => Ev.sub hs ?_⟩
  rw [Nat.sub_self, Nat.zero_add, Nat.zero_add]
  exact ha _ _ _ (hc h hW)
/-! one stretch behind another -/
theorem w_sq {g : MG} {sc : MS} {M : MM} {d w : Nat} {Q : MO → List MC → Prop} {α : Type} {G : α → Prop} {C : α → List MC → Nat → Nat → Prop} {pc : Nat} {lv : ML} {st : List MV} {h : List MC} {σ : SS}  {β : Type} {G1 : β → Prop} {J : Nat} {lvJ : β → ML} {stJ : β → List MV} {m1 : Option (β × SS)} {k : β → SS → Option (α × SS)} (h1 : Ew g sc M d w Q G1 (cJ g sc M d w Q J lvJ stJ) pc lv st h σ m1) (h2 : ∀ (x : β) (σ1 : SS) (h1 : List MC), Wd h1 σ1 → G1 x → Ew g sc M d w Q G C J (lvJ x) (stJ x) h1 σ1 (k x σ1)) : Ew g sc M d w Q G C pc lv st h σ (sq m1 k) := by
  intro a σ' hm
  unfold sq at hm
  split at hm
  · rename_i x s
    obtain ⟨⟨h0, hW0⟩, a1, a2, a3⟩ := h1 x s rfl
    obtain ⟨b0, b1, b2, -⟩ := h2 x s h0 hW0 a2 a σ' hm
    refine ⟨b0, Nat.le_trans a1 b1, b2, fun mc ms hc => ?_⟩
    exact Ev.room (by omega) (by omega) (a3 (K σ' - K s + mc) (K σ' - K s + ms) (fun h' hW' => (h2 x s h' hW' a2 a σ' hm).2.2.2 mc ms hc))
  · cases hm
theorem w_sr {g : MG} {sc : MS} {M : MM} {d w : Nat} {Q : MO → List MC → Prop} {α : Type} {G : α → Prop} {C : α → List MC → Nat → Nat → Prop} {pc : Nat} {lv : ML} {st : List MV} {h : List MC} {σ : SS}  {β : Type} {G1 : β → Prop} {J : Nat} {lvJ : β → ML} {stJ : β → List MV} {m1 : Option ((α ⊕ β) × SS)} {k : β → SS → Option (α × SS)} (h1 : Ew g sc M d w Q (gS2 G G1) (cS2 C (cJ g sc M d w Q J lvJ stJ)) pc lv st h σ m1) (h2 : ∀ (x : β) (σ1 : SS) (h1 : List MC), Wd h1 σ1 → G1 x → Ew g sc M d w Q G C J (lvJ x) (stJ x) h1 σ1 (k x σ1)) : Ew g sc M d w Q G C pc lv st h σ (sr m1 k) := by
  intro a σ' hm
  unfold sr at hm
  split at hm
  · rename_i a9 s
    cases hm
    obtain ⟨a0, a1, a2, a3⟩ := h1 _ _ rfl
    exact ⟨a0, a1, a2, a3⟩
  · rename_i x s
    obtain ⟨⟨h0, hW0⟩, a1, a2, a3⟩ := h1 _ _ rfl
    obtain ⟨b0, b1, b2, -⟩ := h2 x s h0 hW0 a2 a σ' hm
    refine ⟨b0, Nat.le_trans a1 b1, b2, fun mc ms hc => ?_⟩
    exact Ev.room (by omega) (by omega) (a3 (K σ' - K s + mc) (K σ' - K s + ms) (fun h' hW' => (h2 x s h' hW' a2 a σ' hm).2.2.2 mc ms hc))
  · cases hm
theorem w_srr {g : MG} {sc : MS} {M : MM} {d w : Nat} {Q : MO → List MC → Prop}  {pc : Nat} {lv : ML} {st : List MV} {h : List MC} {σ : SS}  {α β γ : Type} {G : α → Prop} {C : α → List MC → Nat → Nat → Prop} {G2 : γ → Prop} {D2 : γ → List MC → Nat → Nat → Prop} {G1 : β → Prop} {J : Nat} {lvJ : β → ML} {stJ : β → List MV} {m1 : Option ((α ⊕ β) × SS)} {k : β → SS → Option ((α ⊕ γ) × SS)} (h1 : Ew g sc M d w Q (gS2 G G1) (cS2 C (cJ g sc M d w Q J lvJ stJ)) pc lv st h σ m1) (h2 : ∀ (x : β) (σ1 : SS) (h1 : List MC), Wd h1 σ1 → G1 x → Ew g sc M d w Q (gS2 G G2) (cS2 C D2) J (lvJ x) (stJ x) h1 σ1 (k x σ1)) : Ew g sc M d w Q (gS2 G G2) (cS2 C D2) pc lv st h σ (srr m1 k) := by
  intro a σ' hm
  unfold srr at hm
  split at hm
  · rename_i a9 s
    cases hm
    obtain ⟨a0, a1, a2, a3⟩ := h1 _ _ rfl
    exact ⟨a0, a1, a2, a3⟩
  · rename_i x s
    obtain ⟨⟨h0, hW0⟩, a1, a2, a3⟩ := h1 _ _ rfl
    obtain ⟨b0, b1, b2, -⟩ := h2 x s h0 hW0 a2 a σ' hm
    refine ⟨b0, Nat.le_trans a1 b1, b2, fun mc ms hc => ?_⟩
    exact Ev.room (by omega) (by omega) (a3 (K σ' - K s + mc) (K σ' - K s + ms) (fun h' hW' => (h2 x s h' hW' a2 a σ' hm).2.2.2 mc ms hc))
  · cases hm
theorem w_cSI {g : MG} {sc : MS} {M : MM} {d w : Nat} {Q : MO → List MC → Prop} {α : Type} {G : α → Prop} {C : α → List MC → Nat → Nat → Prop} {pc : Nat} {lv : ML} {st : List MV} {h : List MC} {σ : SS}  {N : MM} {F L : Nat} {G1 : Int → Prop} {m1 : Option (Int × SS)} {k : Int → SS → Option (α × SS)} {i n : Nat} (av st' : List MV) (hd : decode M.2.1 pc = .ok (.invokestatic i, 3)) (hN : m_me N n) (hl : m_lS M.1.cls i N) (hW : Wd h σ) (hC : Cw g N F L (av) G1 cI1 h σ m1) (hst0 : st = av.reverse ++ st') (hn : av.length = n) (hsl : ((av).map m_cat).sum ≤ N.2.2.1) (hns : av.all m_nsc = true) (h8 : (st'.map m_cat).sum ≤ 8) (hd2 : F + 1 ≤ d) (hw2 : 19 + N.2.2.1 + L ≤ w) (kk : ∀ (a : Int) (σ1 : SS) (h1 : List MC), Wd h1 σ1 → G1 a → Ew g sc M d w Q G C (pc + 3) lv (iI a :: st') h1 σ1 (k a σ1)) : Ew g sc M d w Q G C pc lv st h σ (sq m1 k) := by
  intro a9 σ' hm
  unfold sq at hm
  split at hm
  · rename_i a s
    obtain ⟨⟨h0, hW0⟩, a1, a2, a3⟩ := hC a s rfl
    obtain ⟨b0, b1, b2, -⟩ := kk a s h0 hW0 a2 a9 σ' hm
    refine ⟨b0, Nat.le_trans a1 b1, b2, fun mc ms hc => ?_⟩
    refine Ev.room (mc2 := (K s - K σ) + (K σ' - K s + mc)) (ms2 := (K s - K σ) + (K σ' - K s + ms)) (by omega) (by omega) ?_
    refine e_invS (Q9 := fun o h9 => o = .inl (some (iI a)) ∧ Wd h9 s) hd hN hl hst0 hn hsl hns h8 hd2 hw2 (a3 F L _ (Nat.le_refl _) (Nat.le_refl _) (fun h' hW' => ⟨rfl, hW'⟩)) ?_ ?_
    · rintro r h9 ⟨e1, e2⟩
      cases e1
      exact (kk a s h9 e2 a2 a9 σ' hm).2.2.2 mc ms hc
    · rintro E h9 ⟨e1, e2⟩
      cases e1
  · cases hm
theorem w_cSU {g : MG} {sc : MS} {M : MM} {d w : Nat} {Q : MO → List MC → Prop} {α : Type} {G : α → Prop} {C : α → List MC → Nat → Nat → Prop} {pc : Nat} {lv : ML} {st : List MV} {h : List MC} {σ : SS}  {N : MM} {F L : Nat} {G1 : Unit → Prop} {m1 : Option (Unit × SS)} {k : Unit → SS → Option (α × SS)} {i n : Nat} (av st' : List MV) (hd : decode M.2.1 pc = .ok (.invokestatic i, 3)) (hN : m_me N n) (hl : m_lS M.1.cls i N) (hW : Wd h σ) (hC : Cw g N F L (av) G1 cU1 h σ m1) (hst0 : st = av.reverse ++ st') (hn : av.length = n) (hsl : ((av).map m_cat).sum ≤ N.2.2.1) (hns : av.all m_nsc = true) (h8 : (st'.map m_cat).sum ≤ 8) (hd2 : F + 1 ≤ d) (hw2 : 19 + N.2.2.1 + L ≤ w) (kk : ∀ (a : Unit) (σ1 : SS) (h1 : List MC), Wd h1 σ1 → G1 a → Ew g sc M d w Q G C (pc + 3) lv st' h1 σ1 (k a σ1)) : Ew g sc M d w Q G C pc lv st h σ (sq m1 k) := by
  intro a9 σ' hm
  unfold sq at hm
  split at hm
  · rename_i a s
    obtain ⟨⟨h0, hW0⟩, a1, a2, a3⟩ := hC a s rfl
    obtain ⟨b0, b1, b2, -⟩ := kk a s h0 hW0 a2 a9 σ' hm
    refine ⟨b0, Nat.le_trans a1 b1, b2, fun mc ms hc => ?_⟩
    refine Ev.room (mc2 := (K s - K σ) + (K σ' - K s + mc)) (ms2 := (K s - K σ) + (K σ' - K s + ms)) (by omega) (by omega) ?_
    refine e_invS (Q9 := fun o h9 => o = .inl (none) ∧ Wd h9 s) hd hN hl hst0 hn hsl hns h8 hd2 hw2 (a3 F L _ (Nat.le_refl _) (Nat.le_refl _) (fun h' hW' => ⟨rfl, hW'⟩)) ?_ ?_
    · rintro r h9 ⟨e1, e2⟩
      cases e1
      exact (kk a s h9 e2 a2 a9 σ' hm).2.2.2 mc ms hc
    · rintro E h9 ⟨e1, e2⟩
      cases e1
  · cases hm
theorem w_xSU {g : MG} {sc : MS} {M : MM} {d w : Nat} {Q : MO → List MC → Prop}  {pc : Nat} {lv : ML} {st : List MV} {h : List MC} {σ : SS}  {α : Type} {G : α → Prop} {C : α → List MC → Nat → Nat → Prop} {N : MM} {F L : Nat} {G1 : Unit → Prop} {m1 : Option ((Unit ⊕ String) × SS)} {k : Unit → SS → Option ((α ⊕ String) × SS)} {i n : Nat} (av st' : List MV) (hd : decode M.2.1 pc = .ok (.invokestatic i, 3)) (hN : m_me N n) (hl : m_lS M.1.cls i N) (hh : M.2.2.2.2 = []) (hW : Wd h σ) (hC : Cw g N F L (av) (gS2 G1 gE) (fun Q => cS2 (cU1 Q) (cE1 Q)) h σ m1) (hst0 : st = av.reverse ++ st') (hn : av.length = n) (hsl : ((av).map m_cat).sum ≤ N.2.2.1) (hns : av.all m_nsc = true) (h8 : (st'.map m_cat).sum ≤ 8) (hd2 : F + 1 ≤ d) (hw2 : 19 + N.2.2.1 + L ≤ w) (kk : ∀ (a : Unit) (σ1 : SS) (h1 : List MC), Wd h1 σ1 → G1 a → Ew g sc M d w Q (gS2 G gE) (cS2 C (cE1 Q)) (pc + 3) lv st' h1 σ1 (k a σ1)) : Ew g sc M d w Q (gS2 G gE) (cS2 C (cE1 Q)) pc lv st h σ (sx m1 k) := by
  intro a9 σ' hm
  unfold sx at hm
  split at hm
  · rename_i a s
    obtain ⟨⟨h0, hW0⟩, a1, a2, a3⟩ := hC _ _ rfl
    obtain ⟨b0, b1, b2, -⟩ := kk a s h0 hW0 a2 a9 σ' hm
    refine ⟨b0, Nat.le_trans a1 b1, b2, fun mc ms hc => ?_⟩
    refine Ev.room (mc2 := (K s - K σ) + (K σ' - K s + mc)) (ms2 := (K s - K σ) + (K σ' - K s + ms)) (by omega) (by omega) ?_
    refine e_invS (Q9 := fun o h9 => o = .inl (none) ∧ Wd h9 s) hd hN hl hst0 hn hsl hns h8 hd2 hw2 (a3 F L _ (Nat.le_refl _) (Nat.le_refl _) (fun h' hW' => ⟨rfl, hW'⟩)) ?_ ?_
    · rintro r h9 ⟨e1, e2⟩
      cases e1
      exact (kk a s h9 e2 a2 a9 σ' hm).2.2.2 mc ms hc
    · rintro E h9 ⟨e1, e2⟩
      cases e1
  · rename_i E s
    cases hm
    obtain ⟨⟨h0, hW0⟩, a1, a2, a3⟩ := hC _ _ rfl
    refine ⟨⟨h0, hW0⟩, a1, True.intro, fun mc ms hc => ?_⟩
    refine e_invS (Q9 := fun o h9 => o = .inr E ∧ Wd h9 σ') hd hN hl hst0 hn hsl hns h8 hd2 hw2 (a3 F L _ (Nat.le_refl _) (Nat.le_refl _) (fun h' hW' => ⟨rfl, hW'⟩)) ?_ ?_
    · rintro r h9 ⟨e1, e2⟩
      cases e1
    · rintro E9 h9 ⟨e1, e2⟩
      cases e1
      exact x_out hh (hc h9 e2)
  · cases hm
theorem w_cSP {g : MG} {sc : MS} {M : MM} {d w : Nat} {Q : MO → List MC → Prop} {α : Type} {G : α → Prop} {C : α → List MC → Nat → Nat → Prop} {pc : Nat} {lv : ML} {st : List MV} {h : List MC} {σ : SS}  {N : MM} {F L : Nat} {G1 : Nat → Prop} {m1 : Option (Nat × SS)} {k : Nat → SS → Option (α × SS)} {i n : Nat} (av st' : List MV) (hd : decode M.2.1 pc = .ok (.invokestatic i, 3)) (hN : m_me N n) (hl : m_lS M.1.cls i N) (hW : Wd h σ) (hC : Cw g N F L (av) G1 cP1 h σ m1) (hst0 : st = av.reverse ++ st') (hn : av.length = n) (hsl : ((av).map m_cat).sum ≤ N.2.2.1) (hns : av.all m_nsc = true) (h8 : (st'.map m_cat).sum ≤ 8) (hd2 : F + 1 ≤ d) (hw2 : 19 + N.2.2.1 + L ≤ w) (kk : ∀ (a : Nat) (σ1 : SS) (h1 : List MC), Wd h1 σ1 → G1 a → Ew g sc M d w Q G C (pc + 3) lv (mr a :: st') h1 σ1 (k a σ1)) : Ew g sc M d w Q G C pc lv st h σ (sq m1 k) := by
  intro a9 σ' hm
  unfold sq at hm
  split at hm
  · rename_i a s
    obtain ⟨⟨h0, hW0⟩, a1, a2, a3⟩ := hC a s rfl
    obtain ⟨b0, b1, b2, -⟩ := kk a s h0 hW0 a2 a9 σ' hm
    refine ⟨b0, Nat.le_trans a1 b1, b2, fun mc ms hc => ?_⟩
    refine Ev.room (mc2 := (K s - K σ) + (K σ' - K s + mc)) (ms2 := (K s - K σ) + (K σ' - K s + ms)) (by omega) (by omega) ?_
    refine e_invS (Q9 := fun o h9 => o = .inl (some (mr a)) ∧ Wd h9 s) hd hN hl hst0 hn hsl hns h8 hd2 hw2 (a3 F L _ (Nat.le_refl _) (Nat.le_refl _) (fun h' hW' => ⟨rfl, hW'⟩)) ?_ ?_
    · rintro r h9 ⟨e1, e2⟩
      cases e1
      exact (kk a s h9 e2 a2 a9 σ' hm).2.2.2 mc ms hc
    · rintro E h9 ⟨e1, e2⟩
      cases e1
  · cases hm
theorem w_xSP {g : MG} {sc : MS} {M : MM} {d w : Nat} {Q : MO → List MC → Prop}  {pc : Nat} {lv : ML} {st : List MV} {h : List MC} {σ : SS}  {α : Type} {G : α → Prop} {C : α → List MC → Nat → Nat → Prop} {N : MM} {F L : Nat} {G1 : Nat → Prop} {m1 : Option ((Nat ⊕ String) × SS)} {k : Nat → SS → Option ((α ⊕ String) × SS)} {i n : Nat} (av st' : List MV) (hd : decode M.2.1 pc = .ok (.invokestatic i, 3)) (hN : m_me N n) (hl : m_lS M.1.cls i N) (hh : M.2.2.2.2 = []) (hW : Wd h σ) (hC : Cw g N F L (av) (gS2 G1 gE) (fun Q => cS2 (cP1 Q) (cE1 Q)) h σ m1) (hst0 : st = av.reverse ++ st') (hn : av.length = n) (hsl : ((av).map m_cat).sum ≤ N.2.2.1) (hns : av.all m_nsc = true) (h8 : (st'.map m_cat).sum ≤ 8) (hd2 : F + 1 ≤ d) (hw2 : 19 + N.2.2.1 + L ≤ w) (kk : ∀ (a : Nat) (σ1 : SS) (h1 : List MC), Wd h1 σ1 → G1 a → Ew g sc M d w Q (gS2 G gE) (cS2 C (cE1 Q)) (pc + 3) lv (mr a :: st') h1 σ1 (k a σ1)) : Ew g sc M d w Q (gS2 G gE) (cS2 C (cE1 Q)) pc lv st h σ (sx m1 k) := by
  intro a9 σ' hm
  unfold sx at hm
  split at hm
  · rename_i a s
    obtain ⟨⟨h0, hW0⟩, a1, a2, a3⟩ := hC _ _ rfl
    obtain ⟨b0, b1, b2, -⟩ := kk a s h0 hW0 a2 a9 σ' hm
    refine ⟨b0, Nat.le_trans a1 b1, b2, fun mc ms hc => ?_⟩
    refine Ev.room (mc2 := (K s - K σ) + (K σ' - K s + mc)) (ms2 := (K s - K σ) + (K σ' - K s + ms)) (by omega) (by omega) ?_
    refine e_invS (Q9 := fun o h9 => o = .inl (some (mr a)) ∧ Wd h9 s) hd hN hl hst0 hn hsl hns h8 hd2 hw2 (a3 F L _ (Nat.le_refl _) (Nat.le_refl _) (fun h' hW' => ⟨rfl, hW'⟩)) ?_ ?_
    · rintro r h9 ⟨e1, e2⟩
      cases e1
      exact (kk a s h9 e2 a2 a9 σ' hm).2.2.2 mc ms hc
    · rintro E h9 ⟨e1, e2⟩
      cases e1
  · rename_i E s
    cases hm
    obtain ⟨⟨h0, hW0⟩, a1, a2, a3⟩ := hC _ _ rfl
    refine ⟨⟨h0, hW0⟩, a1, True.intro, fun mc ms hc => ?_⟩
    refine e_invS (Q9 := fun o h9 => o = .inr E ∧ Wd h9 σ') hd hN hl hst0 hn hsl hns h8 hd2 hw2 (a3 F L _ (Nat.le_refl _) (Nat.le_refl _) (fun h' hW' => ⟨rfl, hW'⟩)) ?_ ?_
    · rintro r h9 ⟨e1, e2⟩
      cases e1
    · rintro E9 h9 ⟨e1, e2⟩
      cases e1
      exact x_out hh (hc h9 e2)
  · cases hm
theorem w_cVI {g : MG} {sc : MS} {M : MM} {d w : Nat} {Q : MO → List MC → Prop} {α : Type} {G : α → Prop} {C : α → List MC → Nat → Nat → Prop} {pc : Nat} {lv : ML} {st : List MV} {h : List MC} {σ : SS}  {N : MM} {F L : Nat} {G1 : Int → Prop} {m1 : Option (Int × SS)} {k : Int → SS → Option (α × SS)} {i n r ci : Nat} (av st' : List MV) (hd : decode M.2.1 pc = .ok (.invokevirtual i, 3)) (hN : m_me N n) (hl : m_lV M.1.cls i N) (hW : Wd h σ) (hC : Cw g N F L (mr r :: av) G1 cI1 h σ m1) (hst0 : st = av.reverse ++ mr r :: st') (hn : av.length = n) (hsl : ((mr r :: av).map m_cat).sum ≤ N.2.2.1) (hns : av.all m_nsc = true) (h8 : (st'.map m_cat).sum ≤ 8) (hd2 : F + 1 ≤ d) (hw2 : 19 + N.2.2.1 + L ≤ w) (ho : ob r ci) (hci : ∃ (T : u_T) (NN : Nat), m_cl[ci]? = some (N.1.cls, T, NN)) (kk : ∀ (a : Int) (σ1 : SS) (h1 : List MC), Wd h1 σ1 → G1 a → Ew g sc M d w Q G C (pc + 3) lv (iI a :: st') h1 σ1 (k a σ1)) : Ew g sc M d w Q G C pc lv st h σ (sq m1 k) := by
  intro a9 σ' hm
  unfold sq at hm
  split at hm
  · rename_i a s
    obtain ⟨-, a7, b7, c7, hg7, hR7⟩ := id hW
    obtain ⟨l7, ho7⟩ := ho a7 b7 c7 _ _ hg7
    obtain ⟨T7, NN7, hci7⟩ := hci
    have ho8 := hR7.at r _ ho7
    obtain ⟨⟨h0, hW0⟩, a1, a2, a3⟩ := hC a s rfl
    obtain ⟨b0, b1, b2, -⟩ := kk a s h0 hW0 a2 a9 σ' hm
    refine ⟨b0, Nat.le_trans a1 b1, b2, fun mc ms hc => ?_⟩
    refine Ev.room (mc2 := (K s - K σ) + (K σ' - K s + mc)) (ms2 := (K s - K σ) + (K σ' - K s + ms)) (by omega) (by omega) ?_
    refine e_invV (Q9 := fun o h9 => o = .inl (some (iI a)) ∧ Wd h9 s) hd hN hl hst0 hn hsl hns h8 hd2 hw2 ho8 hci7 (a3 F L _ (Nat.le_refl _) (Nat.le_refl _) (fun h' hW' => ⟨rfl, hW'⟩)) ?_ ?_
    · rintro r h9 ⟨e1, e2⟩
      cases e1
      exact (kk a s h9 e2 a2 a9 σ' hm).2.2.2 mc ms hc
    · rintro E h9 ⟨e1, e2⟩
      cases e1
  · cases hm
theorem w_cVU {g : MG} {sc : MS} {M : MM} {d w : Nat} {Q : MO → List MC → Prop} {α : Type} {G : α → Prop} {C : α → List MC → Nat → Nat → Prop} {pc : Nat} {lv : ML} {st : List MV} {h : List MC} {σ : SS}  {N : MM} {F L : Nat} {G1 : Unit → Prop} {m1 : Option (Unit × SS)} {k : Unit → SS → Option (α × SS)} {i n r ci : Nat} (av st' : List MV) (hd : decode M.2.1 pc = .ok (.invokevirtual i, 3)) (hN : m_me N n) (hl : m_lV M.1.cls i N) (hW : Wd h σ) (hC : Cw g N F L (mr r :: av) G1 cU1 h σ m1) (hst0 : st = av.reverse ++ mr r :: st') (hn : av.length = n) (hsl : ((mr r :: av).map m_cat).sum ≤ N.2.2.1) (hns : av.all m_nsc = true) (h8 : (st'.map m_cat).sum ≤ 8) (hd2 : F + 1 ≤ d) (hw2 : 19 + N.2.2.1 + L ≤ w) (ho : ob r ci) (hci : ∃ (T : u_T) (NN : Nat), m_cl[ci]? = some (N.1.cls, T, NN)) (kk : ∀ (a : Unit) (σ1 : SS) (h1 : List MC), Wd h1 σ1 → G1 a → Ew g sc M d w Q G C (pc + 3) lv st' h1 σ1 (k a σ1)) : Ew g sc M d w Q G C pc lv st h σ (sq m1 k) := by
  intro a9 σ' hm
  unfold sq at hm
  split at hm
  · rename_i a s
    obtain ⟨-, a7, b7, c7, hg7, hR7⟩ := id hW
    obtain ⟨l7, ho7⟩ := ho a7 b7 c7 _ _ hg7
    obtain ⟨T7, NN7, hci7⟩ := hci
    have ho8 := hR7.at r _ ho7
    obtain ⟨⟨h0, hW0⟩, a1, a2, a3⟩ := hC a s rfl
    obtain ⟨b0, b1, b2, -⟩ := kk a s h0 hW0 a2 a9 σ' hm
    refine ⟨b0, Nat.le_trans a1 b1, b2, fun mc ms hc => ?_⟩
    refine Ev.room (mc2 := (K s - K σ) + (K σ' - K s + mc)) (ms2 := (K s - K σ) + (K σ' - K s + ms)) (by omega) (by omega) ?_
    refine e_invV (Q9 := fun o h9 => o = .inl (none) ∧ Wd h9 s) hd hN hl hst0 hn hsl hns h8 hd2 hw2 ho8 hci7 (a3 F L _ (Nat.le_refl _) (Nat.le_refl _) (fun h' hW' => ⟨rfl, hW'⟩)) ?_ ?_
    · rintro r h9 ⟨e1, e2⟩
      cases e1
      exact (kk a s h9 e2 a2 a9 σ' hm).2.2.2 mc ms hc
    · rintro E h9 ⟨e1, e2⟩
      cases e1
  · cases hm
theorem w_xVU {g : MG} {sc : MS} {M : MM} {d w : Nat} {Q : MO → List MC → Prop}  {pc : Nat} {lv : ML} {st : List MV} {h : List MC} {σ : SS}  {α : Type} {G : α → Prop} {C : α → List MC → Nat → Nat → Prop} {N : MM} {F L : Nat} {G1 : Unit → Prop} {m1 : Option ((Unit ⊕ String) × SS)} {k : Unit → SS → Option ((α ⊕ String) × SS)} {i n r ci : Nat} (av st' : List MV) (hd : decode M.2.1 pc = .ok (.invokevirtual i, 3)) (hN : m_me N n) (hl : m_lV M.1.cls i N) (hh : M.2.2.2.2 = []) (hW : Wd h σ) (hC : Cw g N F L (mr r :: av) (gS2 G1 gE) (fun Q => cS2 (cU1 Q) (cE1 Q)) h σ m1) (hst0 : st = av.reverse ++ mr r :: st') (hn : av.length = n) (hsl : ((mr r :: av).map m_cat).sum ≤ N.2.2.1) (hns : av.all m_nsc = true) (h8 : (st'.map m_cat).sum ≤ 8) (hd2 : F + 1 ≤ d) (hw2 : 19 + N.2.2.1 + L ≤ w) (ho : ob r ci) (hci : ∃ (T : u_T) (NN : Nat), m_cl[ci]? = some (N.1.cls, T, NN)) (kk : ∀ (a : Unit) (σ1 : SS) (h1 : List MC), Wd h1 σ1 → G1 a → Ew g sc M d w Q (gS2 G gE) (cS2 C (cE1 Q)) (pc + 3) lv st' h1 σ1 (k a σ1)) : Ew g sc M d w Q (gS2 G gE) (cS2 C (cE1 Q)) pc lv st h σ (sx m1 k) := by
  intro a9 σ' hm
  unfold sx at hm
  split at hm
  · rename_i a s
    obtain ⟨-, a7, b7, c7, hg7, hR7⟩ := id hW
    obtain ⟨l7, ho7⟩ := ho a7 b7 c7 _ _ hg7
    obtain ⟨T7, NN7, hci7⟩ := hci
    have ho8 := hR7.at r _ ho7
    obtain ⟨⟨h0, hW0⟩, a1, a2, a3⟩ := hC _ _ rfl
    obtain ⟨b0, b1, b2, -⟩ := kk a s h0 hW0 a2 a9 σ' hm
    refine ⟨b0, Nat.le_trans a1 b1, b2, fun mc ms hc => ?_⟩
    refine Ev.room (mc2 := (K s - K σ) + (K σ' - K s + mc)) (ms2 := (K s - K σ) + (K σ' - K s + ms)) (by omega) (by omega) ?_
    refine e_invV (Q9 := fun o h9 => o = .inl (none) ∧ Wd h9 s) hd hN hl hst0 hn hsl hns h8 hd2 hw2 ho8 hci7 (a3 F L _ (Nat.le_refl _) (Nat.le_refl _) (fun h' hW' => ⟨rfl, hW'⟩)) ?_ ?_
    · rintro r h9 ⟨e1, e2⟩
      cases e1
      exact (kk a s h9 e2 a2 a9 σ' hm).2.2.2 mc ms hc
    · rintro E h9 ⟨e1, e2⟩
      cases e1
  · rename_i E s
    cases hm
    obtain ⟨-, a7, b7, c7, hg7, hR7⟩ := id hW
    obtain ⟨l7, ho7⟩ := ho a7 b7 c7 _ _ hg7
    obtain ⟨T7, NN7, hci7⟩ := hci
    have ho8 := hR7.at r _ ho7
    obtain ⟨⟨h0, hW0⟩, a1, a2, a3⟩ := hC _ _ rfl
    refine ⟨⟨h0, hW0⟩, a1, True.intro, fun mc ms hc => ?_⟩
    refine e_invV (Q9 := fun o h9 => o = .inr E ∧ Wd h9 σ') hd hN hl hst0 hn hsl hns h8 hd2 hw2 ho8 hci7 (a3 F L _ (Nat.le_refl _) (Nat.le_refl _) (fun h' hW' => ⟨rfl, hW'⟩)) ?_ ?_
    · rintro r h9 ⟨e1, e2⟩
      cases e1
    · rintro E9 h9 ⟨e1, e2⟩
      cases e1
      exact x_out hh (hc h9 e2)
  · cases hm
theorem w_cVP {g : MG} {sc : MS} {M : MM} {d w : Nat} {Q : MO → List MC → Prop} {α : Type} {G : α → Prop} {C : α → List MC → Nat → Nat → Prop} {pc : Nat} {lv : ML} {st : List MV} {h : List MC} {σ : SS}  {N : MM} {F L : Nat} {G1 : Nat → Prop} {m1 : Option (Nat × SS)} {k : Nat → SS → Option (α × SS)} {i n r ci : Nat} (av st' : List MV) (hd : decode M.2.1 pc = .ok (.invokevirtual i, 3)) (hN : m_me N n) (hl : m_lV M.1.cls i N) (hW : Wd h σ) (hC : Cw g N F L (mr r :: av) G1 cP1 h σ m1) (hst0 : st = av.reverse ++ mr r :: st') (hn : av.length = n) (hsl : ((mr r :: av).map m_cat).sum ≤ N.2.2.1) (hns : av.all m_nsc = true) (h8 : (st'.map m_cat).sum ≤ 8) (hd2 : F + 1 ≤ d) (hw2 : 19 + N.2.2.1 + L ≤ w) (ho : ob r ci) (hci : ∃ (T : u_T) (NN : Nat), m_cl[ci]? = some (N.1.cls, T, NN)) (kk : ∀ (a : Nat) (σ1 : SS) (h1 : List MC), Wd h1 σ1 → G1 a → Ew g sc M d w Q G C (pc + 3) lv (mr a :: st') h1 σ1 (k a σ1)) : Ew g sc M d w Q G C pc lv st h σ (sq m1 k) := by
  intro a9 σ' hm
  unfold sq at hm
  split at hm
  · rename_i a s
    obtain ⟨-, a7, b7, c7, hg7, hR7⟩ := id hW
    obtain ⟨l7, ho7⟩ := ho a7 b7 c7 _ _ hg7
    obtain ⟨T7, NN7, hci7⟩ := hci
    have ho8 := hR7.at r _ ho7
    obtain ⟨⟨h0, hW0⟩, a1, a2, a3⟩ := hC a s rfl
    obtain ⟨b0, b1, b2, -⟩ := kk a s h0 hW0 a2 a9 σ' hm
    refine ⟨b0, Nat.le_trans a1 b1, b2, fun mc ms hc => ?_⟩
    refine Ev.room (mc2 := (K s - K σ) + (K σ' - K s + mc)) (ms2 := (K s - K σ) + (K σ' - K s + ms)) (by omega) (by omega) ?_
    refine e_invV (Q9 := fun o h9 => o = .inl (some (mr a)) ∧ Wd h9 s) hd hN hl hst0 hn hsl hns h8 hd2 hw2 ho8 hci7 (a3 F L _ (Nat.le_refl _) (Nat.le_refl _) (fun h' hW' => ⟨rfl, hW'⟩)) ?_ ?_
    · rintro r h9 ⟨e1, e2⟩
      cases e1
      exact (kk a s h9 e2 a2 a9 σ' hm).2.2.2 mc ms hc
    · rintro E h9 ⟨e1, e2⟩
      cases e1
  · cases hm
theorem w_xVP {g : MG} {sc : MS} {M : MM} {d w : Nat} {Q : MO → List MC → Prop}  {pc : Nat} {lv : ML} {st : List MV} {h : List MC} {σ : SS}  {α : Type} {G : α → Prop} {C : α → List MC → Nat → Nat → Prop} {N : MM} {F L : Nat} {G1 : Nat → Prop} {m1 : Option ((Nat ⊕ String) × SS)} {k : Nat → SS → Option ((α ⊕ String) × SS)} {i n r ci : Nat} (av st' : List MV) (hd : decode M.2.1 pc = .ok (.invokevirtual i, 3)) (hN : m_me N n) (hl : m_lV M.1.cls i N) (hh : M.2.2.2.2 = []) (hW : Wd h σ) (hC : Cw g N F L (mr r :: av) (gS2 G1 gE) (fun Q => cS2 (cP1 Q) (cE1 Q)) h σ m1) (hst0 : st = av.reverse ++ mr r :: st') (hn : av.length = n) (hsl : ((mr r :: av).map m_cat).sum ≤ N.2.2.1) (hns : av.all m_nsc = true) (h8 : (st'.map m_cat).sum ≤ 8) (hd2 : F + 1 ≤ d) (hw2 : 19 + N.2.2.1 + L ≤ w) (ho : ob r ci) (hci : ∃ (T : u_T) (NN : Nat), m_cl[ci]? = some (N.1.cls, T, NN)) (kk : ∀ (a : Nat) (σ1 : SS) (h1 : List MC), Wd h1 σ1 → G1 a → Ew g sc M d w Q (gS2 G gE) (cS2 C (cE1 Q)) (pc + 3) lv (mr a :: st') h1 σ1 (k a σ1)) : Ew g sc M d w Q (gS2 G gE) (cS2 C (cE1 Q)) pc lv st h σ (sx m1 k) := by
  intro a9 σ' hm
  unfold sx at hm
  split at hm
  · rename_i a s
    obtain ⟨-, a7, b7, c7, hg7, hR7⟩ := id hW
    obtain ⟨l7, ho7⟩ := ho a7 b7 c7 _ _ hg7
    obtain ⟨T7, NN7, hci7⟩ := hci
    have ho8 := hR7.at r _ ho7
    obtain ⟨⟨h0, hW0⟩, a1, a2, a3⟩ := hC _ _ rfl
    obtain ⟨b0, b1, b2, -⟩ := kk a s h0 hW0 a2 a9 σ' hm
    refine ⟨b0, Nat.le_trans a1 b1, b2, fun mc ms hc => ?_⟩
    refine Ev.room (mc2 := (K s - K σ) + (K σ' - K s + mc)) (ms2 := (K s - K σ) + (K σ' - K s + ms)) (by omega) (by omega) ?_
    refine e_invV (Q9 := fun o h9 => o = .inl (some (mr a)) ∧ Wd h9 s) hd hN hl hst0 hn hsl hns h8 hd2 hw2 ho8 hci7 (a3 F L _ (Nat.le_refl _) (Nat.le_refl _) (fun h' hW' => ⟨rfl, hW'⟩)) ?_ ?_
    · rintro r h9 ⟨e1, e2⟩
      cases e1
      exact (kk a s h9 e2 a2 a9 σ' hm).2.2.2 mc ms hc
    · rintro E h9 ⟨e1, e2⟩
      cases e1
  · rename_i E s
    cases hm
    obtain ⟨-, a7, b7, c7, hg7, hR7⟩ := id hW
    obtain ⟨l7, ho7⟩ := ho a7 b7 c7 _ _ hg7
    obtain ⟨T7, NN7, hci7⟩ := hci
    have ho8 := hR7.at r _ ho7
    obtain ⟨⟨h0, hW0⟩, a1, a2, a3⟩ := hC _ _ rfl
    refine ⟨⟨h0, hW0⟩, a1, True.intro, fun mc ms hc => ?_⟩
    refine e_invV (Q9 := fun o h9 => o = .inr E ∧ Wd h9 σ') hd hN hl hst0 hn hsl hns h8 hd2 hw2 ho8 hci7 (a3 F L _ (Nat.le_refl _) (Nat.le_refl _) (fun h' hW' => ⟨rfl, hW'⟩)) ?_ ?_
    · rintro r h9 ⟨e1, e2⟩
      cases e1
    · rintro E9 h9 ⟨e1, e2⟩
      cases e1
      exact x_out hh (hc h9 e2)
  · cases hm

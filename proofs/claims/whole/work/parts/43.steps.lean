/-! THE CLASS'S UNIFIER: SMALL STEPS -/
def XW : Nat → Prop := fun a => (1 ≤ a ∧ a ≤ 3) ∨ (7 ≤ a ∧ a ≤ 12) ∨ (42 ≤ a ∧ a ≤ 44)
/-- a step of the unifier: a later state, cells are only added -/
def stp (told : Int) (σ τ : SS) (s : St) : Prop := cSt τ told s ∧ fx XW σ τ ∧ cle σ τ (σ.1 1 2) ∧ σ.1 1 2 ≤ τ.1 1 2
theorem stp_tr {told : Int} {σ τ υ : SS} {s t : St} (h : stp told σ τ s) (k : stp told τ υ t) : stp told σ υ t := ⟨k.1, fx_tr h.2.1 k.2.1, cle_tr h.2.2.1 k.2.2.1 h.2.2.2, Int.le_trans h.2.2.2 k.2.2.2⟩
theorem XW_cur {p a : Nat} (hp : cur p) (ha : cP p a) : ¬ XW a := fun z => by
  unfold cur at hp
  unfold cP at ha
  unfold XW at z
  omega
theorem X3_XW {σ τ : SS} (h : fx X3 σ τ) : fx XW σ τ := fx_mono h (fun a z => by unfold X3 at z; unfold XW; omega)
theorem X79_XW {σ τ : SS} (h : fx X79 σ τ) : fx XW σ τ := fx_mono h (fun a z => by unfold X79 at z; unfold XW; omega)
theorem X78_XW {σ τ : SS} (h : fx X78 σ τ) : fx XW σ τ := fx_mono h (fun a z => by unfold X78 at z; unfold XW; omega)
/-- the cells' top -/
theorem lay_le {σ : SS} {told : Int} {O : Op} {s : St} (hs : sOk O told s) (hH : cHol σ s.1 s.2.1) : ∀ {l : List Int} {b : Int}, (∀ h ∈ l, h ∈ s.2.2.1) → lay σ l b → σ.1 1 2 ≤ b + 400 * l.length := by
  intro l
  induction l with
  | nil => intro b _ h; have : σ.1 1 2 = b := h; rw [this]; show b ≤ b + 400 * ((0 : Nat) : Int); omega
  | cons h l ih =>
    intro b hm hl
    have h1 := ih (fun g hg => hm g (List.mem_cons_of_mem _ hg)) hl.2.2
    obtain ⟨F, hF⟩ := (hs.2.2.2.2.2.1 h).mpr (hm h List.mem_cons_self)
    have hp := hs.2.2.2.2.2.2.2.2.1 h (hm h List.mem_cons_self)
    have h2 := ((hH h hp).2.2.2.2 F hF).2.1
    have h3 := cseg_le h2
    have h4 := il_le (O := O) hs.2.2.2.1 (hs.1 h F hF)
    have h5 := hs.2.2.2.2.2.2.2.2.2 h F hF
    have h6 := hl.1
    rw [List.length_cons]
    omega
theorem top_le {σ : SS} {told : Int} {O : Op} {s : St} (hs : sOk O told s) (hm : mOk told s) (hc : cSt σ told s) : 1200 ≤ σ.1 1 2 ∧ σ.1 1 2 ≤ 97200 := by
  have h1 := lay_le hs hc.1 (fun _ h => h) hc.2.2.2.2.2.2.1
  have h2 := mOk_b hs.2.2.2.2.2.2.2.1 hm
  have h3 := hc.2.1.2.1
  omega
/-! cursors stay what they are when holes are filled -/
theorem frs_go {X : Nat → Prop} {σ τ : SS} {p : Nat} {pa pb : Int → Int} {Φ : Fl} {N : Int} (hx : fx X σ τ) (hX : ∀ a, cP p a → ¬ X a) (hcl : cle σ τ (σ.1 1 2)) (ht : σ.1 1 2 ≤ τ.1 1 2) (hpa : ∀ g, 0 ≤ pa g → pb g = pa g) : ∀ {fs : List Fr}, fok pa Φ N fs → frs σ p pa fs → frs τ p pb fs := by
  intro fs
  induction fs with
  | nil => intro _ _; exact True.intro
  | cons f fs ih =>
    intro ho k
    obtain ⟨⟨a, b, c⟩, d⟩ := k
    have g1 : ∀ (n m : Nat) (i : Int), 1 ≤ n → n ≤ 5 → gA τ (p + n) m i = gA σ (p + n) m i := fun n m i h1 h2 => fx_g hx (hX _ (by unfold cP; omega))
    refine ⟨⟨?_, ?_, ?_⟩, ih ho.2.2.2.2.2.2.2 d⟩
    · rw [g1 1 _ _ (by omega) (by omega), g1 2 _ _ (by omega) (by omega)]
      exact ⟨cseg_cle hcl a.1 a.2.2, a.2.1, Int.le_trans a.2.2 ht⟩
    · rw [g1 3 _ _ (by omega) (by omega)]; exact b
    · intro hj q h2 h3
      rw [g1 4 _ _ (by omega) (by omega)]
      have hne : fs ≠ [] := fun z => by rw [z] at hj; exact absurd hj (by decide)
      rw [hpa _ (ho.2.2.2.2.2.1 hne).1] at h3
      exact c hj q h2 h3
theorem chn_xt {Φ Ψ : Fl} {h : Int} (hx : xt Φ Ψ) {fs : List Fr} (k : chn Φ h fs) : chn Ψ h fs := by
  have hd : ∀ (n : Nat) {g h : Int}, dsc Φ n g h → dsc Ψ n g h := by
    intro n
    induction n with
    | zero => intro g h d; exact d
    | succ n ih => intro g h d; obtain ⟨F, e, a, b, c, d⟩ := d; exact ⟨F, e, hx _ _ a, b, c, ih d⟩
  cases fs with
  | nil => exact True.intro
  | cons f fs =>
    cases fs with
    | nil => exact True.intro
    | cons g fs =>
      obtain ⟨pre, e, n, a, b, c, d⟩ := k
      exact ⟨pre, e, n, hx _ _ a, b, c, hd n d⟩
theorem fok_go {pa pb : Int → Int} {Φ Ψ : Fl} {N : Int} (hpa : ∀ g, 0 ≤ pa g → pb g = pa g) (hx : xt Φ Ψ) : ∀ {fs : List Fr}, fok pa Φ N fs → fok pb Ψ N fs := by
  intro fs
  induction fs with
  | nil => intro _; exact True.intro
  | cons f fs ih =>
    intro h
    obtain ⟨h1, h2, h3, h4, h5, h6, h7, h8⟩ := h
    have e1 : nfr pb N fs f.2.2.2 = nfr pa N fs f.2.2.2 := by
      unfold nfr
      by_cases c : fs = []
      · rw [if_pos c, if_pos c]
      · rw [if_neg c, if_neg c]; exact hpa _ (h6 c).1
    refine ⟨by rw [e1]; exact okR_pa hpa h1, h2, by rw [e1]; exact h3, by rw [e1]; exact h4, h5, fun hne => ?_, chn_xt hx h7, ih h8⟩
    obtain ⟨k1, dn, k2⟩ := h6 hne
    exact ⟨by rw [hpa _ k1]; exact k1, dn, hx _ _ k2⟩
theorem cst_go {X : Nat → Prop} {σ τ : SS} {p : Nat} {pa pb : Int → Int} {Φ Ψ : Fl} {N : Int} {fs : List Fr} (hx : fx X σ τ) (hX : ∀ a, cP p a → ¬ X a) (hcl : cle σ τ (σ.1 1 2)) (ht : σ.1 1 2 ≤ τ.1 1 2) (hpa : ∀ g, 0 ≤ pa g → pb g = pa g) (hxt : xt Φ Ψ) (h : cst σ p pa Φ N fs) : cst τ p pb Ψ N fs := by
  obtain ⟨h1, h2, h3, h4, h5⟩ := h
  exact ⟨h1, h2, by rw [fx_f hx (hX p (by unfold cP; omega))]; exact h3, frs_go hx hX hcl ht hpa h5 h4, fok_go hpa hxt h5⟩
theorem grp_go {X : Nat → Prop} {σ τ : SS} {p : Nat} {e : AG} (hx : fx X σ τ) (hX : ∀ a, cP p a → ¬ X a) (h : grp σ p e) : grp τ p e := by
  obtain ⟨h1, h2, h3, h4, h5⟩ := h
  have f : ∀ b, τ.1 p b = σ.1 p b := fun b => fx_f hx (hX p (by unfold cP; omega))
  exact ⟨by rw [f]; exact h1, by rw [f]; exact h2, by rw [f]; exact h3, by rw [f]; exact h4, fun k v hk => by rw [fx_g hx (hX _ (by unfold cP; omega))]; exact h5 k v hk⟩
theorem nfr_nn {pa : Int → Int} {Φ : Fl} {N : Int} {f : Fr} {fs : List Fr} (hN : 0 ≤ N) (h : fok pa Φ N (f :: fs)) : 0 ≤ nfr pa N fs f.2.2.2 := by
  unfold nfr
  split
  · exact hN
  · rename_i c; exact (h.2.2.2.2.2.1 c).1
theorem ahd_go {O : Op} {told : Int} {R : Nat} {s t : St} {N : Int} (hR : 300 < R) (hN : 0 ≤ N) (hs : gOk O told R s) (ht : gOk O told R t) (hx : sx2 s t) : ∀ {fs : List Fr}, fok s.1 s.2.1 N fs → ahd t.2.1 R fs = tN t.2.1 R (ahd s.2.1 R fs) := by
  intro fs
  induction fs with
  | nil => intro _; exact (tN_nil _ _).symm
  | cons f fs ih =>
    intro h
    show (tN t.2.1 R f.1).map (tS f.2.1 f.2.2.1) ++ ahd t.2.1 R fs = tN t.2.1 R ((tN s.2.1 R f.1).map (tS f.2.1 f.2.2.1) ++ ahd s.2.1 R fs)
    have h0 := nfr_nn hN h
    rw [tN_append, ih h.2.2.2.2.2.2.2, tN_sub h0 ht.1.1 R (okR_pa hx.2.1 (okR_N h0 hs.1.1 R h.1)), tN_cmp hR ht hx.1]
theorem ahd_ok {pa : Int → Int} {Φ : Fl} {R : Nat} {N : Int} (hF : okF pa Φ) (hN : 0 ≤ N) : ∀ {fs : List Fr}, fok pa Φ N fs → okR pa N (ahd Φ R fs) := by
  intro fs
  induction fs with
  | nil => intro _ e he; cases he
  | cons f fs ih =>
    intro h e he
    rcases List.mem_append.mp he with z | z
    · obtain ⟨x, hx, rfl⟩ := List.mem_map.mp z
      have h0 := nfr_nn hN h
      exact okG_sub h.2.1 hN (okR_N h0 hF R h.1 x hx) h.2.2.1 h.2.2.2.1
    · exact ih h.2.2.2.2.2.2.2 e z
theorem ahd_nof {O : Op} {told : Int} {R : Nat} {s : St} (hR : 300 < R) (hs : gOk O told R s) : ∀ {fs : List Fr}, nof s.2.1 (ahd s.2.1 R fs) := by
  intro fs
  induction fs with
  | nil => intro e he; cases he
  | cons f fs ih =>
    intro e he
    rcases List.mem_append.mp he with z | z
    · obtain ⟨x, hx, rfl⟩ := List.mem_map.mp z
      exact fun hi => tN_nofg hR hs f.1 x hx (isF_sub hi).1
    · exact ih e z
/-! a hole passes on to a new one -/
def kpt (σ : SS) (q : Nat) (K : List Int) : Prop := ∀ (k : Nat) (v : Int), K[k]? = some v → gA σ q 4 k = v
theorem s_pas {α : Type} {O : Op} {fu R : Nat} {told h : Int} {s : St} {K : List Int} {σ : SS} {P : α → SS → Prop} {k : Int → SS → Option (α × SS)} (hR : 300 < R) (hfu : 10 ≤ fu) (hg : gOk O told R s) (hc : cSt σ told s) (hΦ : s.2.1 h = none) (hp : 0 ≤ s.1 h) (hK : ∀ v ∈ K, 0 ≤ v ∧ v < s.1 h) (hl : (K.length : Int) ≤ s.1 h) (hk : kpt σ 43 K)
    (hnx : ∀ σ' , (fx XW σ σ' ∧ cSt σ' told (pas s h K) ∧ cle σ σ' (σ.1 1 2) ∧ σ.1 1 2 ≤ σ'.1 1 2 ∧ ∀ b, σ'.1 42 b = σ.1 42 b) → Wp (k 1 σ') P) :
    Wp (sq (f_G_makeNew K.length σ) fun a7 σ8 => sq (f_G_fillWithHole fu h a7 43 σ8) k) P := by
  have h8 := hg.1.2.2.2.2.2.2.2.1
  have hb := mOk_b h8 hg.2.1
  have h4 := hg.1.2.2.2.1 h
  have ht := top_le hg.1 hg.2.1 hc
  obtain ⟨n1, n2⟩ := sNew_g hg.1
  have hsn := sOk_new (n := (K.length : Int)) hg.1 (by omega) (by omega)
  refine wp_sq (s_makeNew hg.1 hc (by omega) (by omega)) ?_
  rintro a σ8 ⟨rfl, x8, c8⟩
  have n78 : ∀ a, a ≠ 7 → a ≠ 8 → ¬ X78 a := fun a h1 h2 z => z.elim h1 h2
  have hhn : h ≠ 24 + s.2.2.2 := fun z => by rw [z] at hp; omega
  have e12 : σ8.1 1 2 = σ.1 1 2 := fx_f x8 (n78 1 (by decide) (by decide))
  refine wp_sq (s_fillWithHole (g := 24 + s.2.2.2) (kept := K) hfu (Or.inl rfl) hsn c8 hΦ (by show 0 ≤ up1 s.1 _ _ h; rw [up1_ne hhn]; exact hp) (by show s.2.2.2 + 1 ≤ 300; omega) (by show s.2.2.1.length < 324; omega) (by omega) (by omega) (by omega) (by exact up1_same _ _ _) (by omega) (fun v hv => by have := hK v hv; omega) (fun k v hv => by rw [fx_g x8 (n78 43 (by decide) (by decide))]; exact hk k v hv)) ?_
  rintro a σ' ⟨rfl, d1, d2, d3, d4, d5⟩
  have cl8 : cle σ σ8 (σ.1 1 2) := fun i _ => ⟨fx_cA x8 (n78 1 (by decide) (by decide)) (n78 2 (by decide) (by decide)) i, fx_cB x8 (n78 1 (by decide) (by decide)) (n78 3 (by decide) (by decide)) i⟩
  refine hnx σ' ⟨fx_tr (X78_XW x8) (X79_XW d2), d1, cle_tr cl8 d3 (by omega), by omega, fun b => ?_⟩
  rw [fx_f d2 (fun z => by unfold X79 at z; omega), fx_f x8 (n78 42 (by decide) (by decide))]
/-! what is kept -/
theorem kpt_snoc {σ : SS} {K : List Int} {v : Int} {q : Nat} (h : kpt σ q K) (hl : K.length < 4) : kpt (gS σ q 4 (K.length : Int) v) q (K ++ [v]) := by
  intro k w hk
  by_cases c : k < K.length
  · rw [List.getElem?_append_left c] at hk
    rw [gA_S_ne (by omega)]
    exact h k w hk
  · rw [List.getElem?_append_right (by omega)] at hk
    have h0 : k - K.length = 0 := by
      have := (List.getElem?_eq_some_iff.mp hk).1
      simp at this
      omega
    rw [h0] at hk
    have hk' : v = w := Option.some.inj hk
    rw [show (k : Int) = (K.length : Int) by omega, gA_S_same (by omega) (by omega)]
    exact hk'
def X43 : Nat → Prop := fun a => a = 43 ∨ a = 44
theorem s_nar {fu : Nat} {a b : AG} (h4 : a.2.2.length ≤ 4) : ∀ (m i n : Nat) (σ : SS), m + i = a.2.2.length → m < n → grp σ 30 a → (∀ k : Nat, k < a.2.2.length → gA σ 41 4 k = b.2.2.getD k 0 ∧ k < b.2.2.length) → kpt σ 43 (kix i (fun j => a.2.2[j]? == b.2.2[j]?)) →
    Wp (l_N_narrowToSame_4 fu n (kix i (fun j => a.2.2[j]? == b.2.2[j]?)).length i σ) (fun z τ => z = ((kix a.2.2.length (fun j => a.2.2[j]? == b.2.2[j]?)).length : Int) ∧ fx X43 σ τ ∧ (∀ c d, τ.1 c d = σ.1 c d) ∧ kpt τ 43 (kix a.2.2.length (fun j => a.2.2[j]? == b.2.2[j]?))) := by
  intro m
  induction m with
  | zero =>
    intro i n σ hmi hn hg hb hk
    cases n with
    | zero => omega
    | succ n =>
      rw [l_N_narrowToSame_4]
      have e : i = a.2.2.length := by omega
      rw [e] at hk
      refine wp_f (by rw [hg.2.2.2.1]; omega) (wp_some ⟨by rw [e], fx_rf, fun _ _ => rfl, hk⟩)
  | succ m ih =>
    intro i n σ hmi hn hg hb hk
    cases n with
    | zero => omega
    | succ n =>
      rw [l_N_narrowToSame_4]
      have hi : i < a.2.2.length := by omega
      have ha : a.2.2[i]? = some a.2.2[i] := List.getElem?_eq_getElem hi
      have hga := hg.2.2.2.2 i _ ha
      obtain ⟨hgb, hbl⟩ := hb i hi
      have hbe : b.2.2[i]? = some b.2.2[i] := List.getElem?_eq_getElem hbl
      have hkl := kix_len i (fun j => a.2.2[j]? == b.2.2[j]?)
      have e2 : ((i : Int) + 1) = ((i + 1 : Nat) : Int) := by omega
      have hsu := kix_succ i (fun j => a.2.2[j]? == b.2.2[j]?)
      have hgd : b.2.2.getD i 0 = b.2.2[i] := by rw [List.getD_eq_getElem?_getD, hbe]; rfl
      refine wp_t (by rw [hg.2.2.2.1]; omega) ?_
      rw [show (30 + 5 : Nat) = 35 from rfl, show (36 + 5 : Nat) = 41 from rfl] at *
      by_cases c : a.2.2[i] = b.2.2[i]
      · have hP : (a.2.2[i]? == b.2.2[i]?) = true := by rw [ha, hbe, c]; exact beq_self_eq_true _
        rw [if_pos hP] at hsu
        refine wp_sq (R := fun z τ => z = ((kix (i + 1) (fun j => a.2.2[j]? == b.2.2[j]?)).length : Int) ∧ τ = gS σ 43 4 ((kix i (fun j => a.2.2[j]? == b.2.2[j]?)).length : Int) i) (wp_t (by rw [hga, hgb, hgd]; exact c) (wp_lx (wp_ck (by omega) (wp_some ⟨by rw [hsu, List.length_append]; show _ = ((_ + 1 : Nat) : Int); omega, rfl⟩)))) ?_
        rintro z τ ⟨rfl, rfl⟩
        have hfx : fx X43 σ (gS σ 43 4 ((kix i (fun j => a.2.2[j]? == b.2.2[j]?)).length : Int) i) := fx_S fx_rf (by unfold X43; omega)
        refine wp_ck (by omega) ?_
        rw [e2]
        have hk2 : kpt (gS σ 43 4 ((kix i (fun j => a.2.2[j]? == b.2.2[j]?)).length : Int) i) 43 (kix (i + 1) (fun j => a.2.2[j]? == b.2.2[j]?)) := by rw [hsu]; exact kpt_snoc hk (by omega)
        have h3 := ih (i + 1) n _ (by omega) (by omega) (grp_go hfx (fun a ha z => by unfold cP at ha; unfold X43 at z; omega) hg) (fun k hk' => by rw [fx_g hfx (fun z => by unfold X43 at z; omega)]; exact hb k hk') hk2
        exact wp_mono h3 (fun _ τ k => ⟨k.1, fx_tr hfx k.2.1, fun c d => by rw [k.2.2.1, gS_f'], k.2.2.2⟩)
      · have hP : ¬ (a.2.2[i]? == b.2.2[i]?) = true := by
          rw [ha, hbe]
          intro z
          exact c (Option.some.inj (eq_of_beq z))
        rw [if_neg hP, List.append_nil] at hsu
        refine wp_sq (R := fun z τ => z = ((kix (i + 1) (fun j => a.2.2[j]? == b.2.2[j]?)).length : Int) ∧ τ = σ) (wp_f (by rw [hga, hgb, hgd]; exact c) (wp_some ⟨by rw [hsu], rfl⟩)) ?_
        rintro z τ ⟨rfl, rfl⟩
        refine wp_ck (by omega) ?_
        rw [e2]
        exact ih (i + 1) n _ (by omega) (by omega) hg hb (by rw [hsu]; exact hk)
theorem X43_XW {σ τ : SS} (h : fx X43 σ τ) : fx XW σ τ := fx_mono h (fun a z => by unfold X43 at z; unfold XW; omega)
theorem cSt_X43 {σ τ : SS} {told : Int} {s : St} (h : fx X43 σ τ) (k : cSt σ told s) : cSt τ told s := cSt_fx h (fun a _ _ z => by unfold X43 at z; omega) (fun a _ _ _ z => by unfold X43 at z; omega) k
theorem cle_X43 {σ τ : SS} {t : Int} (h : fx X43 σ τ) : cle σ τ t := fun i _ => ⟨fx_cA h (fun z => by unfold X43 at z; omega) (fun z => by unfold X43 at z; omega) i, fx_cB h (fun z => by unfold X43 at z; omega) (fun z => by unfold X43 at z; omega) i⟩
/-- the same hole on both sides -/
theorem s_narrow {O : Op} {fu R : Nat} {told : Int} {s : St} {a b : AG} {σ : SS} (hR : 300 < R) (hfu : 10 ≤ fu) (hg : gOk O told R s) (hc : cSt σ told s) (ha : grp σ 30 a) (hb : grp σ 36 b) (hΦ : s.2.1 (a.2.1 / 4) = none) (hx : (a.2.2.length : Int) = s.1 (a.2.1 / 4)) (hy : b.2.2.length = a.2.2.length) :
    Wp (f_N_narrowToSame fu σ) (fun z τ => z = 0 ∧ stp told σ τ (nw s (a.2.1 / 4) a.2.2 b.2.2)) := by
  have h4 := hg.1.2.2.2.1 (a.2.1 / 4)
  unfold f_N_narrowToSame
  refine wp_sq (s_nar (a := a) (b := b) (by omega) a.2.2.length 0 fu σ (by omega) (by omega) ha (fun k hk => ⟨?_, by omega⟩) (fun k v hk => by rw [show kix 0 _ = [] from rfl] at hk; cases hk)) ?_
  · have hbk : b.2.2[k]? = some b.2.2[k] := List.getElem?_eq_getElem (by omega)
    rw [List.getD_eq_getElem?_getD, hbk]
    exact hb.2.2.2.2 k _ hbk
  · rintro z τ ⟨rfl, x1, f1, k1⟩
    have c1 := cSt_X43 x1 hc
    have e12 : τ.1 1 2 = σ.1 1 2 := f1 1 2
    rw [f1 30 11, f1 30 8, ha.2.2.2.1, ha.2.1]
    unfold nw
    by_cases c : (kix a.2.2.length (fun i => a.2.2[i]? == b.2.2[i]?)).length = a.2.2.length
    · rw [if_pos c]
      exact wp_t (by rw [c]) (wp_some ⟨rfl, c1, X43_XW x1, cle_X43 x1, by omega⟩)
    · rw [if_neg c]
      have hkl := kix_len a.2.2.length (fun i => a.2.2[i]? == b.2.2[i]?)
      refine wp_f (by omega) (s_pas hR hfu hg c1 hΦ (by omega) (fun v hv => by have := kix_mem hv; omega) (by omega) k1 ?_)
      rintro σ' ⟨d1, d2, d3, d4, -⟩
      exact wp_f (by decide) (wp_some ⟨rfl, d2, fx_tr (X43_XW x1) d1, cle_tr (cle_X43 x1) (by rw [← e12]; exact d3) (Int.le_refl _), by omega⟩)

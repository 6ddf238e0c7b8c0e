/-! A HOLE IS FILLED WITH A TERM -/
theorem psd_len {O : Op} {told n h : Int} {R : Nat} {s t : St} (hR : 300 < R) (hn0 : 0 ≤ n) (gt : gOk O told R t) (hx : sx2 s t) (hp : psd s t h) : ∀ {q : Row}, okR s.1 n q → nof s.2.1 q → (tN t.2.1 R q).length = q.length := by
  have one : ∀ (j : Nat) (f : AG), okG t.1 n f → ¬ isF s.2.1 f → (tN t.2.1 j [f]).length = 1 := by
    intro j
    induction j with
    | zero => intro f _ _; rfl
    | succ j ihj =>
      intro f hf hfo
      by_cases cf : isF t.2.1 f
      · obtain ⟨f1, F, hF⟩ := cf
        rcases hp _ _ hF with z | ⟨g', K, rfl, z1, z2⟩
        · exact absurd ⟨f1, F, z⟩ hfo
        · have e0 : tE t.2.1 [f] = [tS f.1 (tI f.2.2) (0, 4 * g' + 2, K)] := by
            unfold tE tX
            rw [List.flatMap_cons, List.flatMap_nil, List.append_nil, if_pos f1, hF]
            rfl
          show (tN t.2.1 j (tE t.2.1 [f])).length = 1
          rw [e0]
          refine ihj _ ?_ ?_
          · have := okR_E hn0 gt.1.1 (r := [f]) (fun w hw => by cases List.mem_singleton.mp hw; exact hf)
            rw [e0] at this
            exact this _ (List.mem_singleton.mpr rfl)
          · intro hi
            obtain ⟨-, E, hE⟩ := hi
            rw [tS_num (by show (4 * g' + 2) % 4 ≠ 0; omega)] at hE
            have hE' : s.2.1 ((4 * g' + 2) / 4) = some E := hE
            rw [show (4 * g' + 2) / 4 = g' by omega, z1] at hE'
            cases hE'
      · rw [tN_open cf]; rfl
  intro q
  induction q with
  | nil => intro _ _; rw [tN_nil]
  | cons a q ihq =>
    intro hq hno
    rw [tN_cons, List.length_append, one R a (okG_pa hx.2.1 (hq a List.mem_cons_self)) (hno a List.mem_cons_self), ihq (fun f hf => hq f (List.mem_cons_of_mem _ hf)) (fun f hf => hno f (List.mem_cons_of_mem _ hf)), List.length_cons]
    omega
theorem opn_ins {O : Op} {told : Int} {R : Nat} {s : St} {h β : Int} {x : List Int} {T : Row} (hR : 300 < R) (hg : gOk O told R s) (hc : ∀ e ∈ tN s.2.1 R T, cln h β x e) : opn s.2.1 h ((tN s.2.1 R T).map (ins β x)) := by
  intro f hf hf2
  obtain ⟨e, he, rfl⟩ := List.mem_map.mp hf
  have hcode : (ins β x e).2.1 % 4 = e.2.1 % 4 := by
    unfold ins
    dsimp only
    split <;> omega
  rw [hcode] at hf2
  have hn : (ins β x e).2.1 = e.2.1 := by unfold ins; dsimp only; rw [if_neg (by omega)]
  rw [hn]
  refine ⟨?_, ((hc e he).2 hf2).1⟩
  cases hq : s.2.1 (e.2.1 / 4) with
  | none => rfl
  | some G => exact absurd ⟨hf2, G, hq⟩ (tN_nofg hR hg T e he)
/-- sizes behind a filling are not that large -/
theorem fil_bd {O : Op} {told h : Int} {R : Nat} {s : St} {F : Row} (hR : 300 < R) (hg : gOk O told R s) (hΦ : s.2.1 h = none) (ho : opn s.2.1 h F) (hl : F.length ≤ 80) (hs' : sOk O told (sFil s h F)) (hm' : mOk told (sFil s h F)) : ∀ g G, (sFil s h F).2.1 g = some G → (tN (sFil s h F).2.1 R G).length ≤ 100000 := by
  intro g G hG
  obtain ⟨R', rfl⟩ : ∃ R', R = R' + 1 := ⟨R - 1, by omega⟩
  have hG' : up1 s.2.1 h (some F) g = some G := hG
  by_cases c : g = h
  · rw [c, up1_same] at hG'
    cases hG'
    have hF : nof (sFil s h F).2.1 F := by
      intro e he hf
      obtain ⟨f1, E, f2⟩ := hf
      obtain ⟨q1, q2⟩ := ho e he f1
      have f2' : up1 s.2.1 h (some F) (e.2.1 / 4) = some E := f2
      rw [up1_ne q2, q1] at f2'
      cases f2'
    rw [tN_nof _ hF]
    omega
  · rw [up1_ne c] at hG'
    obtain ⟨rk, h3, h4⟩ := sOk_rk hR hs' hm'
    have h5 : tN (sFil s h F).2.1 (R' + 1) (tN s.2.1 (R' + 1) G) = tN (sFil s h F).2.1 (R' + 1) G := tN_comp (xt_fil hΦ) h3 (R' + 1) (fun e _ _ => h4 _)
    rw [← h5]
    have h6 := len_fil (R := R') ho hl (tN_nofg hR hg G)
    have h7 := hg.2.2 g G hG'
    have h8 : (tN (sFil s h F).2.1 (R' + 1) (tN s.2.1 (R' + 1) G)).length ≤ 80 * (tN s.2.1 (R' + 1) G).length := h6
    omega
def XF (r : Nat) : Nat → Prop := fun a => XA a ∨ cP r a
theorem cOp_XW {σ τ : SS} {O : Op} (h : fx XW σ τ) (k : cOp σ O) : cOp τ O := cOp_fx h (by unfold XW; omega) (by unfold XW; omega) k
theorem s_fillTerm {O : Op} {fu R q r : Nat} {told N : Int} {s : St} {a b : AG} {A : Row} {S2 : List Int} {fs : List Fr} {σ : SS} (hq : q = 30 ∨ q = 36) (hr : r = 30 ∨ r = 36) (hqr : q ≠ r) (hR : 300 < R) (hRf : R < fu) (hR2 : R ≤ 1000) (hfu : 3000 ≤ fu) (hN : 0 ≤ N) (hN2 : N ≤ 1000) (hb2 : bd2 O) (hg : gOk O told R s) (hc : cSt σ told s) (ho : cOp σ O) (ha : grp σ q a) (hb : grp σ r b) (hoka : okG s.1 N a) (hokb : okG s.1 N b) (ha2 : a.2.1 % 4 = 2) (hbn : b.2.1 % 4 ≠ 2) (hΦ : s.2.1 (a.2.1 / 4) = none) (hcst : cst σ r s.1 s.2.1 N fs) (hA : ahd s.2.1 R fs = A) (hab : a.1 = b.1) (hS : tR O (b :: A) (b.1 :: S2) = some []) (hbk : bok (b.1 :: S2) (A.length + 1)) (hlen : A.length ≤ 2500) :
    Wp (f_N_fillWithTerm fu q r σ) (fun z τ => z = (flt R (a.2.1 / 4) a.1 a.2.2 s (tk O (b :: A) 1).1).1 ∧ cSt τ told (flt R (a.2.1 / 4) a.1 a.2.2 s (tk O (b :: A) 1).1).2 ∧ fx (XF r) σ τ ∧ cle σ τ (σ.1 1 2) ∧ σ.1 1 2 ≤ τ.1 1 2 ∧ (z = 0 → ∃ gs, cst τ r (flt R (a.2.1 / 4) a.1 a.2.2 s (tk O (b :: A) 1).1).2.1 (flt R (a.2.1 / 4) a.1 a.2.2 s (tk O (b :: A) 1).1).2.2.1 N gs ∧ ahd (flt R (a.2.1 / 4) a.1 a.2.2 s (tk O (b :: A) 1).1).2.2.1 R gs = tN (flt R (a.2.1 / 4) a.1 a.2.2 s (tk O (b :: A) 1).1).2.2.1 R (tk O (b :: A) 1).2)) := by
  have cq : cur q := by unfold cur; omega
  have cr : cur r := by unfold cur; omega
  obtain ⟨htT, htM⟩ := tk_tR (b :: A) [b.1] S2 hS
  have happ := tk_app (O := O) (b :: A) 1
  have htk : tk O (b :: A) 1 = (b :: (tk O A (0 + (tP O b).length)).1, (tk O A (0 + (tP O b).length)).2) := rfl
  rw [show ([b.1] : List Int).length = 1 from rfl] at htT htM
  rw [htk] at htT htM happ ⊢
  generalize (tk O A (0 + (tP O b).length)).1 = T at htT happ ⊢
  generalize (tk O A (0 + (tP O b).length)).2 = M at htM happ ⊢
  dsimp only at htT htM happ ⊢
  have hTM : T ++ M = A := (List.cons.inj happ).2
  have hlTM : T.length + M.length = A.length := by rw [← hTM, List.length_append]
  have hxa := hoka.2.2.2.2.2.1 ha2
  have h4a := hg.1.2.2.2.1 (a.2.1 / 4)
  have h4b : b.2.2.length ≤ 4 := by rw [hokb.2.2.2.2.2.2.1 hbn]; exact Nat.zero_le _
  have hokA : okR s.1 N A := by rw [← hA]; exact ahd_ok hg.1.1 hN hcst.2.2.2.2
  have hnoA : nof s.2.1 A := by rw [← hA]; exact ahd_nof hR hg
  have hnb : ¬ isF s.2.1 b := fun z => hbn z.1
  have hokT : okR s.1 N (b :: T) := by
    intro e he
    rcases List.mem_cons.mp he with z | z
    · rw [z]; exact hokb
    · exact hokA e (by rw [← hTM]; exact List.mem_append_left _ z)
  have hnoT : nof s.2.1 (b :: T) := by
    intro e he
    rcases List.mem_cons.mp he with z | z
    · rw [z]; exact hnb
    · exact hnoA e (by rw [← hTM]; exact List.mem_append_left _ z)
  have hokM : okR s.1 N M := fun e he => hokA e (by rw [← hTM]; exact List.mem_append_right _ he)
  have hnoM : nof s.2.1 M := fun e he => hnoA e (by rw [← hTM]; exact List.mem_append_right _ he)
  have hbb := hbk b.1 List.mem_cons_self
  have hhcu : hcu σ q (a.2.1 / 4) a.1 a.2.2 := ⟨ha.2.1, ha.2.2.1, ha.2.2.2.1, ha.2.2.2.2⟩
  obtain ⟨f1, f2, f3, f4⟩ := flt_ok (β := a.1) (x := a.2.2) (T := b :: T) hR hN hb2 hg hΦ hxa hokT hnoT (by rw [hab]; exact htT)
  obtain ⟨m1, m2, m3, m4, m5⟩ := adm_ok (O := O) (told := told) (β := a.1) (x := a.2.2) hR hN (b :: T).length s (b :: T) hg hΦ (by omega) hokT hnoT (Nat.le_refl _)
  have hbk3 : bok ([b.1] ++ S2) (T.length + 1 + M.length) := by rw [show T.length + 1 + M.length = A.length + 1 by omega]; exact hbk
  unfold f_N_fillWithTerm
  refine wp_sq (s_copyFrom (by omega) cur45 cr (by omega) hg.1.2.2.2.1 h4b hcst hb) ?_
  rintro - σ2 ⟨a1, a2, a3⟩
  have n45 : ∀ a, a < 45 → ¬ cP 45 a := fun a ha z => by unfold cP at z; omega
  have c2 := cSt_cP cur45 a1 hc
  have e2 : σ2.1 1 2 = σ.1 1 2 := fx_f a1 (n45 1 (by omega))
  have adP' : Wp (f_N_admitTerm fu q σ2) (fun y τ => y = (adm R (a.2.1 / 4) a.1 a.2.2 (b :: T).length s (b :: T)).1 ∧ cSt τ told (adm R (a.2.1 / 4) a.1 a.2.2 (b :: T).length s (b :: T)).2 ∧ fx XA σ τ ∧ cle σ τ (σ.1 1 2) ∧ σ.1 1 2 ≤ τ.1 1 2 ∧ (y = 0 → τ.1 42 8 = (T.length + 1 : Nat))) := by
    unfold f_N_admitTerm
    refine wp_lb (fun σ3 e3 => ?_)
    have x3 : fx (jst 42) σ2 σ3 := by rw [e3]; exact fx_F fx_rf rfl
    have n42 : ∀ a, a ≠ 42 → ¬ jst 42 a := fun a ha z => ha z
    have f38 : σ3.1 42 8 = 0 := by rw [e3]; exact sF_same _ _ _ _
    have x23 : fx XA σ σ3 := fx_tr (fx_mono a1 (fun a z => Or.inr z)) (fx_mono x3 (fun a z => Or.inl (by have : a = 42 := z; unfold XW; omega)))
    have e33 : σ3.1 1 2 = σ.1 1 2 := by rw [fx_f x3 (n42 1 (by omega)), e2]
    have cl3 : ∀ t, cle σ σ3 t := fun t => cle_tr (cle_cP cur45 a1) (t := t) (fun i _ => ⟨fx_cA x3 (n42 1 (by omega)) (n42 2 (by omega)) i, fx_cB x3 (n42 1 (by omega)) (n42 3 (by omega)) i⟩) (Int.le_refl _)
    refine wp_sr (s_adml (O := O) (told := told) (N := N) (h := a.2.1 / 4) (β := a.1) (x := a.2.2) hq hR hRf hR2 hN hN2 (by omega) (by omega) hb2 (b :: T).length fu 1 0 s b T M [b.1] S2 fs σ3 (Nat.le_refl _) (by rw [List.length_cons]; omega) (Int.le_refl _) (by rw [List.length_cons]; omega) hg (cSt_fx x3 (fun a _ _ z => by have : a = 42 := z; omega) (fun a _ _ _ z => by have : a = 42 := z; omega) c2) (cOp_fx x3 (n42 5 (by omega)) (n42 6 (by omega)) (cOp_fx a1 (n45 5 (by omega)) (n45 6 (by omega)) ho)) hΦ (by omega) (hcu_fx x3 (n42 q (by omega)) (n42 (q + 5) (by omega)) (hcu_fx a1 (n45 q (by omega)) (n45 (q + 5) (by omega)) hhcu)) (grp_go x3 (fun a ha => n42 a (by unfold cP at ha; omega)) a3) (cst_go x3 (fun a ha => n42 a (by unfold cP at ha; omega)) (fun i _ => ⟨fx_cA x3 (n42 1 (by omega)) (n42 2 (by omega)) i, fx_cB x3 (n42 1 (by omega)) (n42 3 (by omega)) i⟩) (by rw [fx_f x3 (n42 1 (by omega))]; exact Int.le_refl _) (fun _ _ => rfl) (fun _ _ z => z) a2) (by rw [hA, hTM]) hokb hnb htT rfl htM hbk3 (by omega) (by rw [f38, List.length_cons]; omega)) ?_ ?_
    · rintro y τ ⟨y1, y2, y3, y4, y5, y6⟩
      have y1' := Sum.inl.inj y1
      refine ⟨y1', y2, fx_tr x23 y3, cle_tr (cl3 _) y4 (by omega), by omega, fun z => ?_⟩
      rw [y6 (y1' ▸ z), f38, Int.zero_add]
    · rintro y τ ⟨y1, -⟩
      cases y1
  refine wp_sq adP' ?_
  rintro a6 σ7 ⟨rfl, b1, b2, b3, b4, b5⟩
  have hadl : (b :: T).length = T.length + 1 := rfl
  unfold flt at f1 f2 f3 f4 ⊢
  generalize hadm : adm R (a.2.1 / 4) a.1 a.2.2 (b :: T).length s (b :: T) = AD at f1 f2 f3 f4 m1 m2 m3 m4 m5 b1 b5 ⊢
  have hxf : fx (XF r) σ σ7 := fx_mono b2 (fun a z => Or.inl z)
  by_cases c : AD.1 = 0
  · rw [if_pos c] at f1 f2 f3 f4
    rw [if_pos c, if_pos c]
    have h42 := b5 c
    by_cases c2 : 80 < (b :: T).length
    · rw [if_pos c2] at f1 f2 f3 f4 ⊢
      exact wp_t (by rw [h42]; omega) (wp_some ⟨rfl, b1, hxf, b3, b4, fun z => absurd z (by decide)⟩)
    · rw [if_neg c2] at f1 f2 f3 f4 ⊢
      refine wp_f (by rw [h42]; omega) (wp_lx ?_)
      have nA : ∀ a, a < 45 → ¬ XW a → ¬ XA a := fun a h1 h2 z => z.elim h2 (n45 a h1)
      have nAr : ∀ a, cP r a → ¬ XA a := fun a ha => nA a (by unfold cP at ha; omega) (XW_cur cr ha)
      have nAq : ∀ a, cP q a → ¬ XA a := fun a ha => nA a (by unfold cP at ha; omega) (XW_cur cq ha)
      have cst7 : cst σ7 r AD.2.1 AD.2.2.1 N fs := cst_go b2 nAr b3 b4 m2.2.1 m2.1 hcst
      have ge7 : grp σ7 r b := grp_go b2 nAr hb
      have hcu7 : hcu σ7 q (a.2.1 / 4) a.1 a.2.2 := hcu_fx b2 (nAq q (by unfold cP; omega)) (nAq (q + 5) (by unfold cP; omega)) hhcu
      have hah : ahd AD.2.2.1 R fs = tN AD.2.2.1 R T ++ tN AD.2.2.1 R M := by rw [ahd_go hR hN hg m1 m2 hcst.2.2.2.2, hA, ← hTM, tN_append]
      have hb1 : tN AD.2.2.1 R (b :: T) = b :: tN AD.2.2.1 R T := by
        rw [tN_cons, tN_open (fun z => hbn z.1)]
        rfl
      have hlT := psd_len hR hN m1 m2 m4 (fun e he => hokT e (List.mem_cons_of_mem _ he)) (fun e he => hnoT e (List.mem_cons_of_mem _ he))
      have hlM := psd_len hR hN m1 m2 m4 hokM hnoM
      have htT7 := tR_N m1.1.2.1 R htT
      rw [hb1] at htT7
      have htM7 := tR_N m1.1.2.1 R htM
      have ht7 := top_le m1.1 m1.2.1 b1
      have n5 : ¬ XA 5 := nA 5 (by omega) (by unfold XW; omega)
      have n6 : ¬ XA 6 := nA 6 (by omega) (by unfold XW; omega)
      have cpP : Wp (f_N_copyTerm fu q r σ7) (fun _ τ => fx (XC r) σ7 τ ∧ cHol τ AD.2.1 AD.2.2.1 ∧ cCel τ ∧ cle σ7 τ (σ7.1 1 2) ∧ σ7.1 1 2 ≤ τ.1 1 2 ∧ cseg τ (σ7.1 1 2) ((tN AD.2.2.1 R (b :: T)).map (ins a.1 a.2.2)) (τ.1 1 2) ∧ ∃ gs, cst τ r AD.2.1 AD.2.2.1 N gs ∧ ahd AD.2.2.1 R gs = tN AD.2.2.1 R M) := by
        unfold f_N_copyTerm
        refine wp_sr (s_cptl (O := O) (told := told) (N := N) (h := a.2.1 / 4) (β := a.1) (x := a.2.2) cq cr hqr hR hRf hR2 hN hN2 (by omega) hoka.1 hb2 m1 (T.length + 1) fu 1 0 (σ7.1 1 2) b [] (tN AD.2.2.1 R T) (tN AD.2.2.1 R M) [b.1] S2 fs σ7 (by omega) (by omega) (Int.le_refl _) (by omega) b1.1 b1.2.1 (by omega) (cOp_fx b2 n5 n6 ho) hcu7 ge7 cst7 hah (okG_pa m2.2.1 hokb) htT7 rfl htM7 (by rw [hlT, hlM]; exact hbk3) (fun z hz => by cases List.mem_singleton.mp hz; omega) rfl (Int.le_refl _)) ?_ ?_
        · rintro y τ ⟨-, y2, y3, y4, y5, y6, y7, y8⟩
          rw [hb1]
          exact ⟨y2, y3, y4, y5, y6, y7, y8⟩
        · rintro y τ ⟨y1, -⟩
          cases y1
      refine wp_sq cpP ?_
      rintro - σ16 ⟨d1, d2, d3, d4, d5, d6, gs, d7, d8⟩
      have nC : ∀ a, 4 ≤ a → a < 30 → ¬ XC r a := fun a h1 h2 z => z.elim (fun w => by unfold X3 at w; omega) (fun w => by unfold cP at w; omega)
      have hqr2 := cur_ne cq cr hqr
      have h168 : σ16.1 q 8 = a.2.1 / 4 := by
        rw [fx_f d1 (fun z => z.elim (fun w => by unfold X3 at w; omega) (fun w => by unfold cP at w; omega))]
        exact hcu7.1
      rw [h168]
      have hph : AD.2.1 (a.2.1 / 4) = s.1 (a.2.1 / 4) := m2.2.1 _ (by omega)
      have hbm := mOk_b m1.1.2.2.2.2.2.2.2.1 m1.2.1
      have hhr := sOk_h m1.1 (g := a.2.1 / 4) (by omega) (by omega)
      have h78 : σ16.1 7 8 = (AD.2.2.2.1.length : Int) := by rw [fx_f d1 (nC 7 (by omega) (by omega))]; exact b1.2.2.2.2.1
      refine wp_sq (s_fillFrom (start := σ7.1 1 2) hhr.1 hhr.2 (by omega) (by omega)) ?_
      intro _ σ21 hfil
      obtain ⟨g1, g2, g3⟩ := cSt_fil (fun a h4 h12 => nC a h4 (by omega)) m1.1 b1 m3 (by omega) (by omega) (by omega) d1 d3 d4 d5 d6 hfil
      have hop := opn_ins (x := a.2.2) (β := a.1) hR m1 (fun e he => m5 c e he)
      have hlF : ((tN AD.2.2.1 R (b :: T)).map (ins a.1 a.2.2)).length ≤ 80 := by
        rw [List.length_map, hb1, List.length_cons, hlT]
        rw [hadl] at c2
        omega
      -- the state behind the filling is good, whatever is answered
      have hsm : sOk O told (sFil AD.2 (a.2.1 / 4) ((tN AD.2.2.1 R (b :: T)).map (ins a.1 a.2.2))) ∧ mOk told (sFil AD.2 (a.2.1 / 4) ((tN AD.2.2.1 R (b :: T)).map (ins a.1 a.2.2))) := by
        by_cases c3 : big R (sFil AD.2 (a.2.1 / 4) ((tN AD.2.2.1 R (b :: T)).map (ins a.1 a.2.2))) = true
        · rw [if_pos c3] at f1 f2; exact ⟨f1, f2⟩
        · rw [if_neg c3] at f1 f2; exact ⟨f1, f2⟩
      have hbd := fil_bd hR m1 m3 hop hlF hsm.1 hsm.2
      refine wp_sq (s_measure (O := O) hR (by omega) hsm.1 hsm.2 hbd g1) ?_
      rintro z σ26 ⟨rfl, k1, k2, -⟩
      have c26 : cSt σ26 told (sFil AD.2 (a.2.1 / 4) ((tN AD.2.2.1 R (b :: T)).map (ins a.1 a.2.2))) := cSt_fx k1 (fun a _ _ z => by have : a = 11 := z; omega) (fun a _ _ h z => h z) g1
      have n11 : ∀ a, a ≠ 11 → ¬ jst 11 a := fun a ha z => ha z
      have cl26 : ∀ t, cle σ21 σ26 t := fun t i _ => ⟨fx_cA k1 (n11 1 (by omega)) (n11 2 (by omega)) i, fx_cB k1 (n11 1 (by omega)) (n11 3 (by omega)) i⟩
      have x2126 : fx XW σ16 σ26 := fx_tr (X79_XW hfil.1) (fx_mono k1 (fun a z => by have : a = 11 := z; unfold XW; omega))
      have hXF : fx (XF r) σ σ26 := fx_tr (fx_tr hxf (fx_mono d1 (fun a z => z.elim (fun w => Or.inl (Or.inl (by unfold X3 at w; unfold XW; omega))) Or.inr))) (fx_mono x2126 (fun a z => Or.inl (Or.inl z)))
      have e26 : σ26.1 1 2 = σ16.1 1 2 := by rw [k2 1 2, g3]
      have clA : cle σ σ26 (σ.1 1 2) := cle_tr (cle_tr b3 g2 b4) (cl26 (σ.1 1 2)) (Int.le_refl _)
      by_cases c3 : big R (sFil AD.2 (a.2.1 / 4) ((tN AD.2.2.1 R (b :: T)).map (ins a.1 a.2.2))) = true
      · rw [if_pos c3]
        exact wp_t (big_mxs.mpr c3) (wp_some ⟨rfl, c26, hXF, clA, by omega, fun z => absurd z (by decide)⟩)
      · rw [if_neg c3] at f1 f2 f3 f4 ⊢
        refine wp_f (fun z => c3 (big_mxs.mp z)) (wp_some ⟨rfl, c26, hXF, clA, by omega, fun _ => ⟨gs, ?_, ?_⟩⟩)
        · exact cst_go x2126 (fun a ha => XW_cur cr ha) (fun i hi => ⟨by rw [(cl26 (i + 1) i (by omega)).1, (hfil.2.2.1 i).1], by rw [(cl26 (i + 1) i (by omega)).2, (hfil.2.2.1 i).2]⟩) (by omega) (fun _ _ => rfl) (xt_fil m3) d7
        · have hg8 : gOk O told R (sFil AD.2 (a.2.1 / 4) ((tN AD.2.2.1 R (b :: T)).map (ins a.1 a.2.2))) := ⟨f1, f2, f4 rfl⟩
          rw [ahd_go hR hN m1 hg8 (sx2_fil m3) d7.2.2.2.2, d8]
          exact tN_cmp hR hg8 (xt_fil m3) R M
  · rw [if_neg c] at f1 f2 f3 f4
    rw [if_neg c, if_neg c]
    exact wp_some ⟨rfl, b1, hxf, b3, b4, fun z => absurd z c⟩

/-! The class links its positions. -/
section LI2
variable {F : Nat}
theorem sorted_ext : ∀ (l m : List Nat), l.Pairwise (· < ·) → m.Pairwise (· < ·) → (∀ x, x ∈ l ↔ x ∈ m) → l = m := by
  intro l
  induction l with
  | nil =>
    intro m _ _ h
    cases m with
    | nil => rfl
    | cons y m => exact absurd ((h y).mpr (List.mem_cons_self ..)) List.not_mem_nil
  | cons x l ih =>
    intro m h1 h2 h
    cases m with
    | nil => exact absurd ((h x).mp (List.mem_cons_self ..)) List.not_mem_nil
    | cons y m =>
      rw [List.pairwise_cons] at h1 h2
      have xy : x = y := by
        rcases List.mem_cons.mp ((h x).mp (List.mem_cons_self ..)) with q | q
        · exact q
        · rcases List.mem_cons.mp ((h y).mpr (List.mem_cons_self ..)) with p | p
          · exact p.symm
          · have a := h2.1 x q
            have b := h1.1 y p
            omega
      subst xy
      congr 1
      refine ih m h1.2 h2.2 (fun z => ⟨fun q => ?_, fun q => ?_⟩)
      · rcases List.mem_cons.mp ((h z).mp (List.mem_cons_of_mem _ q)) with p | p
        · have := h1.1 z q; omega
        · exact p
      · rcases List.mem_cons.mp ((h z).mpr (List.mem_cons_of_mem _ q)) with p | p
        · have := h2.1 z q; omega
        · exact p
theorem csb_ne {c : Nat → Nat} {a b : Nat} (h : a ≠ b) : csb c b a = c a := by
  unfold csb
  rw [if_neg h]
theorem dh_peel {c : Nat → Nat} {h : Nat} {t : List Nat} (e : dh c = h :: t) : t = (dh (csb c h)).filter (fun g => decide (g ≠ h)) := by
  have s := dh_sorted c
  rw [e, List.pairwise_cons] at s
  refine sorted_ext _ _ s.2 (List.Pairwise.filter _ (dh_sorted _)) (fun x => ⟨fun q => ?_, fun q => ?_⟩)
  · have lt := s.1 x q
    have m := dh_mem.mp (show x ∈ dh c by rw [e]; exact List.mem_cons_of_mem _ q)
    exact List.mem_filter.mpr ⟨dh_mem.mpr ⟨m.1, by rw [csb_ne (by omega)]; exact m.2⟩, decide_eq_true (by omega)⟩
  · obtain ⟨m1, m2⟩ := List.mem_filter.mp q
    have ne := of_decide_eq_true m2
    have m := dh_mem.mp m1
    rw [csb_ne ne] at m
    have : x ∈ dh c := dh_mem.mpr m
    rw [e] at this
    rcases List.mem_cons.mp this with z | z
    · exact absurd z ne
    · exact z
theorem csb_comm {c : Nat → Nat} {a b : Nat} (h : a ≠ b) (ha : 0 < c a) : cad (csb (csb c a) b) a = csb c b := by
  funext x
  unfold cad csb
  by_cases e1 : x = a
  · subst e1
    rw [if_pos rfl, if_neg h, if_pos rfl, if_neg h]
    omega
  · rw [if_neg e1]
    by_cases e2 : x = b
    · rw [if_pos e2, if_pos e2, if_neg e1]
    · rw [if_neg e2, if_neg e2, if_neg e1]
/-- everything below p is linked -/
def Lnk (σ : jxS) (p : Nat) : Prop := (∀ b : Nat, b ≤ 23 → σ 24 b = (fo b : Int)) ∧ (∀ h : Nat, 1 ≤ h → h ≤ 13 → σ 25 h = (jsn h : Int)) ∧ (∀ (h : Nat) (c : Nat → Nat), 1 ≤ h → h ≤ 12 → okc c → beans c + h ≤ 22 → rank (cad c h) < p → σ 26 ((jsn h + rank c : Nat) : Int) = (rank (cad c h) : Int)) ∧ (∀ (c : Nat → Nat), okc c → beans c ≤ 22 → rank c < p → ∀ (j h : Nat), (dh c)[j]? = some h → σ 28 ((ps (rank c) + j : Nat) : Int) = ((8192 * h + rank (csb c h) : Nat) : Int))
def P2628 (a : Nat) (_ : Int) : Prop := a = 26 ∨ a = 28
/-- so many of the links of c are laid -/
def Dne (σ : jxS) (c : Nat → Nat) (d : List Nat) : Prop := ∀ (i g : Nat), d[i]? = some g → σ 28 ((ps (rank c) + i : Nat) : Int) = ((8192 * g + rank (csb c g) : Nat) : Int) ∧ σ 26 (lkx c g : Int) = (rank c : Int)
theorem cl_link {σ : jxS} {c : Nat → Nat} {d r : List Nat} {g : Nat} (hc : okc c) (hb : beans c ≤ 22) (hd : dh c = d ++ g :: r) (hL : Lnk σ (rank c)) (hD : Dne σ c d) : ∃ σ', Positions_link F σ (rank c) g (rank (csb c g)) ((ps (rank c) + d.length : Nat) : Int) = some (((ps (rank c) + (d ++ [g]).length : Nat) : Int), σ') ∧ jfr P2628 σ σ' ∧ Lnk σ' (rank c) ∧ Dne σ' c (d ++ [g]) := by
  obtain ⟨⟨g1, g2⟩, g3⟩ := dh_mem.mp (show g ∈ dh c by rw [hd]; exact List.mem_append_right _ (List.mem_cons_self ..))
  have lb := lkx_b hb g1 g2 g3
  have jm := jsn_mono (a := g + 1) (b := 13) (by omega) (by omega) (by omega)
  rw [jsn_13] at jm
  have rt := rank_top hb
  have pt := ps_top
  have psu := ps_succ hc hb
  have pm := ps_mono (a := rank c + 1) (b := 4224) (by omega)
  have dl : (dh c).length = d.length + r.length + 1 := by rw [hd, List.length_append, List.length_cons]; omega
  generalize hn : ps (rank c) + d.length = n
  have nl : n < 13724 := by omega
  obtain ⟨w24, w25, w26, w28⟩ := hL
  have wj := w25 g g1 (by omega)
  have ej : (jsn g : Int) + (rank (csb c g) : Int) = (lkx c g : Int) := by rw [lkx]; omega
  have l2 : lkx c g < 13724 := by omega
  generalize hx : lkx c g = x at lb l2 ej
  have f : jfr P2628 σ (jup (jup σ 28 (n : Int) ((8192 * g + rank (csb c g) : Nat) : Int)) 26 (x : Int) (rank c : Int)) := jfr_up (jfr_up (jfr_refl _ _) (Or.inr rfl)) (Or.inl rfl)
  refine ⟨_, ?_, f, ⟨fun b hb' => by rw [f 24 _ (by simp [P2628])]; exact w24 b hb', fun h h1 h2 => by rw [f 25 _ (by simp [P2628])]; exact w25 h h1 h2, fun h c' h1 h2 hc' hb' hr => ?_, fun c' hc' hb' hr j h hj => ?_⟩, fun i k hk => ?_⟩
  · have st : 8192 * (g : Int) + (rank (csb c g) : Int) = ((8192 * g + rank (csb c g) : Nat) : Int) := by omega
    have e5 : ((ps (rank c) + (d ++ [g]).length : Nat) : Int) = (n : Int) + 1 := by rw [List.length_append, List.length_singleton]; omega
    rw [e5, Positions_link, if_pos (show 0 ≤ (g : Int) ∧ (g : Int) < 14 by omega), if_pos (show jw (n : Int) < 14202 by rw [jw_id (by omega) (by omega)]; omega), wj, ej, if_neg (show ¬ jw (x : Int) < 0 by rw [jw_id (by omega) (by omega)]; omega), if_pos (show jw (x : Int) < 14202 by rw [jw_id (by omega) (by omega)]; omega), if_pos (show 0 ≤ (n : Int) ∧ (n : Int) < 14202 by omega), if_pos (show 0 ≤ (x : Int) ∧ (x : Int) < 14202 by omega), st]
  · have ne : jsn h + rank c' ≠ x := fun q => by
      have bc := beans_cad c' (h := h) h1 h2
      have e6 : lkx (cad c' h) h = jsn h + rank c' := by rw [lkx, csb_cad]
      have := (lkx_inj (okc_cad hc' h1 h2) hc (by omega) hb h1 h2 (by unfold cad; rw [if_pos rfl]; omega) g1 g2 g3 (by rw [e6, hx]; exact q)).2
      rw [this] at hr
      omega
    rw [jup_k (by omega), jup_o (by omega)]
    exact w26 h c' h1 h2 hc' hb' hr
  · have jl := (List.getElem?_eq_some_iff.mp hj).1
    have p1 := ps_succ hc' hb'
    have p2 := ps_mono (a := rank c' + 1) (b := rank c) (by omega)
    rw [jup_o (by omega), jup_k (by omega)]
    exact w28 c' hc' hb' hr j h hj
  · by_cases e : i = d.length
    · subst e
      rw [List.getElem?_append_right (Nat.le_refl _), Nat.sub_self] at hk
      have : g = k := Option.some.inj hk
      subst this
      exact ⟨by rw [jup_o (by omega), hn, jup_s], by rw [hx, jup_s]⟩
    · have il := (List.getElem?_eq_some_iff.mp hk).1
      rw [List.length_append, List.length_singleton] at il
      rw [List.getElem?_append_left (by omega)] at hk
      obtain ⟨u1, u2⟩ := hD i k hk
      refine ⟨by rw [jup_o (by omega), jup_k (by omega)]; exact u1, ?_⟩
      by_cases e2 : lkx c k = x
      · rw [e2, jup_s]
      · rw [jup_k (fun z => e2 (Int.ofNat_inj.mp z)), jup_o (by omega)]
        exact u2
theorem clo_loop {c : Nat → Nat} {h0 : Nat} {σ0 : jxS} (hc : okc c) (hb : beans c ≤ 22) (hp : 0 < c h0) (h1 : 1 ≤ h0) (h2 : h0 ≤ 12) (w27 : ∀ q : Nat, q ≤ rank c → σ0 27 q = (ps q : Int)) : ∀ (r : List Nat) (fu j : Nat) (d : List Nat) (σ : jxS), (dh (csb c h0)).drop j = r → r.length + j = (dh (csb c h0)).length → r.length < fu → dh c = d ++ r.filter (fun g => decide (g ≠ h0)) → jfr P2628 σ0 σ → Lnk σ (rank c) → Dne σ c d → ∃ σ', Positions_linkOthers_c18 F fu (rank c) h0 ((ps (rank c) + d.length : Nat) : Int) ((ps (rank (csb c h0)) + (dh (csb c h0)).length : Nat) : Int) ((ps (rank (csb c h0)) + j : Nat) : Int) σ = some ((ps (rank c + 1) : Int), σ') ∧ jfr P2628 σ0 σ' ∧ Lnk σ' (rank c) ∧ Dne σ' c (dh c) := by
  intro r
  have bs := beans_csb h1 h2 hp
  have rk : rank (csb c h0) < rank c := rank_mono (by omega)
  have ok0 := okc_csb (h := h0) hc
  have ps1 := ps_succ ok0 (by omega)
  have pm := ps_mono (a := rank (csb c h0) + 1) (b := 4224) (by have := rank_top hb; omega)
  have pt := ps_top
  have rt := rank_top hb
  induction r with
  | nil =>
    intro fu j d σ e1 e2 e3 e4 f hL hD
    obtain ⟨fu, rfl⟩ : ∃ k, fu = k + 1 := ⟨fu - 1, by omega⟩
    simp only [List.length_nil] at e2
    rw [List.filter_nil, List.append_nil] at e4
    refine ⟨σ, ?_, f, hL, e4 ▸ hD⟩
    rw [Positions_linkOthers_c18, if_neg (show ¬ jw ((ps (rank (csb c h0)) + j : Nat) : Int) < jw ((ps (rank (csb c h0)) + (dh (csb c h0)).length : Nat) : Int) by rw [jw_id (by omega) (by omega), jw_id (by omega) (by omega)]; omega), ps_succ hc hb, e4]
  | cons g r ih =>
    intro fu j d σ e1 e2 e3 e4 f hL hD
    obtain ⟨fu, rfl⟩ : ∃ k, fu = k + 1 := ⟨fu - 1, by omega⟩
    simp only [List.length_cons] at e2 e3
    obtain ⟨hk, hr⟩ := drop_o e1
    obtain ⟨⟨g1, g2⟩, g3⟩ := dh_mem.mp (List.mem_of_getElem? hk)
    have w28 := hL.2.2.2 (csb c h0) ok0 (by omega) rk j g hk
    have bg := beans_csb (c := csb c h0) g1 g2 g3
    have rg := rank_top (c := csb (csb c h0) g) (by omega)
    obtain ⟨he, hre⟩ := px_heap (F := F) (σ := σ) (p := ((ps (rank (csb c h0)) + j : Nat) : Int)) (h := (g : Int)) (r := (rank (csb (csb c h0) g) : Int)) (by omega) (by omega) (by omega) (by omega) (by omega) (by omega) (by rw [w28]; omega)
    rw [Positions_linkOthers_c18, if_pos (show jw ((ps (rank (csb c h0)) + j : Nat) : Int) < jw ((ps (rank (csb c h0)) + (dh (csb c h0)).length : Nat) : Int) by rw [jw_id (by omega) (by omega), jw_id (by omega) (by omega)]; omega), he, jbs]
    dsimp only
    rw [show ((ps (rank (csb c h0)) + j : Nat) : Int) + 1 = ((ps (rank (csb c h0)) + (j + 1) : Nat) : Int) by omega]
    by_cases q : g = h0
    · rw [List.filter_cons, if_neg (by simp [q])] at e4
      rw [if_pos (show jw (g : Int) = jw (h0 : Int) by rw [q])]
      exact ih fu (j + 1) d σ hr (by omega) (by omega) e4 f hL hD
    · rw [List.filter_cons, if_pos (by simpa using q)] at e4
      rw [if_neg (show ¬ jw (g : Int) = jw (h0 : Int) by rw [jw_id (by omega) (by omega), jw_id (by omega) (by omega)]; omega), hre, jbs]
      dsimp only
      have cg : 0 < c g := by rw [csb_ne q] at g3; exact g3
      have bcg := beans_csb (c := c) g1 g2 cg
      have cm := csb_comm (c := c) (a := h0) (b := g) (fun z => q z.symm) hp
      have rl : rank (csb c g) < rank c := rank_mono (by omega)
      have w26 := hL.2.2.1 h0 (csb (csb c h0) g) h1 h2 (okc_csb ok0) (by omega) (by rw [cm]; exact rl)
      rw [cm] at w26
      have jn := px_join (F := F) (σ := σ) (p := (rank (csb (csb c h0) g) : Int)) (h := (h0 : Int)) (f := (fo (23 - h0) : Int)) (s := (jsn h0 : Int)) (r := (rank (csb c g) : Int)) (by omega) (by omega) (by omega) (by have := hL.1 (23 - h0) (by omega); rw [show (23 : Int) - h0 = ((23 - h0 : Nat) : Int) by omega]; exact this) (by have := fo_le (b := 23 - h0) (by omega); omega) (by have : rank (csb (csb c h0) g) < fo (23 - h0) := rank_beans.mpr (by omega); omega) (hL.2.1 h0 h1 (by omega)) (by omega) (by have := jsn_le h0 (by omega) h1; have : rank (csb (csb c h0) g) < fo (23 - h0) := rank_beans.mpr (by omega); omega) (by rw [← Int.natCast_add]; exact w26)
      rw [jn, jbs]
      dsimp only
      obtain ⟨σ1, l1, l2, l3, l4⟩ := cl_link (F := F) hc hb e4 hL hD
      rw [l1, jbs]
      exact ih fu (j + 1) (d ++ [g]) σ1 hr (by omega) (by omega) (by rw [List.append_assoc]; exact e4) (jfr_trans f l2) l3 l4
theorem lnk_s {σ : jxS} {c : Nat → Nat} (hc : okc c) (hb : beans c ≤ 22) (hL : Lnk σ (rank c)) (hD : Dne σ c (dh c)) : Lnk σ (rank c + 1) := by
  obtain ⟨a, b, d, e⟩ := hL
  refine ⟨a, b, fun h c' h1 h2 hc' hb' hr => ?_, fun c' hc' hb' hr j h hj => ?_⟩
  · by_cases q : rank (cad c' h) = rank c
    · have bc := beans_cad c' (h := h) h1 h2
      have ec := rank_inj (okc_cad hc' h1 h2) hc q
      have hm : h ∈ dh c := dh_mem.mpr ⟨⟨h1, h2⟩, by rw [← ec]; unfold cad; rw [if_pos rfl]; omega⟩
      obtain ⟨i, hi⟩ := List.getElem?_of_mem hm
      have := (hD i h hi).2
      rw [lkx, ← ec, csb_cad] at this
      exact this
    · exact d h c' h1 h2 hc' hb' (by omega)
  · by_cases q : rank c' = rank c
    · have ec := rank_inj hc' hc q
      subst ec
      exact (hD j h hj).1
    · exact e c' hc' hb' (by omega) j h hj
theorem ca_linkParts {σ : jxS} {c : Nat → Nat} (hc : okc c) (hb : beans c ≤ 22) (hW : WyC σ 1) (w27 : ∀ q : Nat, q ≤ rank c → σ 27 q = (ps q : Int)) (hL : Lnk σ (rank c)) (hF : 100 ≤ F) : ∃ σ', Positions_linkParts F σ (rank c) (beans c) (ps (rank c)) = some ((ps (rank c + 1) : Int), σ') ∧ jfr P2628 σ σ' ∧ Lnk σ' (rank c + 1) := by
  have rr := rank_row c
  have w24 := hL.1 (beans c) (by omega)
  have row : (rank c : Int) - (fo (beans c) : Int) = (rwk 12 c (beans c) : Int) := by omega
  have rt := rank_top hb
  rw [Positions_linkParts, if_pos (show 0 ≤ (beans c : Int) ∧ (beans c : Int) < 24 by omega), w24, row]
  have rwl : rwk 12 c (beans c) ≤ 4224 := by omega
  cases e : dh c with
  | nil =>
    have b0 : beans c = 0 := by
      by_cases q : 0 < beans c
      · obtain ⟨h, hh⟩ := dh_ne hc q
        rw [e] at hh
        simp at hh
      · omega
    obtain ⟨F', rfl⟩ : ∃ k, F = k + 1 := ⟨F - 1, by omega⟩
    have s := ps_succ hc hb
    rw [e, List.length_nil, Nat.add_zero] at s
    rw [Positions_linkParts_c13, if_neg (show ¬ 12 < jw 1 by decide), if_pos (show jw (beans c : Int) < jw 1 by rw [b0]; decide), s]
    exact ⟨σ, rfl, jfr_refl _ _, lnk_s hc hb hL (by rw [e]; exact fun i g hg => by simp at hg)⟩
  | cons h0 t =>
    obtain ⟨⟨h1, h2⟩, hp⟩ := dh_mem.mp (show h0 ∈ dh c by rw [e]; exact List.mem_cons_self ..)
    have srt := dh_sorted c
    rw [e, List.pairwise_cons] at srt
    have low : ∀ x, 1 ≤ x → x < h0 → c x = 0 := fun x x1 x2 => by
      by_cases q : 0 < c x
      · have m : x ∈ dh c := dh_mem.mpr ⟨⟨x1, by omega⟩, q⟩
        rw [e] at m
        rcases List.mem_cons.mp m with z | z
        · omega
        · have := srt.1 x z; omega
      · omega
    have bs := beans_csb h1 h2 hp
    have rl := rank_least h1 h2 hp low
    have rr0 := rank_row (csb c h0)
    have hbe : beans (csb c h0) = beans c - h0 := by omega
    rw [hbe] at rr0
    have pe := dh_peel e
    have ok0 := okc_csb (h := h0) hc
    have rk : rank (csb c h0) < rank c := rank_mono (by omega)
    have fin : ∀ fu, ∃ σ', Positions_linkParts_c13 F (fu + 1) (rank c) (beans c) (ps (rank c)) (rwk 12 c (beans c) : Int) (h0 : Int) σ = some ((ps (rank c + 1) : Int), σ') ∧ jfr P2628 σ σ' ∧ Lnk σ' (rank c + 1) := by
      intro fu
      have ww := hW (h0 + 1) (beans c) (by omega) (by omega) hb
      rw [show ((h0 + 1 : Nat) : Int) = (h0 : Int) + 1 by omega, show 13 - (h0 + 1) = 12 - h0 by omega] at ww
      have wo := cw_of (F := F) (k := (h0 : Int) + 1) (b := (beans c : Int)) (by omega) (by omega) (by omega) (by omega) ww
      have wfo := hL.1 (beans c - h0) (by omega)
      rw [show ((beans c - h0 : Nat) : Int) = (beans c : Int) - h0 by omega] at wfo
      obtain ⟨σ1, l1, l2, l3, l4⟩ := cl_link (F := F) (d := []) (g := h0) (r := t) hc hb e hL (fun i g hg => by simp at hg)
      rw [List.length_nil, Nat.add_zero, List.nil_append] at l1
      rw [List.nil_append] at l4
      have w27' : ∀ q : Nat, q ≤ rank c → σ1 27 q = (ps q : Int) := fun q hq => by rw [l2 27 _ (by simp [P2628])]; exact w27 q hq
      obtain ⟨σ2, m1, m2, m3, m4⟩ := clo_loop (F := F) (σ0 := σ1) hc hb hp h1 h2 w27' (dh (csb c h0)) F 0 [h0] σ1 rfl (Nat.add_zero _) (by have := dh_len (csb c h0); omega) (by rw [e, pe]; rfl) (jfr_refl _ _) l3 l4
      have rt0 := rank_top (c := csb c h0) (by omega)
      have fp : Positions_firstPart F σ1 (rank (csb c h0)) = some ((ps (rank (csb c h0)) : Int), σ1) := px_first (by omega) (by omega) (w27' _ (by omega))
      have ep : Positions_endPart F σ1 (rank (csb c h0)) = some (((ps (rank (csb c h0)) + (dh (csb c h0)).length : Nat) : Int), σ1) := px_end (by omega) (by omega) (by
        have := w27' (rank (csb c h0) + 1) (by omega)
        rw [show ((rank (csb c h0) + 1 : Nat) : Int) = (rank (csb c h0) : Int) + 1 by omega, ps_succ ok0 (by omega)] at this
        exact this)
      refine ⟨σ2, ?_, jfr_trans l2 m2, lnk_s hc hb m3 m4⟩
      have re : (fo (beans c - h0) : Int) + (rwk 12 c (beans c) : Int) - (wy (12 - h0) (beans c) : Int) = (rank (csb c h0) : Int) := by omega
      have ahl : wy (12 - h0) (beans c) ≤ rwk 12 c (beans c) := by omega
      have lo : Positions_linkOthers F σ1 (rank c) h0 (rank (csb c h0)) ((ps (rank c) + [h0].length : Nat) : Int) = some ((ps (rank c + 1) : Int), σ2) := by
        rw [Positions_linkOthers, ep, jbs]
        dsimp only
        rw [fp, jbs]
        exact m1
      have h0b : h0 ≤ beans c := by omega
      rw [Positions_linkParts_c13, if_neg (show ¬ 12 < jw (h0 : Int) by rw [jw_id (by omega) (by omega)]; omega), if_neg (show ¬ jw (beans c : Int) < jw (h0 : Int) by rw [jw_id (by omega) (by omega), jw_id (by omega) (by omega)]; omega), wo, jbs]
      dsimp only
      rw [if_neg (show ¬ jw (rwk 12 c (beans c) : Int) < jw (wy (12 - h0) (beans c) : Int) by rw [jw_id (by omega) (by omega), jw_id (by omega) (by omega)]; omega), if_pos (show 0 ≤ (beans c : Int) - h0 ∧ (beans c : Int) - h0 < 24 by omega), wfo, re, l1, jbs]
      dsimp only
      rw [lo, jbs]
    have walk : ∀ (n fu x : Nat), n + x = h0 → 1 ≤ x → n < fu → ∃ σ', Positions_linkParts_c13 F fu (rank c) (beans c) (ps (rank c)) (rwk 12 c (beans c) : Int) (x : Int) σ = some ((ps (rank c + 1) : Int), σ') ∧ jfr P2628 σ σ' ∧ Lnk σ' (rank c + 1) := by
      intro n
      induction n with
      | zero =>
        intro fu x e1 e2 e3
        obtain ⟨fu, rfl⟩ : ∃ k, fu = k + 1 := ⟨fu - 1, by omega⟩
        rw [show x = h0 by omega]
        exact fin fu
      | succ n ih =>
        intro fu x e1 e2 e3
        obtain ⟨fu, rfl⟩ : ∃ k, fu = k + 1 := ⟨fu - 1, by omega⟩
        have ww := hW (x + 1) (beans c) (by omega) (by omega) hb
        rw [show ((x + 1 : Nat) : Int) = (x : Int) + 1 by omega, show 13 - (x + 1) = 12 - x by omega] at ww
        have wo := cw_of (F := F) (k := (x : Int) + 1) (b := (beans c : Int)) (by omega) (by omega) (by omega) (by omega) ww
        have sm := rank_small (c := c) (h := x) e2 (by omega) (fun y y1 y2 => low y y1 (by omega))
        have wl := wy_le (k := 12 - x) (b := beans c) (by omega) hb
        obtain ⟨σ', i1, i2, i3⟩ := ih fu (x + 1) (by omega) (by omega) (by omega)
        rw [show ((x + 1 : Nat) : Int) = (x : Int) + 1 by omega] at i1
        refine ⟨σ', ?_, i2, i3⟩
        rw [Positions_linkParts_c13, if_neg (show ¬ 12 < jw (x : Int) by rw [jw_id (by omega) (by omega)]; omega), if_neg (show ¬ jw (beans c : Int) < jw (x : Int) by rw [jw_id (by omega) (by omega), jw_id (by omega) (by omega)]; omega), wo, jbs]
        dsimp only
        rw [if_pos (show jw (rwk 12 c (beans c) : Int) < jw (wy (12 - x) (beans c) : Int) by rw [jw_id (by omega) (by omega), jw_id (by omega) (by omega)]; omega)]
        exact i1
    exact walk (h0 - 1) F 1 (by omega) (by omega) (by omega)
theorem lnk_pos {σ : jxS} (w27 : ∀ q : Nat, q ≤ 4224 → σ 27 q = (ps q : Int)) (hL : Lnk σ 4224) : PosOK σ := by
  obtain ⟨a, b, d, e⟩ := hL
  have pt := ps_top
  refine ⟨a, b, fun h c h1 h2 hc hb => ?_, w27, fun c hc hb => e c hc hb (rank_top hb), by omega⟩
  have bc := beans_cad c (h := h) h1 h2
  exact d h c h1 h2 hc hb (rank_top (by omega))
end LI2

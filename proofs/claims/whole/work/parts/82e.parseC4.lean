/-! The class's reader: the text. -/
section PE
variable {F : Nat} {σ : jxS} {l : List Nat}
def LsC (σ : jxS) (ls : List lnT) : Prop := ∀ (i : Nat) (x : lnT), ls[i]? = some x → entL σ i x
def semC (σ : jxS) (l : List Nat) (x : Int) (p : Nat) : Prop := if bt l p = -1 then x = 0 ∧ σ 3 9 = 0 else if bt l p = 59 then x = 1 ∧ σ 3 9 = 0 ∧ RdC σ l (p + 1) else x = 0 ∧ σ 3 9 = ((8 * p + 1 : Nat) : Int)
theorem rc_semi {k : Nat} (h : RdC σ l k) (hk : k ≤ l.length) (h9 : σ 3 9 = 0) (hF : 1000 ≤ F) : ∃ x σ', Reader_passSemicolon F σ = some (x, σ') ∧ jfr FtP σ σ' ∧ semC σ' l x (skp l k) := by
  obtain ⟨σ1, a1, a2, a3⟩ := rc_skip (F := F) h hk hF
  have s := skp_b (l := l) hk
  have l2 := (RdC_len a3)
  have n9 : σ1 3 9 = 0 := by rw [a2 3 9 (by simp [At8])]; exact h9
  have f1 : jfr FtP σ σ1 := jfr_mono a2 (fun a j q => ⟨q.1, Or.inl q.2⟩)
  rw [Reader_passSemicolon, a1, jbs]
  dsimp only
  rw [Tape_size, jbs]
  dsimp only
  generalize skp l k = p at a3 s
  have b := bt_iR (j := p) h.2.1
  unfold semC
  by_cases y : p < l.length
  · have nb := bt_no y
    rw [if_pos (show jw (σ1 3 8) < jw (σ1 1 1) by rw [a3.2.2, l2.1, jw_id (by omega) (by omega), jw_id (by omega) (by omega)]; omega), a3.2.2, rc_at a3 (by omega), jbs]
    dsimp only
    by_cases z : bt l p = 59
    · rw [if_pos (show jw (bt l p) = 59 by rw [jw_id b.1 b.2]; exact z), a3.2.2, show (p : Int) + 1 = ((p + 1 : Nat) : Int) by omega]
      refine ⟨_, _, rfl, jfr_up f1 ⟨rfl, Or.inl rfl⟩, ?_⟩
      rw [if_neg nb, if_pos z]
      exact ⟨rfl, by rw [jup_k (by omega)]; exact n9, RdC_up a3⟩
    · rw [if_neg (show ¬ jw (bt l p) = 59 by rw [jw_id b.1 b.2]; exact z), a3.2.2, rc_fail n9, jbs]
      refine ⟨_, _, rfl, jfr_up f1 ⟨rfl, Or.inr rfl⟩, ?_⟩
      rw [if_neg nb, if_neg z]
      dsimp only
      exact ⟨rfl, by rw [jup_s]; omega⟩
  · rw [if_neg (show ¬ jw (σ1 3 8) < jw (σ1 1 1) by rw [a3.2.2, l2.1, jw_id (by omega) (by omega), jw_id (by omega) (by omega)]; omega)]
    refine ⟨_, _, rfl, f1, ?_⟩
    rw [if_pos (bt_out (by omega))]
    exact ⟨rfl, n9⟩
def RTP (a : Nat) (j : Int) : Prop := (a = 3 ∧ 6 ≤ j ∧ j ≤ 9) ∨ (4 ≤ a ∧ a ≤ 8)
theorem LnP_RTP {n a : Nat} {j : Int} (h : LnP n a j) : RTP a j := by
  simp only [LnP] at h
  simp only [RTP]
  omega
theorem FtP_RTP {a : Nat} {j : Int} (h : FtP a j) : RTP a j := by
  simp only [FtP] at h
  simp only [RTP]
  omega
theorem entL_fr {σ' : jxS} {n m : Nat} {x : lnT} {P : Nat → Int → Prop} (h : entL σ m x) (f : jfr P σ σ') (hp : ∀ a j, P a j → LnP n a j) (hm : m < n) : entL σ' m x := by
  have no : ∀ a j, ¬ LnP n a j → σ' a j = σ a j := fun a j q => f a j (fun z => q (hp a j z))
  obtain ⟨h1, h2, h3⟩ := h
  refine ⟨by rw [no 5 _ (by simp only [LnP]; omega)]; exact h1, fun q => ?_, fun q => ⟨?_, fun i y hy => ?_⟩⟩
  · obtain ⟨u1, u2, u3⟩ := h2 q
    exact ⟨by rw [no 6 _ (by simp only [LnP]; omega)]; exact u1, by rw [no 7 _ (by simp only [LnP]; omega)]; exact u2, by rw [no 8 _ (by simp only [LnP]; omega)]; exact u3⟩
  · rw [no 3 6 (by simp only [LnP]; omega)]; exact (h3 q).1
  · rw [no 4 _ (by simp only [LnP]; omega)]; exact (h3 q).2 i y hy
theorem LsC_fr {σ' : jxS} {ls : List lnT} (h : LsC σ ls) (f : jfr FtP σ σ') : LsC σ' ls := fun i x hx =>
  entL_fr (n := i + 1) (h i x hx) f (fun a j q => by simp only [FtP] at q; simp only [LnP]; omega) (by omega)
def txtC (σ : jxS) (x : Int) (r : Nat ⊕ List lnT) : Prop := match r with
  | .inl e => x = -2 - (e : Int)
  | .inr ls => x = (ls.length : Int) ∧ LsC σ ls ∧ σ 3 7 = (ls.length : Int)
theorem rt_end {x : Int} {fu : Nat} {e : Nat} (h9 : σ 3 9 = (e : Int)) (e1 : 1 ≤ e) (e2 : e ≤ 1700) : Reader_readText_c24 F (fu + 1) 0 x σ = some (-2 - (e : Int), σ) := by
  rw [Reader_readText_c24, if_pos (show jw 0 = 0 from rfl), Reader_readText_c64, if_neg (show ¬ jw (σ 3 9) = 0 by rw [h9, jw_id (by omega) (by omega)]; omega), h9]
theorem rc_text_c : ∀ (f fu n k : Nat) (ls : List lnT) (σ : jxS), RdC σ l k → k ≤ l.length → σ 3 9 = 0 → σ 3 7 = (n : Int) → ls.length = n → n + f = 16 → LsC σ ls → (n = 0 → σ 3 6 = 0) → f + 2 < fu → 1000 ≤ F → ∃ x σ', Reader_readText_c24 F fu 1 n σ = some (x, σ') ∧ jfr RTP σ σ' ∧ txtC σ' x (txtS l (f + 1) n k ls) := by
  intro f
  induction f with
  | zero =>
    intro fu n k ls σ h hk h9 w ln hn hls h6 hfu hF
    obtain ⟨fu, rfl⟩ : ∃ k, fu = k + 1 := ⟨fu - 1, by omega⟩
    obtain ⟨σ1, a1, a2, a3⟩ := rc_line (F := F) h hk h9 w (by omega) h6 hF
    have lb := linS_b h.2.1 (RdC_len h).2 (n := n) hk
    rw [Reader_readText_c24, if_neg (show ¬ jw 1 = 0 by decide), if_neg (show ¬ 16 < jw (n : Int) by rw [jw_id (by omega) (by omega)]; omega), a1, jbs, txtS]
    dsimp only
    cases e : linS l n k with
    | inl c =>
      rw [e] at a3 lb
      have a3' : σ1 3 9 = (c : Int) := a3
      have lb' : 1 ≤ c ∧ c ≤ 1700 := lb
      rw [if_neg (show ¬ jw (σ1 3 9) = 0 by rw [a3', jw_id (by omega) (by omega)]; omega)]
      obtain ⟨fu, rfl⟩ : ∃ k, fu = k + 1 := ⟨fu - 1, by omega⟩
      exact ⟨_, σ1, rt_end a3' lb'.1 lb'.2, jfr_mono a2 (fun a j => LnP_RTP), rfl⟩
    | inr r =>
      obtain ⟨x, k1⟩ := r
      rw [e] at lb
      exact absurd (show n = 16 by omega) lb.2.2.1
  | succ f ih =>
    intro fu n k ls σ h hk h9 w ln hn hls h6 hfu hF
    obtain ⟨fu, rfl⟩ : ∃ k, fu = k + 1 := ⟨fu - 1, by omega⟩
    obtain ⟨σ1, a1, a2, a3⟩ := rc_line (F := F) h hk h9 w (by omega) h6 hF
    have l2 := (RdC_len h).2
    have lb := linS_b h.2.1 l2 (n := n) hk
    rw [Reader_readText_c24, if_neg (show ¬ jw 1 = 0 by decide), if_neg (show ¬ 16 < jw (n : Int) by rw [jw_id (by omega) (by omega)]; omega), a1, jbs, txtS]
    dsimp only
    cases e : linS l n k with
    | inl c =>
      rw [e] at a3 lb
      have a3' : σ1 3 9 = (c : Int) := a3
      have lb' : 1 ≤ c ∧ c ≤ 1700 := lb
      rw [if_neg (show ¬ jw (σ1 3 9) = 0 by rw [a3', jw_id (by omega) (by omega)]; omega)]
      obtain ⟨fu, rfl⟩ : ∃ k, fu = k + 1 := ⟨fu - 1, by omega⟩
      exact ⟨_, σ1, rt_end a3' lb'.1 lb'.2, jfr_mono a2 (fun a j => LnP_RTP), rfl⟩
    | inr r =>
      obtain ⟨x, k1⟩ := r
      rw [e] at a3 lb
      obtain ⟨q1, q2, q3, q4⟩ := a3
      have k1l : k1 ≤ l.length := lb.1
      obtain ⟨y, σ2, b1, b2, b3⟩ := rc_semi (F := F) q2 k1l q1 hF
      have s := skp_b (l := l) k1l
      rw [if_pos (show jw (σ1 3 9) = 0 by rw [q1]; rfl), b1, jbs]
      dsimp only
      generalize skp l k1 = p at b3 s
      have g2 : jfr RTP σ σ2 := jfr_trans (jfr_mono a2 (fun a j => LnP_RTP)) (jfr_mono b2 (fun a j => FtP_RTP))
      have w2 : σ2 3 7 = (n : Int) + 1 := by rw [b2 3 7 (by simp [FtP])]; exact q3
      have hls2 : LsC σ2 (ls ++ [x]) := by
        refine LsC_fr (fun i z hz => ?_) b2
        by_cases ei : i = n
        · subst ei
          rw [List.getElem?_append_right (by omega), ln, Nat.sub_self] at hz
          rw [← Option.some.inj hz]
          exact q4
        · have il := (List.getElem?_eq_some_iff.mp hz).1
          rw [List.length_append, List.length_singleton] at il
          rw [List.getElem?_append_left (by omega)] at hz
          exact entL_fr (n := n) (hls i z hz) a2 (fun a j q => q) (by omega)
      have ll2 : (ls ++ [x]).length = n + 1 := by rw [List.length_append, List.length_singleton, ln]
      unfold semC at b3
      by_cases y1 : bt l p = -1
      · rw [if_pos y1] at b3
        obtain ⟨r1, r2⟩ := b3
        subst r1
        rw [if_pos (show jw 0 = 0 from rfl), if_pos y1]
        obtain ⟨fu, rfl⟩ : ∃ k, fu = k + 1 := ⟨fu - 1, by omega⟩
        refine ⟨((n : Int) + 1), σ2, ?_, g2, ?_⟩
        · rw [Reader_readText_c24, if_pos (show jw 0 = 0 from rfl), Reader_readText_c64, if_pos (show jw (σ2 3 9) = 0 by rw [r2]; rfl), w2]
        · exact ⟨by rw [ll2]; omega, hls2, by rw [ll2, w2]; omega⟩
      · rw [if_neg y1] at b3 ⊢
        by_cases y2 : bt l p = 59
        · rw [if_pos y2] at b3 ⊢
          obtain ⟨r1, r2, r3⟩ := b3
          subst r1
          have pl := bt_in (l := l) (k := p) y1
          rw [if_neg (show ¬ jw 1 = 0 by decide)]
          obtain ⟨z, σ3, d1, d2, d3⟩ := ih fu (n + 1) (p + 1) (ls ++ [x]) σ2 r3 (by omega) r2 (by rw [w2]; omega) ll2 (by omega) hls2 (fun q => by omega) (by omega) hF
          refine ⟨z, σ3, ?_, jfr_trans g2 d2, d3⟩
          rw [show ((n + 1 : Nat) : Int) = (n : Int) + 1 by omega] at d1
          exact d1
        · rw [if_neg y2] at b3 ⊢
          obtain ⟨r1, r2⟩ := b3
          subst r1
          rw [if_pos (show jw 0 = 0 from rfl)]
          obtain ⟨fu, rfl⟩ : ∃ k, fu = k + 1 := ⟨fu - 1, by omega⟩
          exact ⟨_, σ2, rt_end r2 (by omega) (by omega), g2, rfl⟩
theorem rc_text (h : TpC σ (tpN l)) (hl : ∀ b, b ∈ l → b < 256) (hF : 1000 ≤ F) : ∃ x σ', Reader_readText F σ = some (x, σ') ∧ jfr RTP σ σ' ∧ txtC σ' x (txt l) := by
  have f0 : jfr RTP σ (jup (jup (jup (jup σ 3 8 0) 3 9 0) 3 7 0) 3 6 0) := jfr_up (jfr_up (jfr_up (jfr_up (jfr_refl _ _) (Or.inl ⟨rfl, by omega, by omega⟩)) (Or.inl ⟨rfl, by omega, by omega⟩)) (Or.inl ⟨rfl, by omega, by omega⟩)) (Or.inl ⟨rfl, by omega, by omega⟩)
  have r0 : RdC (jup (jup (jup (jup σ 3 8 0) 3 9 0) 3 7 0) 3 6 0) l 0 := ⟨TpC_fr h f0 (by simp [RTP]) (fun j => by simp only [RTP]; omega), hl, by rw [jup_k (by omega), jup_k (by omega), jup_k (by omega), jup_s]; rfl⟩
  obtain ⟨x, σ', a1, a2, a3⟩ := rc_text_c (F := F) (l := l) 16 F 0 0 [] _ r0 (Nat.zero_le _) (by rw [jup_k (by omega), jup_k (by omega), jup_s]) (by rw [jup_k (by omega), jup_s]; rfl) rfl (by omega) (fun i x hx => by simp at hx) (fun _ => by rw [jup_s]) (by omega) hF
  exact ⟨x, σ', a1, jfr_trans f0 a2, a3⟩
end PE

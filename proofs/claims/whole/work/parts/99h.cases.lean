/-! Each call of the law: both sides answer alike. -/
/-- without a game, or with one -/
def PhR (sh : List jxC) (σ σm : jxS) : Prop := (sh = jshL0 ∧ R0 σ σm) ∨ (sh = jshL1 ∧ R1 σ σm)
def jMX (y : MethodName) (bytes : ByteArray) (maxL : Nat) (sh : List jxC) (σ : jxS) (as : List jxV) (r : Int) (σ1 : jxS) : Prop := ∃ fr lo, (fr + 1 ≤ 12 ∧ 8 + (maxL + 11) + lo ≤ 434) ∧ jMC y bytes maxL (jrt 1) fr lo sh σ (jmr 0 :: as) (some (jmi r)) σ1
theorem jMX_of {y : MethodName} {bytes : ByteArray} {maxL fr lo : Nat} {sh : List jxC} {σ σ1 : jxS} {as : List jxV} {r : Int} (h : jMC y bytes maxL (jrt 1) fr lo sh σ (jmr 0 :: as) (some (jmi r)) σ1) (hr : fr + 1 ≤ 12 ∧ 8 + (maxL + 11) + lo ≤ 434) : jMX y bytes maxL sh σ as r σ1 := ⟨fr, lo, hr, h⟩
section LCS
variable {F : Nat} {sh : List jxC} {σ σm : jxS}
theorem lc_feed (hF : 6000 ≤ F) {v1 : Int} {v2 : Int} {v3 : Int} {v4 : Int} {v5 : Int} (h1 : iR v1) (h2 : iR v2) (h3 : iR v3) (h4 : iR v4) (h5 : iR v5) (h : PhR sh σ σm) : ∃ r σ' σm', jMX yX11_feed cX11_feed 6 sh σ [jmi v1, jmi v2, jmi v3, jmi v4, jmi v5] r σ' ∧ jMX yX12_feed cX12_feed 8 jshM σm [jmi v1, jmi v2, jmi v3, jmi v4, jmi v5] r σm' ∧ PhR sh σ' σm' := by
  rcases h with ⟨rfl, h⟩ | ⟨rfl, h⟩
  · obtain ⟨r, σ', σm', e1, e2, e3⟩ : OK0 (LL0_feed F σ v1 v2 v3 v4 v5) (Model_feed F σm v1 v2 v3 v4 v5) := z_feed h1 h2 h3 h4 h5 h (by omega)
    exact ⟨r, σ', σm', jMX_of (jmet_LL0_feed F jshL0 jhs_L0 σ v1 v2 v3 v4 v5 r σ' e1) ⟨jble rfl, jble rfl⟩, jMX_of (jmet_Model_feed F jshM jhs_M σm v1 v2 v3 v4 v5 r σm' e2) ⟨jble rfl, jble rfl⟩, Or.inl ⟨rfl, e3⟩⟩
  · obtain ⟨r, σ', σm', e1, e2, e3⟩ : OK1 (LL1_feed F σ v1 v2 v3 v4 v5) (Model_feed F σm v1 v2 v3 v4 v5) := k_feed h1 h2 h3 h4 h5 h (by omega)
    exact ⟨r, σ', σm', jMX_of (jmet_LL1_feed F jshL1 jhs_L1 σ v1 v2 v3 v4 v5 r σ' e1) ⟨jble rfl, jble rfl⟩, jMX_of (jmet_Model_feed F jshM jhs_M σm v1 v2 v3 v4 v5 r σm' e2) ⟨jble rfl, jble rfl⟩, Or.inr ⟨rfl, e3⟩⟩
theorem lc_end (hF : 6000 ≤ F) {v1 : Int} (h1 : iR v1) (h : PhR sh σ σm) : ∃ r σ' σm', jMX yX11_end cX11_end 2 sh σ [jmi v1] r σ' ∧ jMX yX12_end cX12_end 2 jshM σm [jmi v1] r σm' ∧ PhR sh σ' σm' := by
  rcases h with ⟨rfl, h⟩ | ⟨rfl, h⟩
  · obtain ⟨r, σ', σm', e1, e2, e3⟩ : OK0 (LL0_end F σ v1) (Model_end F σm v1) := z_end h1 h
    exact ⟨r, σ', σm', jMX_of (jmet_LL0_end F jshL0 jhs_L0 σ v1 r σ' e1) ⟨jble rfl, jble rfl⟩, jMX_of (jmet_Model_end F jshM jhs_M σm v1 r σm' e2) ⟨jble rfl, jble rfl⟩, Or.inl ⟨rfl, e3⟩⟩
  · obtain ⟨r, σ', σm', e1, e2, e3⟩ : OK1 (LL1_end F σ v1) (Model_end F σm v1) := k_end h1 h
    exact ⟨r, σ', σm', jMX_of (jmet_LL1_end F jshL1 jhs_L1 σ v1 r σ' e1) ⟨jble rfl, jble rfl⟩, jMX_of (jmet_Model_end F jshM jhs_M σm v1 r σm' e2) ⟨jble rfl, jble rfl⟩, Or.inr ⟨rfl, e3⟩⟩
theorem lc_moves (hF : 6000 ≤ F) {v1 : Int} (h1 : iR v1) (h : PhR sh σ σm) : ∃ r σ' σm', jMX yX11_moves cX11_moves 2 sh σ [jmi v1] r σ' ∧ jMX yX12_moves cX12_moves 2 jshM σm [jmi v1] r σm' ∧ PhR sh σ' σm' := by
  rcases h with ⟨rfl, h⟩ | ⟨rfl, h⟩
  · obtain ⟨r, σ', σm', e1, e2, e3⟩ : OK0 (LL0_moves F σ v1) (Model_moves F σm v1) := z_moves h
    exact ⟨r, σ', σm', jMX_of (jmet_LL0_moves F jshL0 jhs_L0 σ v1 r σ' e1) ⟨jble rfl, jble rfl⟩, jMX_of (jmet_Model_moves F jshM jhs_M σm v1 r σm' e2) ⟨jble rfl, jble rfl⟩, Or.inl ⟨rfl, e3⟩⟩
  · obtain ⟨r, σ', σm', e1, e2, e3⟩ : OK1 (LL1_moves F σ v1) (Model_moves F σm v1) := k_moves h1 h
    exact ⟨r, σ', σm', jMX_of (jmet_LL1_moves F jshL1 jhs_L1 σ v1 r σ' e1) ⟨jble rfl, jble rfl⟩, jMX_of (jmet_Model_moves F jshM jhs_M σm v1 r σm' e2) ⟨jble rfl, jble rfl⟩, Or.inr ⟨rfl, e3⟩⟩
theorem lc_option (hF : 6000 ≤ F) {v1 : Int} {v2 : Int} {v3 : Int} (h1 : iR v1) (h2 : iR v2) (h3 : iR v3) (h : PhR sh σ σm) : ∃ r σ' σm', jMX yX11_option cX11_option 5 sh σ [jmi v1, jmi v2, jmi v3] r σ' ∧ jMX yX12_option cX12_option 4 jshM σm [jmi v1, jmi v2, jmi v3] r σm' ∧ PhR sh σ' σm' := by
  rcases h with ⟨rfl, h⟩ | ⟨rfl, h⟩
  · obtain ⟨r, σ', σm', e1, e2, e3⟩ : OK0 (LL0_option F σ v1 v2 v3) (Model_option F σm v1 v2 v3) := z_option h
    exact ⟨r, σ', σm', jMX_of (jmet_LL0_option F jshL0 jhs_L0 σ v1 v2 v3 r σ' e1) ⟨jble rfl, jble rfl⟩, jMX_of (jmet_Model_option F jshM jhs_M σm v1 v2 v3 r σm' e2) ⟨jble rfl, jble rfl⟩, Or.inl ⟨rfl, e3⟩⟩
  · obtain ⟨r, σ', σm', e1, e2, e3⟩ : OK1 (LL1_option F σ v1 v2 v3) (Model_option F σm v1 v2 v3) := k_option h1 h2 h3 h
    exact ⟨r, σ', σm', jMX_of (jmet_LL1_option F jshL1 jhs_L1 σ v1 v2 v3 r σ' e1) ⟨jble rfl, jble rfl⟩, jMX_of (jmet_Model_option F jshM jhs_M σm v1 v2 v3 r σm' e2) ⟨jble rfl, jble rfl⟩, Or.inr ⟨rfl, e3⟩⟩
theorem lc_nimber (hF : 6000 ≤ F) {v1 : Int} (h1 : iR v1) (h : PhR sh σ σm) : ∃ r σ' σm', jMX yX11_nimber cX11_nimber 2 sh σ [jmi v1] r σ' ∧ jMX yX12_nimber cX12_nimber 2 jshM σm [jmi v1] r σm' ∧ PhR sh σ' σm' := by
  rcases h with ⟨rfl, h⟩ | ⟨rfl, h⟩
  · obtain ⟨r, σ', σm', e1, e2, e3⟩ : OK0 (LL0_nimber F σ v1) (Model_nimber F σm v1) := z_nimber h
    exact ⟨r, σ', σm', jMX_of (jmet_LL0_nimber F jshL0 jhs_L0 σ v1 r σ' e1) ⟨jble rfl, jble rfl⟩, jMX_of (jmet_Model_nimber F jshM jhs_M σm v1 r σm' e2) ⟨jble rfl, jble rfl⟩, Or.inl ⟨rfl, e3⟩⟩
  · obtain ⟨r, σ', σm', e1, e2, e3⟩ : OK1 (LL1_nimber F σ v1) (Model_nimber F σm v1) := k_nimber h1 h
    exact ⟨r, σ', σm', jMX_of (jmet_LL1_nimber F jshL1 jhs_L1 σ v1 r σ' e1) ⟨jble rfl, jble rfl⟩, jMX_of (jmet_Model_nimber F jshM jhs_M σm v1 r σm' e2) ⟨jble rfl, jble rfl⟩, Or.inr ⟨rfl, e3⟩⟩
theorem lc_period (hF : 6000 ≤ F) {v1 : Int} (h1 : iR v1) (h : PhR sh σ σm) : ∃ r σ' σm', jMX yX11_period cX11_period 2 sh σ [jmi v1] r σ' ∧ jMX yX12_period cX12_period 4 jshM σm [jmi v1] r σm' ∧ PhR sh σ' σm' := by
  rcases h with ⟨rfl, h⟩ | ⟨rfl, h⟩
  · obtain ⟨r, σ', σm', e1, e2, e3⟩ : OK0 (LL0_period F σ v1) (Model_period F σm v1) := z_period h
    exact ⟨r, σ', σm', jMX_of (jmet_LL0_period F jshL0 jhs_L0 σ v1 r σ' e1) ⟨jble rfl, jble rfl⟩, jMX_of (jmet_Model_period F jshM jhs_M σm v1 r σm' e2) ⟨jble rfl, jble rfl⟩, Or.inl ⟨rfl, e3⟩⟩
  · obtain ⟨r, σ', σm', e1, e2, e3⟩ : OK1 (LL1_period F σ v1) (Model_period F σm v1) := k_period h1 h (by omega)
    exact ⟨r, σ', σm', jMX_of (jmet_LL1_period F jshL1 jhs_L1 σ v1 r σ' e1) ⟨jble rfl, jble rfl⟩, jMX_of (jmet_Model_period F jshM jhs_M σm v1 r σm' e2) ⟨jble rfl, jble rfl⟩, Or.inr ⟨rfl, e3⟩⟩
theorem lc_odd (hF : 6000 ≤ F) {v1 : Int} (h1 : iR v1) (h : PhR sh σ σm) : ∃ r σ' σm', jMX yX11_odd cX11_odd 2 sh σ [jmi v1] r σ' ∧ jMX yX12_odd cX12_odd 2 jshM σm [jmi v1] r σm' ∧ PhR sh σ' σm' := by
  rcases h with ⟨rfl, h⟩ | ⟨rfl, h⟩
  · obtain ⟨r, σ', σm', e1, e2, e3⟩ : OK0 (LL0_odd F σ v1) (Model_odd F σm v1) := z_odd h
    exact ⟨r, σ', σm', jMX_of (jmet_LL0_odd F jshL0 jhs_L0 σ v1 r σ' e1) ⟨jble rfl, jble rfl⟩, jMX_of (jmet_Model_odd F jshM jhs_M σm v1 r σm' e2) ⟨jble rfl, jble rfl⟩, Or.inl ⟨rfl, e3⟩⟩
  · obtain ⟨r, σ', σm', e1, e2, e3⟩ : OK1 (LL1_odd F σ v1) (Model_odd F σm v1) := k_odd h1 h (by omega)
    exact ⟨r, σ', σm', jMX_of (jmet_LL1_odd F jshL1 jhs_L1 σ v1 r σ' e1) ⟨jble rfl, jble rfl⟩, jMX_of (jmet_Model_odd F jshM jhs_M σm v1 r σm' e2) ⟨jble rfl, jble rfl⟩, Or.inr ⟨rfl, e3⟩⟩
theorem lc_wild (hF : 6000 ≤ F) {v1 : Int} (h1 : iR v1) (h : PhR sh σ σm) : ∃ r σ' σm', jMX yX11_wild cX11_wild 2 sh σ [jmi v1] r σ' ∧ jMX yX12_wild cX12_wild 2 jshM σm [jmi v1] r σm' ∧ PhR sh σ' σm' := by
  rcases h with ⟨rfl, h⟩ | ⟨rfl, h⟩
  · obtain ⟨r, σ', σm', e1, e2, e3⟩ : OK0 (LL0_wild F σ v1) (Model_wild F σm v1) := z_wild h
    exact ⟨r, σ', σm', jMX_of (jmet_LL0_wild F jshL0 jhs_L0 σ v1 r σ' e1) ⟨jble rfl, jble rfl⟩, jMX_of (jmet_Model_wild F jshM jhs_M σm v1 r σm' e2) ⟨jble rfl, jble rfl⟩, Or.inl ⟨rfl, e3⟩⟩
  · obtain ⟨r, σ', σm', e1, e2, e3⟩ : OK1 (LL1_wild F σ v1) (Model_wild F σm v1) := k_wild h1 h (by omega)
    exact ⟨r, σ', σm', jMX_of (jmet_LL1_wild F jshL1 jhs_L1 σ v1 r σ' e1) ⟨jble rfl, jble rfl⟩, jMX_of (jmet_Model_wild F jshM jhs_M σm v1 r σm' e2) ⟨jble rfl, jble rfl⟩, Or.inr ⟨rfl, e3⟩⟩
theorem lc_put (hF : 6000 ≤ F) {v1 : Int} (h1 : iR v1) (h : PhR sh σ σm) : ∃ r σ' σm', jMX yX11_put cX11_put 3 sh σ [jmi v1] r σ' ∧ jMX yX12_put cX12_put 2 jshM σm [jmi v1] r σm' ∧ PhR sh σ' σm' := by
  rcases h with ⟨rfl, h⟩ | ⟨rfl, h⟩
  · obtain ⟨r, σ', σm', e1, e2, e3⟩ : OK0 (LL0_put F σ v1) (Model_put F σm v1) := z_put h
    exact ⟨r, σ', σm', jMX_of (jmet_LL0_put F jshL0 jhs_L0 σ v1 r σ' e1) ⟨jble rfl, jble rfl⟩, jMX_of (jmet_Model_put F jshM jhs_M σm v1 r σm' e2) ⟨jble rfl, jble rfl⟩, Or.inl ⟨rfl, e3⟩⟩
  · obtain ⟨r, σ', σm', e1, e2, e3⟩ : OK1 (LL1_put F σ v1) (Model_put F σm v1) := k_put h1 h (by omega)
    exact ⟨r, σ', σm', jMX_of (jmet_LL1_put F jshL1 jhs_L1 σ v1 r σ' e1) ⟨jble rfl, jble rfl⟩, jMX_of (jmet_Model_put F jshM jhs_M σm v1 r σm' e2) ⟨jble rfl, jble rfl⟩, Or.inr ⟨rfl, e3⟩⟩
theorem lc_move (hF : 6000 ≤ F) {v1 : Int} {v2 : Int} {v3 : Int} (h1 : iR v1) (h2 : iR v2) (h3 : iR v3) (h : PhR sh σ σm) : ∃ r σ' σm', jMX yX11_move cX11_move 6 sh σ [jmi v1, jmi v2, jmi v3] r σ' ∧ jMX yX12_move cX12_move 4 jshM σm [jmi v1, jmi v2, jmi v3] r σm' ∧ PhR sh σ' σm' := by
  rcases h with ⟨rfl, h⟩ | ⟨rfl, h⟩
  · obtain ⟨r, σ', σm', e1, e2, e3⟩ : OK0 (LL0_move F σ v1 v2 v3) (Model_move F σm v1 v2 v3) := z_move h
    exact ⟨r, σ', σm', jMX_of (jmet_LL0_move F jshL0 jhs_L0 σ v1 v2 v3 r σ' e1) ⟨jble rfl, jble rfl⟩, jMX_of (jmet_Model_move F jshM jhs_M σm v1 v2 v3 r σm' e2) ⟨jble rfl, jble rfl⟩, Or.inl ⟨rfl, e3⟩⟩
  · obtain ⟨r, σ', σm', e1, e2, e3⟩ : OK1 (LL1_move F σ v1 v2 v3) (Model_move F σm v1 v2 v3) := k_move h1 h2 h3 h (by omega)
    exact ⟨r, σ', σm', jMX_of (jmet_LL1_move F jshL1 jhs_L1 σ v1 v2 v3 r σ' e1) ⟨jble rfl, jble rfl⟩, jMX_of (jmet_Model_move F jshM jhs_M σm v1 v2 v3 r σm' e2) ⟨jble rfl, jble rfl⟩, Or.inr ⟨rfl, e3⟩⟩
theorem lc_reply (hF : 6000 ≤ F) (h : PhR sh σ σm) : ∃ r σ' σm', jMX yX11_reply cX11_reply 1 sh σ [] r σ' ∧ jMX yX12_reply cX12_reply 2 jshM σm [] r σm' ∧ PhR sh σ' σm' := by
  rcases h with ⟨rfl, h⟩ | ⟨rfl, h⟩
  · obtain ⟨r, σ', σm', e1, e2, e3⟩ : OK0 (LL0_reply F σ ) (Model_reply F σm ) := z_reply h
    exact ⟨r, σ', σm', jMX_of (jmet_LL0_reply F jshL0 jhs_L0 σ  r σ' e1) ⟨jble rfl, jble rfl⟩, jMX_of (jmet_Model_reply F jshM jhs_M σm  r σm' e2) ⟨jble rfl, jble rfl⟩, Or.inl ⟨rfl, e3⟩⟩
  · obtain ⟨r, σ', σm', e1, e2, e3⟩ : OK1 (LL1_reply F σ ) (Model_reply F σm ) := k_reply h (by omega)
    exact ⟨r, σ', σm', jMX_of (jmet_LL1_reply F jshL1 jhs_L1 σ  r σ' e1) ⟨jble rfl, jble rfl⟩, jMX_of (jmet_Model_reply F jshM jhs_M σm  r σm' e2) ⟨jble rfl, jble rfl⟩, Or.inr ⟨rfl, e3⟩⟩
theorem lc_clear (hF : 6000 ≤ F) (h : PhR sh σ σm) : ∃ r σ' σm', jMX yX11_clear cX11_clear 2 sh σ [] r σ' ∧ jMX yX12_clear cX12_clear 3 jshM σm [] r σm' ∧ PhR sh σ' σm' := by
  rcases h with ⟨rfl, h⟩ | ⟨rfl, h⟩
  · obtain ⟨r, σ', σm', e1, e2, e3⟩ : OK0 (LL0_clear F σ ) (Model_clear F σm ) := z_clear h (by omega)
    exact ⟨r, σ', σm', jMX_of (jmet_LL0_clear F jshL0 jhs_L0 σ  r σ' e1) ⟨jble rfl, jble rfl⟩, jMX_of (jmet_Model_clear F jshM jhs_M σm  r σm' e2) ⟨jble rfl, jble rfl⟩, Or.inl ⟨rfl, e3⟩⟩
  · obtain ⟨r, σ', σm', e1, e2, e3⟩ : OK1 (LL1_clear F σ ) (Model_clear F σm ) := k_clear h (by omega)
    exact ⟨r, σ', σm', jMX_of (jmet_LL1_clear F jshL1 jhs_L1 σ  r σ' e1) ⟨jble rfl, jble rfl⟩, jMX_of (jmet_Model_clear F jshM jhs_M σm  r σm' e2) ⟨jble rfl, jble rfl⟩, Or.inr ⟨rfl, e3⟩⟩
theorem lc_undo (hF : 6000 ≤ F) (h : PhR sh σ σm) : ∃ r σ' σm', jMX yX11_undo cX11_undo 1 sh σ [] r σ' ∧ jMX yX12_undo cX12_undo 2 jshM σm [] r σm' ∧ PhR sh σ' σm' := by
  rcases h with ⟨rfl, h⟩ | ⟨rfl, h⟩
  · obtain ⟨r, σ', σm', e1, e2, e3⟩ : OK0 (LL0_undo F σ ) (Model_undo F σm ) := z_undo h
    exact ⟨r, σ', σm', jMX_of (jmet_LL0_undo F jshL0 jhs_L0 σ  r σ' e1) ⟨jble rfl, jble rfl⟩, jMX_of (jmet_Model_undo F jshM jhs_M σm  r σm' e2) ⟨jble rfl, jble rfl⟩, Or.inl ⟨rfl, e3⟩⟩
  · obtain ⟨r, σ', σm', e1, e2, e3⟩ : OK1 (LL1_undo F σ ) (Model_undo F σm ) := k_undo h (by omega)
    exact ⟨r, σ', σm', jMX_of (jmet_LL1_undo F jshL1 jhs_L1 σ  r σ' e1) ⟨jble rfl, jble rfl⟩, jMX_of (jmet_Model_undo F jshM jhs_M σm  r σm' e2) ⟨jble rfl, jble rfl⟩, Or.inr ⟨rfl, e3⟩⟩
theorem lc_hand (hF : 6000 ≤ F) {v1 : Int} (h1 : iR v1) (h : PhR sh σ σm) : ∃ r σ' σm', jMX yX11_hand cX11_hand 2 sh σ [jmi v1] r σ' ∧ jMX yX12_hand cX12_hand 2 jshM σm [jmi v1] r σm' ∧ PhR sh σ' σm' := by
  rcases h with ⟨rfl, h⟩ | ⟨rfl, h⟩
  · obtain ⟨r, σ', σm', e1, e2, e3⟩ : OK0 (LL0_hand F σ v1) (Model_hand F σm v1) := z_hand h1 h (by omega)
    exact ⟨r, σ', σm', jMX_of (jmet_LL0_hand F jshL0 jhs_L0 σ v1 r σ' e1) ⟨jble rfl, jble rfl⟩, jMX_of (jmet_Model_hand F jshM jhs_M σm v1 r σm' e2) ⟨jble rfl, jble rfl⟩, Or.inl ⟨rfl, e3⟩⟩
  · obtain ⟨r, σ', σm', e1, e2, e3⟩ : OK1 (LL1_hand F σ v1) (Model_hand F σm v1) := k_hand h1 h (by omega)
    exact ⟨r, σ', σm', jMX_of (jmet_LL1_hand F jshL1 jhs_L1 σ v1 r σ' e1) ⟨jble rfl, jble rfl⟩, jMX_of (jmet_Model_hand F jshM jhs_M σm v1 r σm' e2) ⟨jble rfl, jble rfl⟩, Or.inr ⟨rfl, e3⟩⟩
theorem lc_state (hF : 6000 ≤ F) {v1 : Int} (h1 : iR v1) (h : PhR sh σ σm) : ∃ r σ' σm', jMX yX11_state cX11_state 2 sh σ [jmi v1] r σ' ∧ jMX yX12_state cX12_state 3 jshM σm [jmi v1] r σm' ∧ PhR sh σ' σm' := by
  rcases h with ⟨rfl, h⟩ | ⟨rfl, h⟩
  · obtain ⟨r, σ', σm', e1, e2, e3⟩ : OK0 (LL0_state F σ v1) (Model_state F σm v1) := z_state h
    exact ⟨r, σ', σm', jMX_of (jmet_LL0_state F jshL0 jhs_L0 σ v1 r σ' e1) ⟨jble rfl, jble rfl⟩, jMX_of (jmet_Model_state F jshM jhs_M σm v1 r σm' e2) ⟨jble rfl, jble rfl⟩, Or.inl ⟨rfl, e3⟩⟩
  · obtain ⟨r, σ', σm', e1, e2, e3⟩ : OK1 (LL1_state F σ v1) (Model_state F σm v1) := k_state h1 h (by omega)
    exact ⟨r, σ', σm', jMX_of (jmet_LL1_state F jshL1 jhs_L1 σ v1 r σ' e1) ⟨jble rfl, jble rfl⟩, jMX_of (jmet_Model_state F jshM jhs_M σm v1 r σm' e2) ⟨jble rfl, jble rfl⟩, Or.inr ⟨rfl, e3⟩⟩
theorem lc_genus (hF : 6000 ≤ F) {v1 : Int} (h1 : iR v1) (h : PhR sh σ σm) : ∃ r σ' σm', jMX yX11_genus cX11_genus 2 sh σ [jmi v1] r σ' ∧ jMX yX12_genus cX12_genus 2 jshM σm [jmi v1] r σm' ∧ PhR sh σ' σm' := by
  rcases h with ⟨rfl, h⟩ | ⟨rfl, h⟩
  · obtain ⟨r, σ', σm', e1, e2, e3⟩ : OK0 (LL0_genus F σ v1) (Model_genus F σm v1) := z_genus h
    exact ⟨r, σ', σm', jMX_of (jmet_LL0_genus F jshL0 jhs_L0 σ v1 r σ' e1) ⟨jble rfl, jble rfl⟩, jMX_of (jmet_Model_genus F jshM jhs_M σm v1 r σm' e2) ⟨jble rfl, jble rfl⟩, Or.inl ⟨rfl, e3⟩⟩
  · obtain ⟨r, σ', σm', e1, e2, e3⟩ : OK1 (LL1_genus F σ v1) (Model_genus F σm v1) := k_genus h1 h (by omega)
    exact ⟨r, σ', σm', jMX_of (jmet_LL1_genus F jshL1 jhs_L1 σ v1 r σ' e1) ⟨jble rfl, jble rfl⟩, jMX_of (jmet_Model_genus F jshM jhs_M σm v1 r σm' e2) ⟨jble rfl, jble rfl⟩, Or.inr ⟨rfl, e3⟩⟩
theorem lc_line (hF : 6000 ≤ F) {v1 : Int} (h1 : iR v1) (h : PhR sh σ σm) : ∃ r σ' σm', jMX yX11_line cX11_line 2 sh σ [jmi v1] r σ' ∧ jMX yX12_line cX12_line 4 jshM σm [jmi v1] r σm' ∧ PhR sh σ' σm' := by
  rcases h with ⟨rfl, h⟩ | ⟨rfl, h⟩
  · obtain ⟨r, σ', σm', e1, e2, e3⟩ : OK0 (LL0_line F σ v1) (Model_line F σm v1) := z_line h
    exact ⟨r, σ', σm', jMX_of (jmet_LL0_line F jshL0 jhs_L0 σ v1 r σ' e1) ⟨jble rfl, jble rfl⟩, jMX_of (jmet_Model_line F jshM jhs_M σm v1 r σm' e2) ⟨jble rfl, jble rfl⟩, Or.inl ⟨rfl, e3⟩⟩
  · obtain ⟨r, σ', σm', e1, e2, e3⟩ : OK1 (LL1_line F σ v1) (Model_line F σm v1) := k_line h1 h (by omega)
    exact ⟨r, σ', σm', jMX_of (jmet_LL1_line F jshL1 jhs_L1 σ v1 r σ' e1) ⟨jble rfl, jble rfl⟩, jMX_of (jmet_Model_line F jshM jhs_M σm v1 r σm' e2) ⟨jble rfl, jble rfl⟩, Or.inr ⟨rfl, e3⟩⟩
theorem lc_losers (hF : 6000 ≤ F) {v1 : Int} {v2 : Int} (h1 : iR v1) (h2 : iR v2) (h : PhR sh σ σm) : ∃ r σ' σm', jMX yX11_losers cX11_losers 4 sh σ [jmi v1, jmi v2] r σ' ∧ jMX yX12_losers cX12_losers 6 jshM σm [jmi v1, jmi v2] r σm' ∧ PhR sh σ' σm' := by
  rcases h with ⟨rfl, h⟩ | ⟨rfl, h⟩
  · obtain ⟨r, σ', σm', e1, e2, e3⟩ : OK0 (LL0_losers F σ v1 v2) (Model_losers F σm v1 v2) := z_losers h2 h
    exact ⟨r, σ', σm', jMX_of (jmet_LL0_losers F jshL0 jhs_L0 σ v1 v2 r σ' e1) ⟨jble rfl, jble rfl⟩, jMX_of (jmet_Model_losers F jshM jhs_M σm v1 v2 r σm' e2) ⟨jble rfl, jble rfl⟩, Or.inl ⟨rfl, e3⟩⟩
  · obtain ⟨r, σ', σm', e1, e2, e3⟩ : OK1 (LL1_losers F σ v1 v2) (Model_losers F σm v1 v2) := k_losers h1 h2 h (by omega)
    exact ⟨r, σ', σm', jMX_of (jmet_LL1_losers F jshL1 jhs_L1 σ v1 v2 r σ' e1) ⟨jble rfl, jble rfl⟩, jMX_of (jmet_Model_losers F jshM jhs_M σm v1 v2 r σm' e2) ⟨jble rfl, jble rfl⟩, Or.inr ⟨rfl, e3⟩⟩
theorem lc_keep (hF : 6000 ≤ F) {v1 : Int} (h1 : iR v1) (h : PhR sh σ σm) : ∃ r σ' σm', jMX yX11_keep cX11_keep 2 sh σ [jmi v1] r σ' ∧ jMX yX12_keep cX12_keep 3 jshM σm [jmi v1] r σm' ∧ PhR sh σ' σm' := by
  rcases h with ⟨rfl, h⟩ | ⟨rfl, h⟩
  · obtain ⟨r, σ', σm', e1, e2, e3⟩ : OK0 (LL0_keep F σ v1) (Model_keep F σm v1) := z_keep h
    exact ⟨r, σ', σm', jMX_of (jmet_LL0_keep F jshL0 jhs_L0 σ v1 r σ' e1) ⟨jble rfl, jble rfl⟩, jMX_of (jmet_Model_keep F jshM jhs_M σm v1 r σm' e2) ⟨jble rfl, jble rfl⟩, Or.inl ⟨rfl, e3⟩⟩
  · obtain ⟨r, σ', σm', e1, e2, e3⟩ : OK1 (LL1_keep F σ v1) (Model_keep F σm v1) := k_keep h1 h (by omega)
    exact ⟨r, σ', σm', jMX_of (jmet_LL1_keep F jshL1 jhs_L1 σ v1 r σ' e1) ⟨jble rfl, jble rfl⟩, jMX_of (jmet_Model_keep F jshM jhs_M σm v1 r σm' e2) ⟨jble rfl, jble rfl⟩, Or.inr ⟨rfl, e3⟩⟩
theorem lc_apart (hF : 6000 ≤ F) {v1 : Int} {v2 : Int} (h1 : iR v1) (h2 : iR v2) (h : PhR sh σ σm) : ∃ r σ' σm', jMX yX11_apart cX11_apart 4 sh σ [jmi v1, jmi v2] r σ' ∧ jMX yX12_apart cX12_apart 4 jshM σm [jmi v1, jmi v2] r σm' ∧ PhR sh σ' σm' := by
  rcases h with ⟨rfl, h⟩ | ⟨rfl, h⟩
  · obtain ⟨r, σ', σm', e1, e2, e3⟩ : OK0 (LL0_apart F σ v1 v2) (Model_apart F σm v1 v2) := z_apart h
    exact ⟨r, σ', σm', jMX_of (jmet_LL0_apart F jshL0 jhs_L0 σ v1 v2 r σ' e1) ⟨jble rfl, jble rfl⟩, jMX_of (jmet_Model_apart F jshM jhs_M σm v1 v2 r σm' e2) ⟨jble rfl, jble rfl⟩, Or.inl ⟨rfl, e3⟩⟩
  · obtain ⟨r, σ', σm', e1, e2, e3⟩ : OK1 (LL1_apart F σ v1 v2) (Model_apart F σm v1 v2) := k_apart h1 h2 h (by omega)
    exact ⟨r, σ', σm', jMX_of (jmet_LL1_apart F jshL1 jhs_L1 σ v1 v2 r σ' e1) ⟨jble rfl, jble rfl⟩, jMX_of (jmet_Model_apart F jshM jhs_M σm v1 v2 r σm' e2) ⟨jble rfl, jble rfl⟩, Or.inr ⟨rfl, e3⟩⟩
theorem lc_simplest (hF : 6000 ≤ F) {v1 : Int} (h1 : iR v1) (h : PhR sh σ σm) : ∃ r σ' σm', jMX yX11_simplest cX11_simplest 2 sh σ [jmi v1] r σ' ∧ jMX yX12_simplest cX12_simplest 3 jshM σm [jmi v1] r σm' ∧ PhR sh σ' σm' := by
  rcases h with ⟨rfl, h⟩ | ⟨rfl, h⟩
  · obtain ⟨r, σ', σm', e1, e2, e3⟩ : OK0 (LL0_simplest F σ v1) (Model_simplest F σm v1) := z_simplest h
    exact ⟨r, σ', σm', jMX_of (jmet_LL0_simplest F jshL0 jhs_L0 σ v1 r σ' e1) ⟨jble rfl, jble rfl⟩, jMX_of (jmet_Model_simplest F jshM jhs_M σm v1 r σm' e2) ⟨jble rfl, jble rfl⟩, Or.inl ⟨rfl, e3⟩⟩
  · obtain ⟨r, σ', σm', e1, e2, e3⟩ : OK1 (LL1_simplest F σ v1) (Model_simplest F σm v1) := k_simplest h1 h (by omega)
    exact ⟨r, σ', σm', jMX_of (jmet_LL1_simplest F jshL1 jhs_L1 σ v1 r σ' e1) ⟨jble rfl, jble rfl⟩, jMX_of (jmet_Model_simplest F jshM jhs_M σm v1 r σm' e2) ⟨jble rfl, jble rfl⟩, Or.inr ⟨rfl, e3⟩⟩
theorem lc_answers (hF : 6000 ≤ F) {v1 : Int} (h1 : iR v1) (h : PhR sh σ σm) : ∃ r σ' σm', jMX yX11_answers cX11_answers 2 sh σ [jmi v1] r σ' ∧ jMX yX12_answers cX12_answers 5 jshM σm [jmi v1] r σm' ∧ PhR sh σ' σm' := by
  rcases h with ⟨rfl, h⟩ | ⟨rfl, h⟩
  · obtain ⟨r, σ', σm', e1, e2, e3⟩ : OK0 (LL0_answers F σ v1) (Model_answers F σm v1) := z_answers h
    exact ⟨r, σ', σm', jMX_of (jmet_LL0_answers F jshL0 jhs_L0 σ v1 r σ' e1) ⟨jble rfl, jble rfl⟩, jMX_of (jmet_Model_answers F jshM jhs_M σm v1 r σm' e2) ⟨jble rfl, jble rfl⟩, Or.inl ⟨rfl, e3⟩⟩
  · obtain ⟨r, σ', σm', e1, e2, e3⟩ : OK1 (LL1_answers F σ v1) (Model_answers F σm v1) := k_answers h1 h (by omega)
    exact ⟨r, σ', σm', jMX_of (jmet_LL1_answers F jshL1 jhs_L1 σ v1 r σ' e1) ⟨jble rfl, jble rfl⟩, jMX_of (jmet_Model_answers F jshM jhs_M σm v1 r σm' e2) ⟨jble rfl, jble rfl⟩, Or.inr ⟨rfl, e3⟩⟩
theorem lc_draws (hF : 6000 ≤ F) {v1 : Int} (h1 : iR v1) (h : PhR sh σ σm) : ∃ r σ' σm', jMX yX11_draws cX11_draws 3 sh σ [jmi v1] r σ' ∧ jMX yX12_draws cX12_draws 3 jshM σm [jmi v1] r σm' ∧ PhR sh σ' σm' := by
  rcases h with ⟨rfl, h⟩ | ⟨rfl, h⟩
  · obtain ⟨r, σ', σm', e1, e2, e3⟩ : OK0 (LL0_draws F σ v1) (Model_draws F σm v1) := z_draws h1 h
    exact ⟨r, σ', σm', jMX_of (jmet_LL0_draws F jshL0 jhs_L0 σ v1 r σ' e1) ⟨jble rfl, jble rfl⟩, jMX_of (jmet_Model_draws F jshM jhs_M σm v1 r σm' e2) ⟨jble rfl, jble rfl⟩, Or.inl ⟨rfl, e3⟩⟩
  · obtain ⟨r, σ', σm', e1, e2, e3⟩ : OK1 (LL1_draws F σ v1) (Model_draws F σm v1) := k_draws h1 h
    exact ⟨r, σ', σm', jMX_of (jmet_LL1_draws F jshL1 jhs_L1 σ v1 r σ' e1) ⟨jble rfl, jble rfl⟩, jMX_of (jmet_Model_draws F jshM jhs_M σm v1 r σm' e2) ⟨jble rfl, jble rfl⟩, Or.inr ⟨rfl, e3⟩⟩
theorem lc_games (hF : 6000 ≤ F) {v1 : Int} {v2 : Int} (h1 : iR v1) (h2 : iR v2) (h : PhR sh σ σm) : ∃ r σ' σm', jMX yX11_games cX11_games 3 sh σ [jmi v1, jmi v2] r σ' ∧ jMX yX12_games cX12_games 8 jshM σm [jmi v1, jmi v2] r σm' ∧ PhR sh σ' σm' := by
  rcases h with ⟨rfl, h⟩ | ⟨rfl, h⟩
  · obtain ⟨r, σ', σm', e1, e2, e3⟩ : OK0 (LL0_games F σ v1 v2) (Model_games F σm v1 v2) := z_games h
    exact ⟨r, σ', σm', jMX_of (jmet_LL0_games F jshL0 jhs_L0 σ v1 v2 r σ' e1) ⟨jble rfl, jble rfl⟩, jMX_of (jmet_Model_games F jshM jhs_M σm v1 v2 r σm' e2) ⟨jble rfl, jble rfl⟩, Or.inl ⟨rfl, e3⟩⟩
  · obtain ⟨r, σ', σm', e1, e2, e3⟩ : OK1 (LL1_games F σ v1 v2) (Model_games F σm v1 v2) := k_games h1 h2 h (by omega)
    exact ⟨r, σ', σm', jMX_of (jmet_LL1_games F jshL1 jhs_L1 σ v1 v2 r σ' e1) ⟨jble rfl, jble rfl⟩, jMX_of (jmet_Model_games F jshM jhs_M σm v1 v2 r σm' e2) ⟨jble rfl, jble rfl⟩, Or.inr ⟨rfl, e3⟩⟩
theorem lc_elements (hF : 6000 ≤ F) {v1 : Int} (h1 : iR v1) (h : PhR sh σ σm) : ∃ r σ' σm', jMX yX11_elements cX11_elements 3 sh σ [jmi v1] r σ' ∧ jMX yX12_elements cX12_elements 2 jshM σm [jmi v1] r σm' ∧ PhR sh σ' σm' := by
  rcases h with ⟨rfl, h⟩ | ⟨rfl, h⟩
  · obtain ⟨r, σ', σm', e1, e2, e3⟩ : OK0 (LL0_elements F σ v1) (Model_elements F σm v1) := z_elements h
    exact ⟨r, σ', σm', jMX_of (jmet_LL0_elements F jshL0 jhs_L0 σ v1 r σ' e1) ⟨jble rfl, jble rfl⟩, jMX_of (jmet_Model_elements F jshM jhs_M σm v1 r σm' e2) ⟨jble rfl, jble rfl⟩, Or.inl ⟨rfl, e3⟩⟩
  · obtain ⟨r, σ', σm', e1, e2, e3⟩ : OK1 (LL1_elements F σ v1) (Model_elements F σm v1) := k_elements h1 h (by omega)
    exact ⟨r, σ', σm', jMX_of (jmet_LL1_elements F jshL1 jhs_L1 σ v1 r σ' e1) ⟨jble rfl, jble rfl⟩, jMX_of (jmet_Model_elements F jshM jhs_M σm v1 r σm' e2) ⟨jble rfl, jble rfl⟩, Or.inr ⟨rfl, e3⟩⟩
theorem lc_word (hF : 6000 ≤ F) {v1 : Int} {v2 : Int} {v3 : Int} (h1 : iR v1) (h2 : iR v2) (h3 : iR v3) (h : PhR sh σ σm) : ∃ r σ' σm', jMX yX11_word cX11_word 5 sh σ [jmi v1, jmi v2, jmi v3] r σ' ∧ jMX yX12_word cX12_word 4 jshM σm [jmi v1, jmi v2, jmi v3] r σm' ∧ PhR sh σ' σm' := by
  rcases h with ⟨rfl, h⟩ | ⟨rfl, h⟩
  · obtain ⟨r, σ', σm', e1, e2, e3⟩ : OK0 (LL0_word F σ v1 v2 v3) (Model_word F σm v1 v2 v3) := z_word h
    exact ⟨r, σ', σm', jMX_of (jmet_LL0_word F jshL0 jhs_L0 σ v1 v2 v3 r σ' e1) ⟨jble rfl, jble rfl⟩, jMX_of (jmet_Model_word F jshM jhs_M σm v1 v2 v3 r σm' e2) ⟨jble rfl, jble rfl⟩, Or.inl ⟨rfl, e3⟩⟩
  · obtain ⟨r, σ', σm', e1, e2, e3⟩ : OK1 (LL1_word F σ v1 v2 v3) (Model_word F σm v1 v2 v3) := k_word h1 h2 h3 h (by omega)
    exact ⟨r, σ', σm', jMX_of (jmet_LL1_word F jshL1 jhs_L1 σ v1 v2 v3 r σ' e1) ⟨jble rfl, jble rfl⟩, jMX_of (jmet_Model_word F jshM jhs_M σm v1 v2 v3 r σm' e2) ⟨jble rfl, jble rfl⟩, Or.inr ⟨rfl, e3⟩⟩
theorem lc_next (hF : 6000 ≤ F) {v1 : Int} {v2 : Int} {v3 : Int} (h1 : iR v1) (h2 : iR v2) (h3 : iR v3) (h : PhR sh σ σm) : ∃ r σ' σm', jMX yX11_next cX11_next 5 sh σ [jmi v1, jmi v2, jmi v3] r σ' ∧ jMX yX12_next_ cX12_next_ 4 jshM σm [jmi v1, jmi v2, jmi v3] r σm' ∧ PhR sh σ' σm' := by
  rcases h with ⟨rfl, h⟩ | ⟨rfl, h⟩
  · obtain ⟨r, σ', σm', e1, e2, e3⟩ : OK0 (LL0_next F σ v1 v2 v3) (Model_next_IIII F σm v1 v2 v3) := z_next h
    exact ⟨r, σ', σm', jMX_of (jmet_LL0_next F jshL0 jhs_L0 σ v1 v2 v3 r σ' e1) ⟨jble rfl, jble rfl⟩, jMX_of (jmet_Model_next_IIII F jshM jhs_M σm v1 v2 v3 r σm' e2) ⟨jble rfl, jble rfl⟩, Or.inl ⟨rfl, e3⟩⟩
  · obtain ⟨r, σ', σm', e1, e2, e3⟩ : OK1 (LL1_next F σ v1 v2 v3) (Model_next_IIII F σm v1 v2 v3) := k_next h1 h2 h3 h (by omega)
    exact ⟨r, σ', σm', jMX_of (jmet_LL1_next F jshL1 jhs_L1 σ v1 v2 v3 r σ' e1) ⟨jble rfl, jble rfl⟩, jMX_of (jmet_Model_next_IIII F jshM jhs_M σm v1 v2 v3 r σm' e2) ⟨jble rfl, jble rfl⟩, Or.inr ⟨rfl, e3⟩⟩
theorem lc_times (hF : 6000 ≤ F) {v1 : Int} {v2 : Int} {v3 : Int} (h1 : iR v1) (h2 : iR v2) (h3 : iR v3) (h : PhR sh σ σm) : ∃ r σ' σm', jMX yX11_times cX11_times 5 sh σ [jmi v1, jmi v2, jmi v3] r σ' ∧ jMX yX12_times cX12_times 4 jshM σm [jmi v1, jmi v2, jmi v3] r σm' ∧ PhR sh σ' σm' := by
  rcases h with ⟨rfl, h⟩ | ⟨rfl, h⟩
  · obtain ⟨r, σ', σm', e1, e2, e3⟩ : OK0 (LL0_times F σ v1 v2 v3) (Model_times F σm v1 v2 v3) := z_times h
    exact ⟨r, σ', σm', jMX_of (jmet_LL0_times F jshL0 jhs_L0 σ v1 v2 v3 r σ' e1) ⟨jble rfl, jble rfl⟩, jMX_of (jmet_Model_times F jshM jhs_M σm v1 v2 v3 r σm' e2) ⟨jble rfl, jble rfl⟩, Or.inl ⟨rfl, e3⟩⟩
  · obtain ⟨r, σ', σm', e1, e2, e3⟩ : OK1 (LL1_times F σ v1 v2 v3) (Model_times F σm v1 v2 v3) := k_times h1 h2 h3 h (by omega)
    exact ⟨r, σ', σm', jMX_of (jmet_LL1_times F jshL1 jhs_L1 σ v1 v2 v3 r σ' e1) ⟨jble rfl, jble rfl⟩, jMX_of (jmet_Model_times F jshM jhs_M σm v1 v2 v3 r σm' e2) ⟨jble rfl, jble rfl⟩, Or.inr ⟨rfl, e3⟩⟩
theorem lc_sets (hF : 6000 ≤ F) {v1 : Int} {v2 : Int} (h1 : iR v1) (h2 : iR v2) (h : PhR sh σ σm) : ∃ r σ' σm', jMX yX11_sets cX11_sets 4 sh σ [jmi v1, jmi v2] r σ' ∧ jMX yX12_sets cX12_sets 7 jshM σm [jmi v1, jmi v2] r σm' ∧ PhR sh σ' σm' := by
  rcases h with ⟨rfl, h⟩ | ⟨rfl, h⟩
  · obtain ⟨r, σ', σm', e1, e2, e3⟩ : OK0 (LL0_sets F σ v1 v2) (Model_sets F σm v1 v2) := z_sets h
    exact ⟨r, σ', σm', jMX_of (jmet_LL0_sets F jshL0 jhs_L0 σ v1 v2 r σ' e1) ⟨jble rfl, jble rfl⟩, jMX_of (jmet_Model_sets F jshM jhs_M σm v1 v2 r σm' e2) ⟨jble rfl, jble rfl⟩, Or.inl ⟨rfl, e3⟩⟩
  · obtain ⟨r, σ', σm', e1, e2, e3⟩ : OK1 (LL1_sets F σ v1 v2) (Model_sets F σm v1 v2) := k_sets h1 h2 h (by omega)
    exact ⟨r, σ', σm', jMX_of (jmet_LL1_sets F jshL1 jhs_L1 σ v1 v2 r σ' e1) ⟨jble rfl, jble rfl⟩, jMX_of (jmet_Model_sets F jshM jhs_M σm v1 v2 r σm' e2) ⟨jble rfl, jble rfl⟩, Or.inr ⟨rfl, e3⟩⟩
theorem lc_pairs (hF : 6000 ≤ F) {v1 : Int} (h1 : iR v1) (h : PhR sh σ σm) : ∃ r σ' σm', jMX yX11_pairs cX11_pairs 3 sh σ [jmi v1] r σ' ∧ jMX yX12_pairs cX12_pairs 2 jshM σm [jmi v1] r σm' ∧ PhR sh σ' σm' := by
  rcases h with ⟨rfl, h⟩ | ⟨rfl, h⟩
  · obtain ⟨r, σ', σm', e1, e2, e3⟩ : OK0 (LL0_pairs F σ v1) (Model_pairs F σm v1) := z_pairs h
    exact ⟨r, σ', σm', jMX_of (jmet_LL0_pairs F jshL0 jhs_L0 σ v1 r σ' e1) ⟨jble rfl, jble rfl⟩, jMX_of (jmet_Model_pairs F jshM jhs_M σm v1 r σm' e2) ⟨jble rfl, jble rfl⟩, Or.inl ⟨rfl, e3⟩⟩
  · obtain ⟨r, σ', σm', e1, e2, e3⟩ : OK1 (LL1_pairs F σ v1) (Model_pairs F σm v1) := k_pairs h1 h (by omega)
    exact ⟨r, σ', σm', jMX_of (jmet_LL1_pairs F jshL1 jhs_L1 σ v1 r σ' e1) ⟨jble rfl, jble rfl⟩, jMX_of (jmet_Model_pairs F jshM jhs_M σm v1 r σm' e2) ⟨jble rfl, jble rfl⟩, Or.inr ⟨rfl, e3⟩⟩
theorem lc_proved (hF : 6000 ≤ F) {v1 : Int} (h1 : iR v1) (h : PhR sh σ σm) : ∃ r σ' σm', jMX yX11_proved cX11_proved 3 sh σ [jmi v1] r σ' ∧ jMX yX12_proved cX12_proved 2 jshM σm [jmi v1] r σm' ∧ PhR sh σ' σm' := by
  rcases h with ⟨rfl, h⟩ | ⟨rfl, h⟩
  · obtain ⟨r, σ', σm', e1, e2, e3⟩ : OK0 (LL0_proved F σ v1) (Model_proved F σm v1) := z_proved h
    exact ⟨r, σ', σm', jMX_of (jmet_LL0_proved F jshL0 jhs_L0 σ v1 r σ' e1) ⟨jble rfl, jble rfl⟩, jMX_of (jmet_Model_proved F jshM jhs_M σm v1 r σm' e2) ⟨jble rfl, jble rfl⟩, Or.inl ⟨rfl, e3⟩⟩
  · obtain ⟨r, σ', σm', e1, e2, e3⟩ : OK1 (LL1_proved F σ v1) (Model_proved F σm v1) := k_proved h1 h (by omega)
    exact ⟨r, σ', σm', jMX_of (jmet_LL1_proved F jshL1 jhs_L1 σ v1 r σ' e1) ⟨jble rfl, jble rfl⟩, jMX_of (jmet_Model_proved F jshM jhs_M σm v1 r σm' e2) ⟨jble rfl, jble rfl⟩, Or.inr ⟨rfl, e3⟩⟩
theorem lc_stays (hF : 6000 ≤ F) {v1 : Int} (h1 : iR v1) (h : PhR sh σ σm) : ∃ r σ' σm', jMX yX11_stays cX11_stays 6 sh σ [jmi v1] r σ' ∧ jMX yX12_stays cX12_stays 3 jshM σm [jmi v1] r σm' ∧ PhR sh σ' σm' := by
  rcases h with ⟨rfl, h⟩ | ⟨rfl, h⟩
  · obtain ⟨r, σ', σm', e1, e2, e3⟩ : OK0 (LL0_stays F σ v1) (Model_stays F σm v1) := z_stays h
    exact ⟨r, σ', σm', jMX_of (jmet_LL0_stays F jshL0 jhs_L0 σ v1 r σ' e1) ⟨jble rfl, jble rfl⟩, jMX_of (jmet_Model_stays F jshM jhs_M σm v1 r σm' e2) ⟨jble rfl, jble rfl⟩, Or.inl ⟨rfl, e3⟩⟩
  · obtain ⟨r, σ', σm', e1, e2, e3⟩ : OK1 (LL1_stays F σ v1) (Model_stays F σm v1) := k_stays h1 h (by omega)
    exact ⟨r, σ', σm', jMX_of (jmet_LL1_stays F jshL1 jhs_L1 σ v1 r σ' e1) ⟨jble rfl, jble rfl⟩, jMX_of (jmet_Model_stays F jshM jhs_M σm v1 r σm' e2) ⟨jble rfl, jble rfl⟩, Or.inr ⟨rfl, e3⟩⟩
theorem lc_power (hF : 6000 ≤ F) {v1 : Int} {v2 : Int} {v3 : Int} (h1 : iR v1) (h2 : iR v2) (h3 : iR v3) (h : PhR sh σ σm) : ∃ r σ' σm', jMX yX11_power cX11_power 5 sh σ [jmi v1, jmi v2, jmi v3] r σ' ∧ jMX yX12_power cX12_power 6 jshM σm [jmi v1, jmi v2, jmi v3] r σm' ∧ PhR sh σ' σm' := by
  rcases h with ⟨rfl, h⟩ | ⟨rfl, h⟩
  · obtain ⟨r, σ', σm', e1, e2, e3⟩ : OK0 (LL0_power F σ v1 v2 v3) (Model_power F σm v1 v2 v3) := z_power h
    exact ⟨r, σ', σm', jMX_of (jmet_LL0_power F jshL0 jhs_L0 σ v1 v2 v3 r σ' e1) ⟨jble rfl, jble rfl⟩, jMX_of (jmet_Model_power F jshM jhs_M σm v1 v2 v3 r σm' e2) ⟨jble rfl, jble rfl⟩, Or.inl ⟨rfl, e3⟩⟩
  · obtain ⟨r, σ', σm', e1, e2, e3⟩ : OK1 (LL1_power F σ v1 v2 v3) (Model_power F σm v1 v2 v3) := k_power h1 h2 h3 h (by omega)
    exact ⟨r, σ', σm', jMX_of (jmet_LL1_power F jshL1 jhs_L1 σ v1 v2 v3 r σ' e1) ⟨jble rfl, jble rfl⟩, jMX_of (jmet_Model_power F jshM jhs_M σm v1 v2 v3 r σm' e2) ⟨jble rfl, jble rfl⟩, Or.inr ⟨rfl, e3⟩⟩
theorem lc_place (hF : 6000 ≤ F) {v1 : Int} (h1 : iR v1) (h : PhR sh σ σm) : ∃ r σ' σm', jMX yX11_place cX11_place 4 sh σ [jmi v1] r σ' ∧ jMX yX12_place cX12_place 6 jshM σm [jmi v1] r σm' ∧ PhR sh σ' σm' := by
  rcases h with ⟨rfl, h⟩ | ⟨rfl, h⟩
  · obtain ⟨r, σ', σm', e1, e2, e3⟩ : OK0 (LL0_place F σ v1) (Model_place F σm v1) := z_place h
    exact ⟨r, σ', σm', jMX_of (jmet_LL0_place F jshL0 jhs_L0 σ v1 r σ' e1) ⟨jble rfl, jble rfl⟩, jMX_of (jmet_Model_place F jshM jhs_M σm v1 r σm' e2) ⟨jble rfl, jble rfl⟩, Or.inl ⟨rfl, e3⟩⟩
  · obtain ⟨r, σ', σm', e1, e2, e3⟩ : OK1 (LL1_place F σ v1) (Model_place F σm v1) := k_place h1 h (by omega)
    exact ⟨r, σ', σm', jMX_of (jmet_LL1_place F jshL1 jhs_L1 σ v1 r σ' e1) ⟨jble rfl, jble rfl⟩, jMX_of (jmet_Model_place F jshM jhs_M σm v1 r σm' e2) ⟨jble rfl, jble rfl⟩, Or.inr ⟨rfl, e3⟩⟩
theorem lc_count (hF : 6000 ≤ F) {v1 : Int} (h1 : iR v1) (h : PhR sh σ σm) : ∃ r σ' σm', jMX yX11_count cX11_count 2 sh σ [jmi v1] r σ' ∧ jMX yX12_count cX12_count 2 jshM σm [jmi v1] r σm' ∧ PhR sh σ' σm' := by
  rcases h with ⟨rfl, h⟩ | ⟨rfl, h⟩
  · obtain ⟨r, σ', σm', e1, e2, e3⟩ : OK0 (LL0_count F σ v1) (Model_count F σm v1) := z_count h1 h
    exact ⟨r, σ', σm', jMX_of (jmet_LL0_count F jshL0 jhs_L0 σ v1 r σ' e1) ⟨jble rfl, jble rfl⟩, jMX_of (jmet_Model_count F jshM jhs_M σm v1 r σm' e2) ⟨jble rfl, jble rfl⟩, Or.inl ⟨rfl, e3⟩⟩
  · obtain ⟨r, σ', σm', e1, e2, e3⟩ : OK1 (LL1_count F σ v1) (Model_count F σm v1) := k_count h1 h (by omega)
    exact ⟨r, σ', σm', jMX_of (jmet_LL1_count F jshL1 jhs_L1 σ v1 r σ' e1) ⟨jble rfl, jble rfl⟩, jMX_of (jmet_Model_count F jshM jhs_M σm v1 r σm' e2) ⟨jble rfl, jble rfl⟩, Or.inr ⟨rfl, e3⟩⟩
theorem TpC_z {l : List Int} {σz : jxS} (hz : ∀ a, a < 9 → ∀ j, σz a j = σ a j) (h : TpC σ l) : TpC σz l := ⟨by rw [hz 1 (by omega)]; exact h.1, h.2.1, fun i x hx => by rw [hz 2 (by omega)]; exact h.2.2 i x hx⟩
theorem jW_z {ad : Nat → Nat} {cy : Nat → ClassId} {σz : jxS} (hz : ∀ a, a < 9 → ∀ j, σz a j = σ a j) : jW ad cy jshL0 σ = jW ad cy jshL0 σz := by
  refine List.ext_getElem? fun i => ?_
  rw [jW, jW, List.getElem?_mapIdx, List.getElem?_mapIdx]
  cases hi : jshL0[i]? with
  | none => rfl
  | some c =>
    have h1 : i < 9 := (List.getElem?_eq_some_iff.mp hi).1
    have e : σz i = σ i := funext fun j => hz i h1 j
    rw [e]
theorem lc_game (hF : 6000 ≤ F) (h : PhR sh σ σm) : (∃ r σ' σm', jMX yX11_game cX11_game 2 sh σ [] r σ' ∧ jMX yX12_game cX12_game 3 jshM σm [] r σm' ∧ PhR sh σ' σm') ∨ (sh = jshL0 ∧ ∃ r σz σ' σm', (∀ ad cy, jW ad cy jshL0 σ = jW ad cy jshL0 σz) ∧ jMG yX11_game cX11_game 2 1 8 189 69 51011 jshL0 σz [jmr 0] (some (jmi r)) jshL1 σ' ∧ jMX yX12_game cX12_game 3 jshM σm [] r σm' ∧ R1 σ' σm') := by
  rcases h with ⟨rfl, h⟩ | ⟨rfl, h⟩
  · have h' := h
    obtain ⟨l, x, hx, t1, w3, t2, w43, h13, hHa, h40, hW, hT, hw, hA⟩ := h
    cases ht : txt l with
    | inl er =>
      refine Or.inl ?_
      obtain ⟨σ', σm', a1, a2, a3⟩ := z_gameE (F := F) hx t1 h' t2 ht hF
      have ll : (tpN l).length = l.length := List.length_map ..
      have l2 : l.length ≤ 200 := ll ▸ t1.2.1
      have e17 := txt_e t2.2.2.2 l2 17 0 0 [] er (Nat.zero_le _) rfl ht
      have e1 : LL0_game F σ = some (-2 - (er : Int), σ') := by
        rw [LL0_game]
        cases hr : Reader_readText F σ with
        | none => rw [hr] at a1; cases a1
        | some q =>
          rw [hr] at a1
          obtain ⟨n, σ1⟩ := q
          rw [jbs] at a1 ⊢
          dsimp only at a1 ⊢
          cases hc : Tape_cutTo F σ1 0 with
          | none => rw [hc] at a1; cases a1
          | some q =>
            rw [hc] at a1
            obtain ⟨b, σ2⟩ := q
            rw [jbs] at a1 ⊢
            dsimp only at a1 ⊢
            cases a1
            rw [if_neg (show ¬ 0 < jw (-2 - (er : Int)) by rw [jw_id (by omega) (by omega)]; omega)]
      exact ⟨_, σ', σm', jMX_of (jmet_LL0_game F jshL0 jhs_L0 σ _ σ' e1) ⟨jble rfl, jble rfl⟩, jMX_of (jmet_Model_game F jshM jhs_M σm _ σm' a2) ⟨jble rfl, jble rfl⟩, Or.inl ⟨rfl, a3⟩⟩
    | inr ls =>
      refine Or.inr ⟨rfl, ?_⟩
      have hz : ∀ a, a < 9 → ∀ j, (fun (a : Nat) (j : Int) => if a < 9 then σ a j else 0) a j = σ a j := fun a ha j => if_pos ha
      generalize hσz : (fun (a : Nat) (j : Int) => if a < 9 then σ a j else 0) = σz at hz
      have hz0 : ∀ a, 9 ≤ a → ∀ j, σz a j = 0 := fun a ha j => by rw [← hσz]; exact if_neg (by omega)
      obtain ⟨σ1, σ2, σ3, σ5, σm', b1, b2, b3, b4, b5, b6, b7, b8, b9⟩ := z_gameS (F := F) hz0 hx (TpC_z hz t1) (by rw [hz 0 (by omega)]; exact w3) t2 w43 hW hT hw hA ht hF
      exact ⟨_, σz, σ5, σm', fun ad cy => jW_z hz, met_G (jJ_L0 b4) b1 b2 b3.1 b3.2 b5 (jJ_B2 b6) b7, jMX_of (jmet_Model_game F jshM jhs_M σm _ σm' b8) ⟨jble rfl, jble rfl⟩, b9⟩
  · refine Or.inl ?_
    obtain ⟨r, σ', σm', e1, e2, e3⟩ : OK1 (LL1_game F σ) (Model_game F σm) := k_game h hF
    exact ⟨r, σ', σm', jMX_of (jmet_LL1_game F jshL1 jhs_L1 σ r σ' e1) ⟨jble rfl, jble rfl⟩, jMX_of (jmet_Model_game F jshM jhs_M σm r σm' e2) ⟨jble rfl, jble rfl⟩, Or.inr ⟨rfl, e3⟩⟩
end LCS

/-! ===== THE WHOLE: one relation, every op keeps it (by program: wip/whole/rel.py) ===== -/
def Ft4 : Nat → Nat → Nat → Prop := fun k n j => (k = 4 ∧ n = 0 ∧ (j = 7 ∨ j = 8)) ∨ (k = 11 ∧ n = 0 ∧ (j = 10 ∨ j = 11))
theorem FtR.keep {σ τ : SS} {P : Nat → Nat → Nat → Prop} (h : FtR σ) (hE : Eqo P σ τ) (hP : ∀ k n j, P k n j → ¬ Ft4 k n j) : FtR τ := by
  obtain ⟨h1, h2⟩ := h
  refine ⟨?_, ?_⟩
  · rw [hE.at1 (fun q => hP _ _ _ q (by unfold Ft4; omega)), hE.at1 (fun q => hP _ _ _ q (by unfold Ft4; omega)), h1]
  · rw [hE.at1 (fun q => hP _ _ _ q (by unfold Ft4; omega)), hE.at1 (fun q => hP _ _ _ q (by unfold Ft4; omega)), h2]
/-- cells of years and names of drawer 0 -/
def YN : Nat → Nat → Nat → Prop := fun k n j => (k = 13 ∧ n = 0) ∨ (k = 13 ∧ n = 34 ∧ 132 ≤ j ∧ j < 410) ∨ (k = 8 ∧ n = 0 ∧ 1 ≤ j ∧ j ≤ 2) ∨ (k = 14 ∧ n = 0) ∨ (k = 14 ∧ n = 7 ∧ j < 11)
section RL
variable {σ τ : SS} {n nk i c : Nat} {s p o : Int32} {nu : Nat → Nat → Nat} {lo : Nat → Nat} {L : List X3}
theorem BlR.new {P : Nat → Nat → Nat → Prop} {i' c' : Nat} {s' p' o' : Int32} {L' : List X3} (h : BlR 0 0 σ n nk nu lo i c s p o L) (hr : RelD τ n nk nu lo i' c' s' p' o' L') (hE : Eqo P σ τ) (hP : ∀ k m j, P k m j → ¬ YN k m j) : BlR 0 0 τ n nk nu lo i' c' s' p' o' L' := by
  obtain ⟨h1, h2, h3, h4, h5, h6, h7⟩ := h
  obtain ⟨r1, r2, r3, r4⟩ := hr
  have h8 := h1.n8
  have hk := h1.k3
  have e : ∀ j, 132 ≤ j → j < 410 → (shb 0 τ).1 13 34 j = (shb 0 σ).1 13 34 j := fun j h0 hj => by
    rw [shb_0, shb_0]
    exact hE.at1 (fun q => hP _ _ _ q (by unfold YN; omega))
  refine ⟨r1, r2, r3.of (fun j _ => shb_0 τ j), r4.of (fun j _ => shb_0 τ j), ?_, fun l hl => ?_, fun k hkk => ?_⟩
  · have e8 : ∀ j, 1 ≤ j → j ≤ 2 → τ.1 8 0 j = σ.1 8 0 j := fun j a b => hE.at1 (fun q => hP _ _ _ q (by unfold YN; omega))
    have e132 := e 132 (by decide) (by decide)
    rw [shb_at, shb_at] at e132
    rcases h5 with ⟨g1, g2⟩ | ⟨g1, g2, ns, nl, K, b1, b2, b3, b4, b5⟩
    · exact .inl ⟨(e8 1 (by decide) (by decide)).trans g1, e132.trans g2⟩
    · exact .inr ⟨(e8 1 (by decide) (by decide)).trans g1, e132.trans g2, ns, nl, K, b1, b2, (e8 2 (by decide) (by decide)).trans b3, (e 133 (by decide) (by decide)).trans b4, Bk.congr (fun j hj => hE.at1 (fun q => hP _ _ _ q (by unfold YN; omega))) (fun j h0 hj => e j h0 hj) _ _ _ _ _ _ b5 b1 b2⟩
  · rw [hE.2 _ _ _ (fun q => hP _ _ _ q (by unfold YN; omega)), hE.2 14 7 _ (fun q => hP _ _ _ q (by unfold YN; omega))]
    exact h6 l hl
  · rw [hE.2 _ _ _ (fun q => hP _ _ _ q (by unfold YN; omega)), hE.2 14 7 _ (fun q => hP _ _ _ q (by unfold YN; omega))]
    exact h7 k hkk
theorem BlR.yr (h : BlR 0 0 σ n nk nu lo i c s p o L) : YrR n σ := by
  obtain ⟨h1, h2, h3, h4, h5, h6, h7⟩ := h
  rcases h5 with ⟨g1, g2⟩ | ⟨g1, g2, ns, nl, K, b1, b2, b3, b4, b5⟩
  · exact .inl ⟨g1, by rw [Nat.mul_zero, Nat.zero_add] at g2; exact g2⟩
  · refine .inr ⟨g1, by rw [Nat.mul_zero, Nat.zero_add] at g2; exact g2, ns, nl, K, b1, b2, b3, (shb_0 σ 133).symm.trans b4, ?_⟩
    exact Bk.congr (fun j _ => rfl) (fun j _ _ => (shb_0 σ j).symm) _ _ _ _ _ _ b5 b1 b2
/-- what the drawer's class and its model hold in common -/
def Rel (σ : SS) : Prop := BlE 0 0 σ ∧ St σ ∧ RT σ ∧ Fr σ ∧ FtR σ ∧ TpR σ ∧ WyR σ ∧ OrR σ ∧ CtR σ ∧ MkR σ
def OR {R : Type} (σ : SS) (f g : SS → Option (R × SS)) : Prop := ∃ r σ1 σ2, f σ = some (r, σ1) ∧ g σ1 = some (r, σ2) ∧ Rel σ2
def OR1 {R : Type} (σ : SS) (f : SS → Option R) (g : SS → Option (R × SS)) : Prop := ∃ r σ2, f σ = some r ∧ g σ = some (r, σ2) ∧ Rel σ2
theorem Rel.ps (h : Rel σ) (hE : Eqo PS σ τ) (hSt : St τ) : Rel τ := by
  obtain ⟨g0, -, g2, g3, g4, g5, g6, g7, g8, g9⟩ := h
  refine ⟨?_, hSt, ?_, ?_, ?_, ?_, ?_, ?_, ?_, ?_⟩
  · exact g0.keep hE (fun k n j q w => by
      simp only [PS] at q
      unfold PC at w; omega)
  · exact g2.keep hE (fun k n j q w => by
      simp only [PS] at q
      unfold TC at w; omega)
  · exact g3.keep hE (fun k n j q w => by
      simp only [PS] at q
      unfold FrC at w; omega)
  · exact g4.keep hE (fun k n j q w => by
      simp only [PS] at q
      unfold Ft4 at w; omega)
  · exact g5.keep hE (fun k n j q w => by
      simp only [PS] at q
      unfold TpC at w; omega)
  · exact g6.keep hE (fun k n j q w => by
      simp only [PS] at q
      omega)
  · exact g7.keep hE (fun k n j q w => by
      simp only [PS] at q
      unfold OrC at w; omega)
  · exact g8.keep hE (fun k n j q w => by
      simp only [PS] at q
      unfold CtC at w; omega)
  · exact g9.keep hE (fun k n j q w => by
      simp only [PS] at q
      rcases w with w | ⟨t, t1, t2, w⟩ | ⟨b, b1, b2, w⟩
      · unfold MkC at w; omega
      · omega
      · unfold PC at w; omega)
theorem Rel.pds (h : Rel σ) (hE : Eqo PDS σ τ) (hBlE : BlE 0 0 τ) (hSt : St τ) : Rel τ := by
  obtain ⟨g0, -, g2, g3, g4, g5, g6, g7, g8, g9⟩ := h
  refine ⟨hBlE, hSt, ?_, ?_, ?_, ?_, ?_, ?_, ?_, ?_⟩
  · exact g2.keep hE (fun k n j q w => by
      simp only [PDS, VO, VC, XO, XC, PS, SP] at q
      unfold TC at w; omega)
  · exact g3.keep hE (fun k n j q w => by
      simp only [PDS, VO, VC, XO, XC, PS, SP] at q
      unfold FrC at w; omega)
  · exact g4.keep hE (fun k n j q w => by
      simp only [PDS, VO, VC, XO, XC, PS, SP] at q
      unfold Ft4 at w; omega)
  · exact g5.keep hE (fun k n j q w => by
      simp only [PDS, VO, VC, XO, XC, PS, SP] at q
      unfold TpC at w; omega)
  · exact g6.keep hE (fun k n j q w => by
      simp only [PDS, VO, VC, XO, XC, PS, SP] at q
      omega)
  · exact g7.keep hE (fun k n j q w => by
      simp only [PDS, VO, VC, XO, XC, PS, SP] at q
      unfold OrC at w; omega)
  · exact g8.keep hE (fun k n j q w => by
      simp only [PDS, VO, VC, XO, XC, PS, SP] at q
      unfold CtC at w; omega)
  · exact g9.keep hE (fun k n j q w => by
      simp only [PDS, VO, VC, XO, XC, PS, SP] at q
      rcases w with w | ⟨t, t1, t2, w⟩ | ⟨b, b1, b2, w⟩
      · unfold MkC at w; omega
      · omega
      · unfold PC at w; omega)
theorem Rel.pt (h : Rel σ) (hE : Eqo PT σ τ) (hSt : St τ) (hRT : RT τ) : Rel τ := by
  obtain ⟨g0, -, g2, g3, g4, g5, g6, g7, g8, g9⟩ := h
  refine ⟨?_, hSt, hRT, ?_, ?_, ?_, ?_, ?_, ?_, ?_⟩
  · exact g0.keep hE (fun k n j q w => by
      simp only [PT, PS, TC] at q
      unfold PC at w; omega)
  · exact g3.keep hE (fun k n j q w => by
      simp only [PT, PS, TC] at q
      unfold FrC at w; omega)
  · exact g4.keep hE (fun k n j q w => by
      simp only [PT, PS, TC] at q
      unfold Ft4 at w; omega)
  · exact g5.keep hE (fun k n j q w => by
      simp only [PT, PS, TC] at q
      unfold TpC at w; omega)
  · exact g6.keep hE (fun k n j q w => by
      simp only [PT, PS, TC] at q
      omega)
  · exact g7.keep hE (fun k n j q w => by
      simp only [PT, PS, TC] at q
      unfold OrC at w; omega)
  · exact g8.keep hE (fun k n j q w => by
      simp only [PT, PS, TC] at q
      unfold CtC at w; omega)
  · exact g9.keep hE (fun k n j q w => by
      simp only [PT, PS, TC] at q
      rcases w with w | ⟨t, t1, t2, w⟩ | ⟨b, b1, b2, w⟩
      · unfold MkC at w; omega
      · omega
      · unfold PC at w; omega)
theorem Rel.pwy (h : Rel σ) (hE : Eqo PWy σ τ) (hBlE : BlE 0 0 τ) (hSt : St τ) (hWyR : WyR τ) : Rel τ := by
  obtain ⟨g0, -, g2, g3, g4, g5, g6, g7, g8, g9⟩ := h
  refine ⟨hBlE, hSt, ?_, ?_, ?_, ?_, hWyR, ?_, ?_, ?_⟩
  · exact g2.keep hE (fun k n j q w => by
      simp only [PWy, PV, PS, XO, XC, SP] at q
      unfold TC at w; omega)
  · exact g3.keep hE (fun k n j q w => by
      simp only [PWy, PV, PS, XO, XC, SP] at q
      unfold FrC at w; omega)
  · exact g4.keep hE (fun k n j q w => by
      simp only [PWy, PV, PS, XO, XC, SP] at q
      unfold Ft4 at w; omega)
  · exact g5.keep hE (fun k n j q w => by
      simp only [PWy, PV, PS, XO, XC, SP] at q
      unfold TpC at w; omega)
  · exact g7.keep hE (fun k n j q w => by
      simp only [PWy, PV, PS, XO, XC, SP] at q
      unfold OrC at w; omega)
  · exact g8.keep hE (fun k n j q w => by
      simp only [PWy, PV, PS, XO, XC, SP] at q
      unfold CtC at w; omega)
  · exact g9.keep hE (fun k n j q w => by
      simp only [PWy, PV, PS, XO, XC, SP] at q
      rcases w with w | ⟨t, t1, t2, w⟩ | ⟨b, b1, b2, w⟩
      · unfold MkC at w; omega
      · omega
      · unfold PC at w; omega)
theorem Rel.pv (h : Rel σ) (hE : Eqo PV σ τ) (hBlE : BlE 0 0 τ) (hSt : St τ) : Rel τ := by
  obtain ⟨g0, -, g2, g3, g4, g5, g6, g7, g8, g9⟩ := h
  refine ⟨hBlE, hSt, ?_, ?_, ?_, ?_, ?_, ?_, ?_, ?_⟩
  · exact g2.keep hE (fun k n j q w => by
      simp only [PV, PS, XO, XC, SP] at q
      unfold TC at w; omega)
  · exact g3.keep hE (fun k n j q w => by
      simp only [PV, PS, XO, XC, SP] at q
      unfold FrC at w; omega)
  · exact g4.keep hE (fun k n j q w => by
      simp only [PV, PS, XO, XC, SP] at q
      unfold Ft4 at w; omega)
  · exact g5.keep hE (fun k n j q w => by
      simp only [PV, PS, XO, XC, SP] at q
      unfold TpC at w; omega)
  · exact g6.keep hE (fun k n j q w => by
      simp only [PV, PS, XO, XC, SP] at q
      omega)
  · exact g7.keep hE (fun k n j q w => by
      simp only [PV, PS, XO, XC, SP] at q
      unfold OrC at w; omega)
  · exact g8.keep hE (fun k n j q w => by
      simp only [PV, PS, XO, XC, SP] at q
      unfold CtC at w; omega)
  · exact g9.keep hE (fun k n j q w => by
      simp only [PV, PS, XO, XC, SP] at q
      rcases w with w | ⟨t, t1, t2, w⟩ | ⟨b, b1, b2, w⟩
      · unfold MkC at w; omega
      · omega
      · unfold PC at w; omega)
theorem Rel.pf (h : Rel σ) (hE : Eqo PF σ τ) (hBlE : BlE 0 0 τ) (hSt : St τ) (hFr : Fr τ) : Rel τ := by
  obtain ⟨g0, -, g2, g3, g4, g5, g6, g7, g8, g9⟩ := h
  refine ⟨hBlE, hSt, ?_, hFr, ?_, ?_, ?_, ?_, ?_, ?_⟩
  · exact g2.keep hE (fun k n j q w => by
      simp only [PF, PV, PS, XO, XC, SP, FrC] at q
      unfold TC at w; omega)
  · exact g4.keep hE (fun k n j q w => by
      simp only [PF, PV, PS, XO, XC, SP, FrC] at q
      unfold Ft4 at w; omega)
  · exact g5.keep hE (fun k n j q w => by
      simp only [PF, PV, PS, XO, XC, SP, FrC] at q
      unfold TpC at w; omega)
  · exact g6.keep hE (fun k n j q w => by
      simp only [PF, PV, PS, XO, XC, SP, FrC] at q
      omega)
  · exact g7.keep hE (fun k n j q w => by
      simp only [PF, PV, PS, XO, XC, SP, FrC] at q
      unfold OrC at w; omega)
  · exact g8.keep hE (fun k n j q w => by
      simp only [PF, PV, PS, XO, XC, SP, FrC] at q
      unfold CtC at w; omega)
  · exact g9.keep hE (fun k n j q w => by
      simp only [PF, PV, PS, XO, XC, SP, FrC] at q
      rcases w with w | ⟨t, t1, t2, w⟩ | ⟨b, b1, b2, w⟩
      · unfold MkC at w; omega
      · omega
      · unfold PC at w; omega)
theorem Rel.pal (h : Rel σ) (hE : Eqo PAl σ τ) (hBlE : BlE 0 0 τ) (hSt : St τ) (hOrR : OrR τ) : Rel τ := by
  obtain ⟨g0, -, g2, g3, g4, g5, g6, g7, g8, g9⟩ := h
  refine ⟨hBlE, hSt, ?_, ?_, ?_, ?_, ?_, hOrR, ?_, ?_⟩
  · exact g2.keep hE (fun k n j q w => by
      simp only [PAl, PV, PS, XO, XC, SP, OrC] at q
      unfold TC at w; omega)
  · exact g3.keep hE (fun k n j q w => by
      simp only [PAl, PV, PS, XO, XC, SP, OrC] at q
      unfold FrC at w; omega)
  · exact g4.keep hE (fun k n j q w => by
      simp only [PAl, PV, PS, XO, XC, SP, OrC] at q
      unfold Ft4 at w; omega)
  · exact g5.keep hE (fun k n j q w => by
      simp only [PAl, PV, PS, XO, XC, SP, OrC] at q
      unfold TpC at w; omega)
  · exact g6.keep hE (fun k n j q w => by
      simp only [PAl, PV, PS, XO, XC, SP, OrC] at q
      omega)
  · exact g8.keep hE (fun k n j q w => by
      simp only [PAl, PV, PS, XO, XC, SP, OrC] at q
      unfold CtC at w; omega)
  · exact g9.keep hE (fun k n j q w => by
      simp only [PAl, PV, PS, XO, XC, SP, OrC] at q
      rcases w with w | ⟨t, t1, t2, w⟩ | ⟨b, b1, b2, w⟩
      · unfold MkC at w; omega
      · omega
      · unfold PC at w; omega)
theorem Rel.ptp (h : Rel σ) (hE : Eqo PTp σ τ) (hSt : St τ) (hTpR : TpR τ) : Rel τ := by
  obtain ⟨g0, -, g2, g3, g4, g5, g6, g7, g8, g9⟩ := h
  refine ⟨?_, hSt, ?_, ?_, ?_, hTpR, ?_, ?_, ?_, ?_⟩
  · exact g0.keep hE (fun k n j q w => by
      simp only [PTp, PS, TpC] at q
      unfold PC at w; omega)
  · exact g2.keep hE (fun k n j q w => by
      simp only [PTp, PS, TpC] at q
      unfold TC at w; omega)
  · exact g3.keep hE (fun k n j q w => by
      simp only [PTp, PS, TpC] at q
      unfold FrC at w; omega)
  · exact g4.keep hE (fun k n j q w => by
      simp only [PTp, PS, TpC] at q
      unfold Ft4 at w; omega)
  · exact g6.keep hE (fun k n j q w => by
      simp only [PTp, PS, TpC] at q
      omega)
  · exact g7.keep hE (fun k n j q w => by
      simp only [PTp, PS, TpC] at q
      unfold OrC at w; omega)
  · exact g8.keep hE (fun k n j q w => by
      simp only [PTp, PS, TpC] at q
      unfold CtC at w; omega)
  · exact g9.keep hE (fun k n j q w => by
      simp only [PTp, PS, TpC] at q
      rcases w with w | ⟨t, t1, t2, w⟩ | ⟨b, b1, b2, w⟩
      · unfold MkC at w; omega
      · omega
      · unfold PC at w; omega)
theorem Rel.pl (h : Rel σ) (hE : Eqo PL σ τ) (hBlE : BlE 0 0 τ) (hSt : St τ) (hCtR : CtR τ) : Rel τ := by
  obtain ⟨g0, -, g2, g3, g4, g5, g6, g7, g8, g9⟩ := h
  refine ⟨hBlE, hSt, ?_, ?_, ?_, ?_, ?_, ?_, hCtR, ?_⟩
  · exact g2.keep hE (fun k n j q w => by
      simp only [PL, PS, LRn, LCt, LC, VO, VC, WF, WR, LXt, LXs, LX, XO, XC, FX, CtC] at q
      unfold TC at w; omega)
  · exact g3.keep hE (fun k n j q w => by
      simp only [PL, PS, LRn, LCt, LC, VO, VC, WF, WR, LXt, LXs, LX, XO, XC, FX, CtC] at q
      unfold FrC at w; omega)
  · exact g4.keep hE (fun k n j q w => by
      simp only [PL, PS, LRn, LCt, LC, VO, VC, WF, WR, LXt, LXs, LX, XO, XC, FX, CtC] at q
      unfold Ft4 at w; omega)
  · exact g5.keep hE (fun k n j q w => by
      simp only [PL, PS, LRn, LCt, LC, VO, VC, WF, WR, LXt, LXs, LX, XO, XC, FX, CtC] at q
      unfold TpC at w; omega)
  · exact g6.keep hE (fun k n j q w => by
      simp only [PL, PS, LRn, LCt, LC, VO, VC, WF, WR, LXt, LXs, LX, XO, XC, FX, CtC] at q
      omega)
  · exact g7.keep hE (fun k n j q w => by
      simp only [PL, PS, LRn, LCt, LC, VO, VC, WF, WR, LXt, LXs, LX, XO, XC, FX, CtC] at q
      unfold OrC at w; omega)
  · exact g9.keep hE (fun k n j q w => by
      simp only [PL, PS, LRn, LCt, LC, VO, VC, WF, WR, LXt, LXs, LX, XO, XC, FX, CtC] at q
      rcases w with w | ⟨t, t1, t2, w⟩ | ⟨b, b1, b2, w⟩
      · unfold MkC at w; omega
      · omega
      · unfold PC at w; omega)
theorem Rel.pm (h : Rel σ) (hE : Eqo PM σ τ) (hBlE : BlE 0 0 τ) (hSt : St τ) (hFr : Fr τ) : Rel τ := by
  obtain ⟨g0, -, g2, g3, g4, g5, g6, g7, g8, g9⟩ := h
  refine ⟨hBlE, hSt, ?_, hFr, ?_, ?_, ?_, ?_, ?_, ?_⟩
  · exact g2.keep hE (fun k n j q w => by
      simp only [PM, PS, TCl, SP, LRn, LCt, LC, VO, VC, WF, WR, TXf, LXt, LXs, LX, XO, XC, FX, FrC] at q
      unfold TC at w; omega)
  · exact g4.keep hE (fun k n j q w => by
      simp only [PM, PS, TCl, SP, LRn, LCt, LC, VO, VC, WF, WR, TXf, LXt, LXs, LX, XO, XC, FX, FrC] at q
      unfold Ft4 at w; omega)
  · exact g5.keep hE (fun k n j q w => by
      simp only [PM, PS, TCl, SP, LRn, LCt, LC, VO, VC, WF, WR, TXf, LXt, LXs, LX, XO, XC, FX, FrC] at q
      unfold TpC at w; omega)
  · exact g6.keep hE (fun k n j q w => by
      simp only [PM, PS, TCl, SP, LRn, LCt, LC, VO, VC, WF, WR, TXf, LXt, LXs, LX, XO, XC, FX, FrC] at q
      omega)
  · exact g7.keep hE (fun k n j q w => by
      simp only [PM, PS, TCl, SP, LRn, LCt, LC, VO, VC, WF, WR, TXf, LXt, LXs, LX, XO, XC, FX, FrC] at q
      unfold OrC at w; omega)
  · exact g8.keep hE (fun k n j q w => by
      simp only [PM, PS, TCl, SP, LRn, LCt, LC, VO, VC, WF, WR, TXf, LXt, LXs, LX, XO, XC, FX, FrC] at q
      unfold CtC at w; omega)
  · exact g9.keep hE (fun k n j q w => by
      simp only [PM, PS, TCl, SP, LRn, LCt, LC, VO, VC, WF, WR, TXf, LXt, LXs, LX, XO, XC, FX, FrC] at q
      rcases w with w | ⟨t, t1, t2, w⟩ | ⟨b, b1, b2, w⟩
      · unfold MkC at w; omega
      · omega
      · unfold PC at w; omega)
theorem Rel.pmk (h : Rel σ) (hE : Eqo PMk σ τ) (hBlE : BlE 0 0 τ) (hSt : St τ) (hMkR : MkR τ) : Rel τ := by
  obtain ⟨g0, -, g2, g3, g4, g5, g6, g7, g8, g9⟩ := h
  refine ⟨hBlE, hSt, ?_, ?_, ?_, ?_, ?_, ?_, ?_, hMkR⟩
  · exact g2.keep hE (fun k n j q w => by
      simp only [PMk, PS, MkC, DC, PC] at q
      unfold TC at w; rcases q with q | q | ⟨t, t1, t2, q⟩ | ⟨b, b1, b2, q⟩ <;> omega)
  · exact g3.keep hE (fun k n j q w => by
      simp only [PMk, PS, MkC, DC, PC] at q
      unfold FrC at w; rcases q with q | q | ⟨t, t1, t2, q⟩ | ⟨b, b1, b2, q⟩ <;> omega)
  · exact g4.keep hE (fun k n j q w => by
      simp only [PMk, PS, MkC, DC, PC] at q
      unfold Ft4 at w; rcases q with q | q | ⟨t, t1, t2, q⟩ | ⟨b, b1, b2, q⟩ <;> omega)
  · exact g5.keep hE (fun k n j q w => by
      simp only [PMk, PS, MkC, DC, PC] at q
      unfold TpC at w; rcases q with q | q | ⟨t, t1, t2, q⟩ | ⟨b, b1, b2, q⟩ <;> omega)
  · exact g6.keep hE (fun k n j q w => by
      simp only [PMk, PS, MkC, DC, PC] at q
      rcases q with q | q | ⟨t, t1, t2, q⟩ | ⟨b, b1, b2, q⟩ <;> omega)
  · exact g7.keep hE (fun k n j q w => by
      simp only [PMk, PS, MkC, DC, PC] at q
      unfold OrC at w; rcases q with q | q | ⟨t, t1, t2, q⟩ | ⟨b, b1, b2, q⟩ <;> omega)
  · exact g8.keep hE (fun k n j q w => by
      simp only [PMk, PS, MkC, DC, PC] at q
      unfold CtC at w; rcases q with q | q | ⟨t, t1, t2, q⟩ | ⟨b, b1, b2, q⟩ <;> omega)
theorem Rel.pbk (h : Rel σ) (hE : Eqo PBk σ τ) (hBlE : BlE 0 0 τ) (hSt : St τ) (hMkR : MkR τ) : Rel τ := by
  obtain ⟨g0, -, g2, g3, g4, g5, g6, g7, g8, g9⟩ := h
  refine ⟨hBlE, hSt, ?_, ?_, ?_, ?_, ?_, ?_, ?_, hMkR⟩
  · exact g2.keep hE (fun k n j q w => by
      simp only [PBk, PS, MkC, DC, PC] at q
      unfold TC at w; omega)
  · exact g3.keep hE (fun k n j q w => by
      simp only [PBk, PS, MkC, DC, PC] at q
      unfold FrC at w; omega)
  · exact g4.keep hE (fun k n j q w => by
      simp only [PBk, PS, MkC, DC, PC] at q
      unfold Ft4 at w; omega)
  · exact g5.keep hE (fun k n j q w => by
      simp only [PBk, PS, MkC, DC, PC] at q
      unfold TpC at w; omega)
  · exact g6.keep hE (fun k n j q w => by
      simp only [PBk, PS, MkC, DC, PC] at q
      omega)
  · exact g7.keep hE (fun k n j q w => by
      simp only [PBk, PS, MkC, DC, PC] at q
      unfold OrC at w; omega)
  · exact g8.keep hE (fun k n j q w => by
      simp only [PBk, PS, MkC, DC, PC] at q
      unfold CtC at w; omega)
theorem Rel.pdr (h : Rel σ) (hE : Eqo PDr σ τ) (hBlE : BlE 0 0 τ) (hSt : St τ) (hFtR : FtR τ) (hTpR : TpR τ) : Rel τ := by
  obtain ⟨g0, -, g2, g3, g4, g5, g6, g7, g8, g9⟩ := h
  refine ⟨hBlE, hSt, ?_, ?_, hFtR, hTpR, ?_, ?_, ?_, ?_⟩
  · exact g2.keep hE (fun k n j q w => by
      simp only [PDr, PS, BC, BX, DC, PC] at q
      unfold TC at w; omega)
  · exact g3.keep hE (fun k n j q w => by
      simp only [PDr, PS, BC, BX, DC, PC] at q
      unfold FrC at w; omega)
  · exact g6.keep hE (fun k n j q w => by
      simp only [PDr, PS, BC, BX, DC, PC] at q
      omega)
  · exact g7.keep hE (fun k n j q w => by
      simp only [PDr, PS, BC, BX, DC, PC] at q
      unfold OrC at w; omega)
  · exact g8.keep hE (fun k n j q w => by
      simp only [PDr, PS, BC, BX, DC, PC] at q
      unfold CtC at w; omega)
  · exact g9.keep hE (fun k n j q w => by
      simp only [PDr, PS, BC, BX, DC, PC] at q
      rcases w with w | ⟨t, t1, t2, w⟩ | ⟨b, b1, b2, w⟩
      · unfold MkC at w; omega
      · omega
      · unfold PC at w; omega)
theorem Rel.pyr (h : Rel σ) (hE : Eqo PYr σ τ) (hBlE : BlE 0 0 τ) (hSt : St τ) (hFtR : FtR τ) (hTpR : TpR τ) : Rel τ := by
  obtain ⟨g0, -, g2, g3, g4, g5, g6, g7, g8, g9⟩ := h
  refine ⟨hBlE, hSt, ?_, ?_, hFtR, hTpR, ?_, ?_, ?_, ?_⟩
  · exact g2.keep hE (fun k n j q w => by
      simp only [PYr, PS, YFb, YXb, BC, BX] at q
      unfold TC at w; omega)
  · exact g3.keep hE (fun k n j q w => by
      simp only [PYr, PS, YFb, YXb, BC, BX] at q
      unfold FrC at w; omega)
  · exact g6.keep hE (fun k n j q w => by
      simp only [PYr, PS, YFb, YXb, BC, BX] at q
      omega)
  · exact g7.keep hE (fun k n j q w => by
      simp only [PYr, PS, YFb, YXb, BC, BX] at q
      unfold OrC at w; omega)
  · exact g8.keep hE (fun k n j q w => by
      simp only [PYr, PS, YFb, YXb, BC, BX] at q
      unfold CtC at w; omega)
  · exact g9.keep hE (fun k n j q w => by
      simp only [PYr, PS, YFb, YXb, BC, BX] at q
      rcases w with w | ⟨t, t1, t2, w⟩ | ⟨b, b1, b2, w⟩
      · unfold MkC at w; omega
      · omega
      · unfold PC at w; omega)
theorem Rel.d (h : Rel σ) {R : Type} {f g : SS → Option (R × SS)} (hD : ∀ n nk nu lo i c s p o L, RelD σ n nk nu lo i c s p o L → (∃ b : Bool, σ.1 8 0 1 = if b = true then 1 else 0) → DR σ n nk nu lo f g) : OR σ f g := by
  obtain ⟨n, nk, nu, lo, i, c, s, p, o, L, hB⟩ := h.1
  obtain ⟨r, σ1, σ2, e1, e2, ⟨i', c', s', p', o', L', hr⟩, hS, hE⟩ := hD _ _ _ _ _ _ _ _ _ _ hB.rel hB.2.2.2.2.1.flag
  exact ⟨r, σ1, σ2, e1, e2, h.pds hE ⟨_, _, _, _, _, _, _, _, _, _, hB.new hr hE (fun k n j q w => by simp only [PDS, VO, VC, XO, XC, PS, SP] at q; unfold YN at w; omega)⟩ hS⟩
theorem Rel.opwy (h : Rel σ) {R : Type} {f g : SS → Option (R × SS)} (hB : BlR 0 0 σ n nk nu lo i c s p o L) (hD : OR3 PWy σ f g (fun τ => RelD τ n nk nu lo i c s p o L ∧ WyR τ)) : OR σ f g := by
  obtain ⟨r, σ1, σ2, e1, e2, hSt, hE, hC⟩ := hD
  obtain ⟨hr, hWyR⟩ := hC
  exact ⟨r, σ1, σ2, e1, e2, h.pwy hE ⟨_, _, _, _, _, _, _, _, _, _, hB.new hr hE (fun k n j q w => by simp only [PWy, PV, PS, XO, XC, SP] at q; unfold YN at w; omega)⟩ hSt hWyR⟩
theorem Rel.opv (h : Rel σ) {R : Type} {f g : SS → Option (R × SS)} (hB : BlR 0 0 σ n nk nu lo i c s p o L) (hD : OR3 PV σ f g (fun τ => RelD τ n nk nu lo i c s p o L)) : OR σ f g := by
  obtain ⟨r, σ1, σ2, e1, e2, hSt, hE, hr⟩ := hD
  exact ⟨r, σ1, σ2, e1, e2, h.pv hE ⟨_, _, _, _, _, _, _, _, _, _, hB.new hr hE (fun k n j q w => by simp only [PV, PS, XO, XC, SP] at q; unfold YN at w; omega)⟩ hSt⟩
theorem Rel.opf (h : Rel σ) {R : Type} {f g : SS → Option (R × SS)} (hB : BlR 0 0 σ n nk nu lo i c s p o L) (hD : OR3 PF σ f g (fun τ => RelD τ n nk nu lo i c s p o L ∧ Fr τ)) : OR σ f g := by
  obtain ⟨r, σ1, σ2, e1, e2, hSt, hE, hC⟩ := hD
  obtain ⟨hr, hFr⟩ := hC
  exact ⟨r, σ1, σ2, e1, e2, h.pf hE ⟨_, _, _, _, _, _, _, _, _, _, hB.new hr hE (fun k n j q w => by simp only [PF, PV, PS, XO, XC, SP, FrC] at q; unfold YN at w; omega)⟩ hSt hFr⟩
theorem Rel.opal (h : Rel σ) {R : Type} {f g : SS → Option (R × SS)} (hB : BlR 0 0 σ n nk nu lo i c s p o L) (hD : OR3 PAl σ f g (fun τ => RelD τ n nk nu lo i c s p o L ∧ OrR τ)) : OR σ f g := by
  obtain ⟨r, σ1, σ2, e1, e2, hSt, hE, hC⟩ := hD
  obtain ⟨hr, hOrR⟩ := hC
  exact ⟨r, σ1, σ2, e1, e2, h.pal hE ⟨_, _, _, _, _, _, _, _, _, _, hB.new hr hE (fun k n j q w => by simp only [PAl, PV, PS, XO, XC, SP, OrC] at q; unfold YN at w; omega)⟩ hSt hOrR⟩
theorem Rel.ops (h : Rel σ) {R : Type} {f g : SS → Option (R × SS)} (hD : OR3 PS σ f g (fun _ => True)) : OR σ f g := by
  obtain ⟨r, σ1, σ2, e1, e2, hSt, hE, -⟩ := hD
  exact ⟨r, σ1, σ2, e1, e2, h.ps hE hSt⟩
theorem Rel.w1 (h : Rel σ) : Rel (wI σ 11 0 1 0) := by
  refine h.ps (ps3 _ _) ?_
  show (wI σ 11 0 1 0).1 10 0 11 = (wI σ 11 0 1 0).1 11 0 0
  rw [wI_ne _ _ (by omega), wI_ne _ _ (by omega)]
  exact h.2.1
theorem lf_status (h : Rel σ) : OR1 σ X11_status X12_status := by
  obtain ⟨r, σ2, e1, e2, hS, hE⟩ := op_status h.2.1
  exact ⟨r, σ2, e1, e2, h.ps hE hS⟩
theorem lf_top (h : Rel σ) : OR1 σ X11_top X12_top := by
  refine ⟨σ.2 10 0 12, wI σ 11 0 1 0, rfl, ?_, h.w1⟩
  unfold X12_top X12_top_j0
  rw [Option.bind_some, wI_2, h.2.2.2.1.1]
theorem lf_bottom (h : Rel σ) : OR1 σ X11_bottom X12_bottom := by
  refine ⟨σ.2 10 0 13, wI σ 11 0 1 0, rfl, ?_, h.w1⟩
  unfold X12_bottom X12_bottom_j0
  rw [Option.bind_some, wI_2, h.2.2.2.1.2]
theorem lf_fault (a : Int32) (h : Rel σ) : OR1 σ (fun σ => X11_fault σ a) (fun σ => X12_fault σ a) := by
  have hF := h.2.2.2.2.1
  have hW := h.w1
  unfold X11_fault X11_fault_j0 X5_faultKind X5_faultKind_j0 X5_faultPlace X5_faultPlace_j0 X12_fault X12_fault_j0 OR1
  simp only [Option.bind_some, wI_ne _ _ (show ¬ (11 = 11 ∧ 0 = 0 ∧ 10 = 1) by omega), wI_ne _ _ (show ¬ (11 = 11 ∧ 0 = 0 ∧ 11 = 1) by omega), hF.1, hF.2]
  by_cases h0 : a = 0
  · rw [if_pos h0, if_pos h0]
    exact ⟨_, _, rfl, rfl, hW⟩
  · rw [if_neg h0, if_neg h0]
    by_cases h1 : a = 1
    · rw [if_pos h1, if_pos h1]
      exact ⟨_, _, rfl, rfl, hW⟩
    · rw [if_neg h1, if_neg h1]
      exact ⟨_, _, rfl, rfl, hW⟩
theorem lf_loosen  (h : Rel σ) : OR σ X11_loosen X12_loosen := by
  exact h.d (fun n nk nu lo i c s p o L q _ => op_loosen _ _ _ _ _ _ _ _ _ _ _ q)
theorem lf_cut (a : Int32) (h : Rel σ) : OR σ (fun σ => X11_cut σ a) (fun σ => X12_cut_ σ a) := by
  exact h.d (fun n nk nu lo i c s p o L q _ => op_cut a _ _ _ _ _ _ _ _ _ _ _ q)
theorem lf_pull (a : Int32) (h : Rel σ) : OR σ (fun σ => X11_pull σ a) (fun σ => X12_pull σ a) := by
  exact h.d (fun n nk nu lo i c s p o L q _ => op_pull a _ _ _ _ _ _ _ _ _ _ _ q)
theorem lf_lump (a : Int32) (h : Rel σ) : OR σ (fun σ => X11_lump σ a) (fun σ => X12_lump σ a) := by
  exact h.d (fun n nk nu lo i c s p o L q _ => op_lump a _ _ _ _ _ _ _ _ _ _ _ q)
theorem lf_comes (a : Int32) (h : Rel σ) : OR σ (fun σ => X11_comes σ a) (fun σ => X12_comes σ a) := by
  exact h.d (fun n nk nu lo i c s p o L q _ => op_comes a _ _ _ _ _ _ _ _ _ _ _ q)
theorem lf_open (a : Int32) (h : Rel σ) : OR σ (fun σ => X11_open σ a) (fun σ => X12_open σ a) := by
  exact h.d (fun n nk nu lo i c s p o L q _ => op_open a _ _ _ _ _ _ _ _ _ _ _ q)
theorem lf_many (a : Int32) (h : Rel σ) : OR σ (fun σ => X11_many σ a) (fun σ => X12_many σ a) := by
  exact h.d (fun n nk nu lo i c s p o L q _ => op_many a _ _ _ _ _ _ _ _ _ _ _ q)
theorem lf_inState (a : Int32) (h : Rel σ) : OR σ (fun σ => X11_inState σ a) (fun σ => X12_inState σ a) := by
  exact h.d (fun n nk nu lo i c s p o L q _ => op_inState a _ _ _ _ _ _ _ _ _ _ _ q)
theorem lf_free (a : Int32) (h : Rel σ) : OR σ (fun σ => X11_free σ a) (fun σ => X12_free σ a) := by
  exact h.d (fun n nk nu lo i c s p o L q _ => op_free a _ _ _ _ _ _ _ _ _ _ _ q)
theorem lf_clip (a : Int32) (h : Rel σ) : OR σ (fun σ => X11_clip σ a) (fun σ => X12_clip σ a) := by
  exact h.d (fun n nk nu lo i c s p o L q _ => op_clip a _ _ _ _ _ _ _ _ _ _ _ q)
theorem lf_unclip (a : Int32) (h : Rel σ) : OR σ (fun σ => X11_unclip σ a) (fun σ => X12_unclip σ a) := by
  exact h.d (fun n nk nu lo i c s p o L q _ => op_unclip a _ _ _ _ _ _ _ _ _ _ _ q)
theorem lf_follow (a : Int32) (b : Int32) (h : Rel σ) : OR σ (fun σ => X11_follow σ a b) (fun σ => X12_follow σ a b) := by
  exact h.d (fun n nk nu lo i c s p o L q _ => op_follow a b _ _ _ _ _ _ _ _ _ _ _ q)
theorem lf_look (a : Int32) (h : Rel σ) : OR σ (fun σ => X11_look σ a) (fun σ => X12_look σ a) := by
  exact h.d (fun n nk nu lo i c s p o L q _ => op_look a _ _ _ _ _ _ _ _ _ _ _ q)
theorem lf_lead (a : Int32) (b : Int32) (h : Rel σ) : OR σ (fun σ => X11_lead σ a b) (fun σ => X12_lead σ a b) := by
  exact h.d (fun n nk nu lo i c s p o L q _ => op_lead a b _ _ _ _ _ _ _ _ _ _ _ q)
theorem lf_crossing (a : Int32) (b : Int32) (h : Rel σ) : OR σ (fun σ => X11_crossing σ a b) (fun σ => X12_crossing σ a b) := by
  exact h.d (fun n nk nu lo i c s p o L q _ => op_crossing a b _ _ _ _ _ _ _ _ _ _ _ q)
theorem lf_easy  (h : Rel σ) : OR σ X11_easy X12_easy := by
  exact h.d (fun n nk nu lo i c s p o L q _ => op_easy _ _ _ _ _ _ _ _ _ _ _ q)
theorem lf_cross (a : Int32) (b : Int32) (d : Int32) (h : Rel σ) : OR σ (fun σ => X11_cross σ a b d) (fun σ => X12_cross σ a b d) := by
  exact h.d (fun n nk nu lo i c s p o L q _ => op_cross a b d _ _ _ _ _ _ _ _ _ _ _ q)
theorem lf_between (a : Int32) (b : Int32) (h : Rel σ) : OR σ (fun σ => X11_between σ a b) (fun σ => X12_between σ a b) := by
  exact h.d (fun n nk nu lo i c s p o L q _ => op_between a b _ _ _ _ _ _ _ _ _ _ _ q)
theorem lf_lumps (a : Int32) (h : Rel σ) : OR σ (fun σ => X11_lumps σ a) (fun σ => X12_lumps σ a) := by
  exact h.d (fun n nk nu lo i c s p o L q _ => op_lumps a _ _ _ _ _ _ _ _ _ _ _ q)
theorem lf_along (a : Int32) (b : Int32) (h : Rel σ) : OR σ (fun σ => X11_along σ a b) (fun σ => X12_along σ a b) := by
  exact h.d (fun n nk nu lo i c s p o L q _ => op_along a b _ _ _ _ _ _ _ _ _ _ _ q)
theorem lf_key  (h : Rel σ) : OR σ X11_key X12_key := by
  exact h.d (fun n nk nu lo i c s p o L q _ => op_key _ _ _ _ _ _ _ _ _ _ _ q)
theorem lf_worst  (h : Rel σ) : OR σ X11_worst X12_worst := by
  exact h.d (fun n nk nu lo i c s p o L q _ => op_worst _ _ _ _ _ _ _ _ _ _ _ q)
theorem lf_worse (a : Int32) (b : Int32) (h : Rel σ) : OR σ (fun σ => X11_worse σ a b) (fun σ => X12_worse σ a b) := by
  exact h.d (fun n nk nu lo i c s p o L q hb => op_worse a b q hb)
theorem lf_read (a : Int32) (b : Int32) (h : Rel σ) : OR σ (fun σ => X11_read σ a b) (fun σ => X12_read σ a b) := by
  obtain ⟨r, σ1, σ2, e1, e2, hT, hS, hE⟩ := op_read a b h.2.2.1
  exact ⟨r, σ1, σ2, e1, e2, h.pt hE hS hT⟩
theorem lf_write (a : Int32) (b : Int32) (v : Int64) (h : Rel σ) : OR σ (fun σ => X11_write σ a b v) (fun σ => X12_write σ a b v) := by
  obtain ⟨r, σ1, σ2, e1, e2, hT, hS, hE⟩ := op_write a b v h.2.2.1
  exact ⟨r, σ1, σ2, e1, e2, h.pt hE hS hT⟩
theorem lf_tray (a : Int32) (b : Int32) (d : Int32) (h : Rel σ) : OR σ (fun σ => X11_tray σ a b d) (fun σ => X12_tray σ a b d) := by
  obtain ⟨r, σ1, σ2, e1, e2, hS, hE, hT⟩ := op_tray a b d h.2.2.1
  exact ⟨r, σ1, σ2, e1, e2, h.pt hE hS hT⟩
theorem lf_pour (a : Int32) (b : Int32) (d : Int32) (e : Int32) (g : Int32) (h : Rel σ) : OR σ (fun σ => X11_pour σ a b d e g) (fun σ => X12_pour σ a b d e g) := by
  obtain ⟨r, σ1, σ2, e1, e2, hS, hE, hT⟩ := op_pour a b d e g h.2.2.1
  exact ⟨r, σ1, σ2, e1, e2, h.pt hE hS hT⟩
theorem lf_copyStates (a : Int32) (h : Rel σ) : OR σ (fun σ => X11_copyStates σ a) (fun σ => X12_copyStates σ a) := by
  obtain ⟨n, nk, nu, lo, i, c, s, p, o, L, hB⟩ := id h.1
  obtain ⟨r, σ1, σ2, e1, e2, hS, hE, hr, hT⟩ := op_copyStates a hB.rel h.2.2.1
  exact ⟨r, σ1, σ2, e1, e2, h.pt hE hS hT⟩
theorem lf_feed (a : Int32) (b : Int32) (d : Int32) (e : Int32) (g : Int32) (h : Rel σ) : OR σ (fun σ => X11_feed σ a b d e g) (fun σ => X12_feed σ a b d e g) := by
  obtain ⟨r, σ1, σ2, e1, e2, hS, hE, hT⟩ := op_feed a b d e g h.2.2.2.2.2.1 h.2.1
  exact ⟨r, σ1, σ2, e1, e2, h.ptp hE hS hT⟩
theorem lf_alone (a : Int32) (h : Rel σ) : OR σ (fun σ => X11_alone σ a) (fun σ => X12_alone σ a) := by
  obtain ⟨n, nk, nu, lo, i, c, s, p, o, L, hB⟩ := id h.1
  exact h.opwy hB (op_alone a hB.rel h.2.2.2.2.2.2.1)
theorem lf_way (a : Int32) (h : Rel σ) : OR σ (fun σ => X11_way σ a) (fun σ => X12_way σ a) := by
  exact h.ops (op_way a h.2.2.2.2.2.2.1)
theorem lf_soonest  (h : Rel σ) : OR σ X11_soonest X12_soonest := by
  obtain ⟨n, nk, nu, lo, i, c, s, p, o, L, hB⟩ := id h.1
  exact h.opv hB (op_soonest hB.rel)
theorem lf_follows (a : Int32) (b : Int32) (d : Int32) (h : Rel σ) : OR σ (fun σ => X11_follows σ a b d) (fun σ => X12_follows σ a b d) := by
  obtain ⟨n, nk, nu, lo, i, c, s, p, o, L, hB⟩ := id h.1
  exact h.opv hB (op_follows a b d hB.rel)
theorem lf_boxes (a : Int32) (h : Rel σ) : OR σ (fun σ => X11_boxes σ a) (fun σ => X12_boxes σ a) := by
  obtain ⟨n, nk, nu, lo, i, c, s, p, o, L, hB⟩ := id h.1
  exact h.opv hB (op_boxes a hB.rel)
theorem lf_grows  (h : Rel σ) : OR σ X11_grows X12_grows := by
  obtain ⟨n, nk, nu, lo, i, c, s, p, o, L, hB⟩ := id h.1
  exact h.opf hB (op_grows hB.rel)
theorem lf_fresh (a : Int32) (b : Int32) (h : Rel σ) : OR σ (fun σ => X11_fresh σ a b) (fun σ => X12_fresh σ a b) := by
  obtain ⟨n, nk, nu, lo, i, c, s, p, o, L, hB⟩ := id h.1
  exact h.opf hB (op_fresh a b hB.rel h.2.2.2.1)
theorem lf_tries (a : Int32) (h : Rel σ) : OR σ (fun σ => X11_tries σ a) (fun σ => X12_tries σ a) := by
  obtain ⟨n, nk, nu, lo, i, c, s, p, o, L, hB⟩ := id h.1
  exact h.opf hB (op_tries a hB.rel h.2.2.2.1)
theorem lf_clips  (h : Rel σ) : OR σ X11_clips X12_clips := by
  obtain ⟨n, nk, nu, lo, i, c, s, p, o, L, hB⟩ := id h.1
  exact h.ops (op_clips hB.rel)
theorem lf_nextTry (a : Int32) (b : Int32) (h : Rel σ) : OR σ (fun σ => X11_nextTry σ a b) (fun σ => X12_nextTry σ a b) := by
  obtain ⟨n, nk, nu, lo, i, c, s, p, o, L, hB⟩ := id h.1
  exact h.ops (op_nextTry a b hB.rel)
theorem lf_waste (a : Int32) (h : Rel σ) : OR σ (fun σ => X11_waste σ a) (fun σ => X12_waste σ a) := by
  obtain ⟨n, nk, nu, lo, i, c, s, p, o, L, hB⟩ := id h.1
  exact h.ops (op_waste a hB.rel)
theorem lf_all  (h : Rel σ) : OR σ X11_all X12_all := by
  obtain ⟨n, nk, nu, lo, i, c, s, p, o, L, hB⟩ := id h.1
  exact h.opal hB (op_all hB.rel)
theorem lf_order (a : Int32) (h : Rel σ) : OR σ (fun σ => X11_order σ a) (fun σ => X12_order σ a) := by
  exact h.ops (op_order a h.2.2.2.2.2.2.2.1)
theorem lf_loosens  (h : Rel σ) : OR σ X11_loosens X12_loosens := by
  exact h.ops (op_loosens h.2.2.2.2.2.2.2.1)
theorem lf_live (a : Int32) (h : Rel σ) : OR σ (fun σ => X11_live σ a) (fun σ => X12_live σ a) := by
  obtain ⟨n, nk, nu, lo, i, c, s, p, o, L, hB⟩ := id h.1
  obtain ⟨r, σ1, σ2, e1, e2, hS, hE, ⟨i1, c1, s1, p1, o1, L1, hr⟩, hC⟩ := op_live a hB.rel hB.yr h.2.2.2.2.2.2.2.2.1
  exact ⟨r, σ1, σ2, e1, e2, h.pl hE ⟨_, _, _, _, _, _, _, _, _, _, hB.new hr hE (fun k n j q w => by simp only [PL, PS, LRn, LCt, LC, VO, VC, WF, WR, LXt, LXs, LX, XO, XC, FX, CtC] at q; unfold YN at w; omega)⟩ hS hC⟩
theorem lf_lived (a : Int32) (h : Rel σ) : OR σ (fun σ => X11_lived σ a) (fun σ => X12_lived σ a) := by
  obtain ⟨r, σ1, σ2, e1, e2, hS, hE, hC⟩ := op_lived a h.2.2.2.2.2.2.2.2.1
  exact ⟨r, σ1, σ2, e1, e2, h.ps hE hS⟩
theorem lf_mean (a : Int32) (b : Int32) (h : Rel σ) : OR σ (fun σ => X11_mean σ a b) (fun σ => X12_mean σ a b) := by
  obtain ⟨n, nk, nu, lo, i, c, s, p, o, L, hB⟩ := id h.1
  obtain ⟨r, σ1, σ2, e1, e2, hS, hE, hr, hF⟩ := op_mean a b hB.rel hB.yr h.2.2.2.1
  exact ⟨r, σ1, σ2, e1, e2, h.pm hE ⟨_, _, _, _, _, _, _, _, _, _, hB.new hr hE (fun k n j q w => by simp only [PM, PS, TCl, SP, LRn, LCt, LC, VO, VC, WF, WR, TXf, LXt, LXs, LX, XO, XC, FX, FrC] at q; unfold YN at w; omega)⟩ hS hF⟩
theorem lf_odds (a : Int32) (b : Int32) (d : Int32) (h : Rel σ) : OR σ (fun σ => X11_odds σ a b d) (fun σ => X12_odds σ a b d) := by
  obtain ⟨n, nk, nu, lo, i, c, s, p, o, L, hB⟩ := id h.1
  obtain ⟨r, σ1, σ2, e1, e2, hS, hE, hr, hF⟩ := op_odds a b d hB.rel hB.yr h.2.2.2.1
  exact ⟨r, σ1, σ2, e1, e2, h.pm hE ⟨_, _, _, _, _, _, _, _, _, _, hB.new hr hE (fun k n j q w => by simp only [PM, PS, TCl, SP, LRn, LCt, LC, VO, VC, WF, WR, TXf, LXt, LXs, LX, XO, XC, FX, FrC] at q; unfold YN at w; omega)⟩ hS hF⟩
theorem lf_mark  (h : Rel σ) : OR σ X11_mark X12_mark := by
  obtain ⟨n, nk, nu, lo, i, c, s, p, o, L, hB⟩ := id h.1
  obtain ⟨r, σ1, σ2, e1, e2, hS, hE, hr, hM⟩ := op_mark hB h.2.2.2.2.2.2.2.2.2
  exact ⟨r, σ1, σ2, e1, e2, h.pmk hE ⟨_, _, _, _, _, _, _, _, _, _, hr⟩ hS hM⟩
theorem lf_back  (h : Rel σ) : OR σ X11_back X12_back := by
  obtain ⟨n, nk, nu, lo, i, c, s, p, o, L, hB⟩ := id h.1
  obtain ⟨r, σ1, σ2, e1, e2, hS, hE, hr, hM⟩ := op_back hB h.2.2.2.2.2.2.2.2.2
  exact ⟨r, σ1, σ2, e1, e2, h.pbk hE hr hS hM⟩
theorem lf_drawer (a : Int32) (h : Rel σ) : OR σ (fun σ => X11_drawer σ a) (fun σ => X12_drawer σ a) := by
  obtain ⟨n, nk, nu, lo, i, c, s, p, o, L, hB⟩ := id h.1
  obtain ⟨r, σ1, σ2, e1, e2, hS, hE, hr, hT, hF⟩ := op_drawer a hB h.2.2.2.2.2.1 h.2.2.2.2.1
  exact ⟨r, σ1, σ2, e1, e2, h.pdr hE hr hS hF hT⟩
theorem lf_years (a : Int32) (h : Rel σ) : OR σ (fun σ => X11_years σ a) (fun σ => X12_years σ a) := by
  obtain ⟨n, nk, nu, lo, i, c, s, p, o, L, hB⟩ := id h.1
  obtain ⟨r, σ1, σ2, e1, e2, hS, hE, hr, hT, hF⟩ := op_years a hB h.2.2.2.2.2.1 h.2.2.2.2.1
  exact ⟨r, σ1, σ2, e1, e2, h.pyr hE ⟨_, _, _, _, _, _, _, _, _, _, hr⟩ hS hF hT⟩
end RL

/-! the relation, and each call of the law (printed by mksteps.py) -/
def REL0 : RELT := fun wat fla fly lea clo con inn th mu ta ho od hs fs sz wat1 fla1 fly1 lea1 clo1 con1 inn1 th1 mu1 ta1 ho1 od1 hs1 fs1 sz1 wat2 fla2 fly2 lea2 clo2 con2 inn2 th2 mu2 ta2 ho2 od2 hs2 fs2 sz2 kp1 kp2 sg pz bk flk lek mus rk smz ms msz mp im mk => STR wat fla fly lea clo con inn th mu ta ho od hs fs sz bk flk lek mus rk smz ms ∧ PADR sg pz msz mp ∧ IMG kp1 (mk 0) wat1 fla1 fly1 lea1 clo1 con1 inn1 th1 mu1 ta1 ho1 od1 hs1 fs1 sz1 im 0 ∧ IMG kp2 (mk 1) wat2 fla2 fly2 lea2 clo2 con2 inn2 th2 mu2 ta2 ho2 od2 hs2 fs2 sz2 im 100
theorem step_0 : STEP_0 REL0 := by
  intro wat fla fly lea clo con inn th mu ta ho od hs fs sz wat1 fla1 fly1 lea1 clo1 con1 inn1 th1 mu1 ta1 ho1 od1 hs1 fs1 sz1 wat2 fla2 fly2 lea2 clo2 con2 inn2 th2 mu2 ta2 ho2 od2 hs2 fs2 sz2 kp1 kp2 sg pz bk flk lek mus rk smz ms msz mp im mk y1 y2 y3 y4 y5 hR
  obtain ⟨⟨hS, hO, hG⟩, hP, i1, i2⟩ := hR
  obtain ⟨r, e0, e1, e2, e3, e4, e5, e6, e7, e8, d0, d1, d2, d3, q1, q2, n1⟩ := core_globe y1 y2 y3 y4 y5 hS
  exact ⟨r, e0, e1, e2, e3, e4, e5, e6, e7, e8, d0, d1, d2, d3, q1, q2, ⟨n1, hO, hG⟩, hP, i1, i2⟩
theorem step_1 : STEP_1 REL0 := by
  intro wat fla fly lea clo con inn th mu ta ho od hs fs sz wat1 fla1 fly1 lea1 clo1 con1 inn1 th1 mu1 ta1 ho1 od1 hs1 fs1 sz1 wat2 fla2 fly2 lea2 clo2 con2 inn2 th2 mu2 ta2 ho2 od2 hs2 fs2 sz2 kp1 kp2 sg pz bk flk lek mus rk smz ms msz mp im mk y1 y2 hR
  obtain ⟨⟨hS, hO, hG⟩, hP, i1, i2⟩ := hR
  obtain ⟨r, e0, d0, q1, q2, n1⟩ := core_fly y1 y2 hS
  exact ⟨r, e0, d0, q1, q2, ⟨n1, hO, hG⟩, hP, i1, i2⟩
theorem step_2 : STEP_2 REL0 := by
  intro wat fla fly lea clo con inn th mu ta ho od hs fs sz wat1 fla1 fly1 lea1 clo1 con1 inn1 th1 mu1 ta1 ho1 od1 hs1 fs1 sz1 wat2 fla2 fly2 lea2 clo2 con2 inn2 th2 mu2 ta2 ho2 od2 hs2 fs2 sz2 kp1 kp2 sg pz bk flk lek mus rk smz ms msz mp im mk y1 y2 y3 hR
  obtain ⟨⟨hS, hO, hG⟩, hP, i1, i2⟩ := hR
  obtain ⟨r, e0, e1, d0, q1, q2, n1⟩ := core_mood y1 y2 y3 hS
  exact ⟨r, e0, e1, d0, q1, q2, ⟨n1, hO, hG⟩, hP, i1, i2⟩
theorem step_3 : STEP_3 REL0 := by
  intro wat fla fly lea clo con inn th mu ta ho od hs fs sz wat1 fla1 fly1 lea1 clo1 con1 inn1 th1 mu1 ta1 ho1 od1 hs1 fs1 sz1 wat2 fla2 fly2 lea2 clo2 con2 inn2 th2 mu2 ta2 ho2 od2 hs2 fs2 sz2 kp1 kp2 sg pz bk flk lek mus rk smz ms msz mp im mk m0 m1 m2 y1 y2 hR
  obtain ⟨⟨hS, hO, hG⟩, hP, i1, i2⟩ := hR
  obtain ⟨r, e0, d0, d1, d2, d3, q1, q2, n1⟩ := core_put m0 m1 m2 y1 y2 hS
  exact ⟨r, e0, d0, d1, d2, d3, q1, q2, ⟨n1, hO, hG⟩, hP, i1, i2⟩
theorem step_4 : STEP_4 REL0 := by
  intro wat fla fly lea clo con inn th mu ta ho od hs fs sz wat1 fla1 fly1 lea1 clo1 con1 inn1 th1 mu1 ta1 ho1 od1 hs1 fs1 sz1 wat2 fla2 fly2 lea2 clo2 con2 inn2 th2 mu2 ta2 ho2 od2 hs2 fs2 sz2 kp1 kp2 sg pz bk flk lek mus rk smz ms msz mp im mk y1 hR
  obtain ⟨⟨hS, hO, hG⟩, hP, i1, i2⟩ := hR
  obtain ⟨r, e0, e1, d0, d1, q1, q2, n1⟩ := core_say y1 hP
  exact ⟨r, e0, e1, d0, d1, q1, q2, ⟨hS, hO, hG⟩, n1, i1, i2⟩
theorem step_5 : STEP_5 REL0 := by
  intro wat fla fly lea clo con inn th mu ta ho od hs fs sz wat1 fla1 fly1 lea1 clo1 con1 inn1 th1 mu1 ta1 ho1 od1 hs1 fs1 sz1 wat2 fla2 fly2 lea2 clo2 con2 inn2 th2 mu2 ta2 ho2 od2 hs2 fs2 sz2 kp1 kp2 sg pz bk flk lek mus rk smz ms msz mp im mk hR
  obtain ⟨⟨hS, hO, hG⟩, hP, i1, i2⟩ := hR
  obtain ⟨r, e0, d0, q1, q2, n1⟩ := core_wipe hP
  exact ⟨r, e0, d0, q1, q2, ⟨hS, hO, hG⟩, n1, i1, i2⟩
theorem step_6 : STEP_6 REL0 := by
  intro wat fla fly lea clo con inn th mu ta ho od hs fs sz wat1 fla1 fly1 lea1 clo1 con1 inn1 th1 mu1 ta1 ho1 od1 hs1 fs1 sz1 wat2 fla2 fly2 lea2 clo2 con2 inn2 th2 mu2 ta2 ho2 od2 hs2 fs2 sz2 kp1 kp2 sg pz bk flk lek mus rk smz ms msz mp im mk hR
  obtain ⟨⟨hS, hO, hG⟩, hP, i1, i2⟩ := hR
  obtain ⟨r, q1, q2⟩ := core_fault hP
  exact ⟨r, q1, q2, ⟨hS, hO, hG⟩, hP, i1, i2⟩
theorem step_7 : STEP_7 REL0 := by
  intro wat fla fly lea clo con inn th mu ta ho od hs fs sz wat1 fla1 fly1 lea1 clo1 con1 inn1 th1 mu1 ta1 ho1 od1 hs1 fs1 sz1 wat2 fla2 fly2 lea2 clo2 con2 inn2 th2 mu2 ta2 ho2 od2 hs2 fs2 sz2 kp1 kp2 sg pz bk flk lek mus rk smz ms msz mp im mk x0 x1 x2 x3 x4 x5 x6 x7 x8 x9 x10 x11 x12 x13 x14 x15 x16 m0 m1 m2 m3 m4 y1 hR
  obtain ⟨⟨hS, hO, hG⟩, hP, i1, i2⟩ := hR
  obtain ⟨r, e0, e1, e2, e3, e4, e5, e6, e7, e8, e9, e10, e11, e12, e13, e14, e15, e16, d0, d1, d2, d3, d4, q1, q2⟩ := core_judge hS hP x0 x1 x2 x3 x4 x5 x6 x7 x8 x9 x10 x11 x12 x13 x14 x15 x16 m0 m1 m2 m3 m4 y1
  exact ⟨r, e0, e1, e2, e3, e4, e5, e6, e7, e8, e9, e10, e11, e12, e13, e14, e15, e16, d0, d1, d2, d3, d4, q1, q2, ⟨hS, hO, hG⟩, hP, i1, i2⟩
theorem step_8 : STEP_8 REL0 := by
  intro wat fla fly lea clo con inn th mu ta ho od hs fs sz wat1 fla1 fly1 lea1 clo1 con1 inn1 th1 mu1 ta1 ho1 od1 hs1 fs1 sz1 wat2 fla2 fly2 lea2 clo2 con2 inn2 th2 mu2 ta2 ho2 od2 hs2 fs2 sz2 kp1 kp2 sg pz bk flk lek mus rk smz ms msz mp im mk x0 x1 x2 x3 x4 x5 x6 x7 x8 x9 x10 x11 x12 x13 x14 x15 x16 m0 m1 m2 m3 m4 hR
  obtain ⟨⟨hS, hO, hG⟩, hP, i1, i2⟩ := hR
  obtain ⟨r, e0, e1, e2, e3, e4, e5, e6, e7, e8, e9, e10, e11, e12, e13, e14, e15, e16, e17, e18, e19, e20, e21, e22, e23, e24, e25, e26, e27, e28, d0, d1, d2, d3, d4, d5, d6, q1, q2, n1, n2⟩ := core_done hS hP x0 x1 x2 x3 x4 x5 x6 x7 x8 x9 x10 x11 x12 x13 x14 x15 x16 m0 m1 m2 m3 m4
  exact ⟨r, e0, e1, e2, e3, e4, e5, e6, e7, e8, e9, e10, e11, e12, e13, e14, e15, e16, e17, e18, e19, e20, e21, e22, e23, e24, e25, e26, e27, e28, d0, d1, d2, d3, d4, d5, d6, q1, q2, ⟨n1, hO, hG⟩, n2, i1, i2⟩
theorem step_9 : STEP_9 REL0 := by
  intro wat fla fly lea clo con inn th mu ta ho od hs fs sz wat1 fla1 fly1 lea1 clo1 con1 inn1 th1 mu1 ta1 ho1 od1 hs1 fs1 sz1 wat2 fla2 fly2 lea2 clo2 con2 inn2 th2 mu2 ta2 ho2 od2 hs2 fs2 sz2 kp1 kp2 sg pz bk flk lek mus rk smz ms msz mp im mk x0 x1 x2 x3 x4 x5 x6 x7 x8 x9 x10 x11 x12 x13 x14 x15 x16 m0 m1 m2 m3 m4 y1 y2 hR
  obtain ⟨⟨hS, hO, hG⟩, hP, i1, i2⟩ := hR
  obtain ⟨r, e0, e1, e2, e3, e4, e5, e6, e7, e8, e9, e10, e11, e12, e13, e14, e15, e16, d0, d1, d2, d3, d4, q1, q2⟩ := core_behind hS hP x0 x1 x2 x3 x4 x5 x6 x7 x8 x9 x10 x11 x12 x13 x14 x15 x16 m0 m1 m2 m3 m4 y1 y2
  exact ⟨r, e0, e1, e2, e3, e4, e5, e6, e7, e8, e9, e10, e11, e12, e13, e14, e15, e16, d0, d1, d2, d3, d4, q1, q2, ⟨hS, hO, hG⟩, hP, i1, i2⟩
theorem step_10 : STEP_10 REL0 := by
  intro wat fla fly lea clo con inn th mu ta ho od hs fs sz wat1 fla1 fly1 lea1 clo1 con1 inn1 th1 mu1 ta1 ho1 od1 hs1 fs1 sz1 wat2 fla2 fly2 lea2 clo2 con2 inn2 th2 mu2 ta2 ho2 od2 hs2 fs2 sz2 kp1 kp2 sg pz bk flk lek mus rk smz ms msz mp im mk x0 x1 x2 x3 x4 x5 x6 x7 x8 x9 x10 x11 x12 x13 x14 x15 x16 m0 m1 m2 m3 m4 y1 hR
  obtain ⟨⟨hS, hO, hG⟩, hP, i1, i2⟩ := hR
  obtain ⟨r, e0, e1, e2, e3, e4, e5, e6, e7, e8, e9, e10, e11, e12, e13, e14, e15, e16, d0, d1, d2, d3, d4, q1, q2⟩ := core_then hS hP x0 x1 x2 x3 x4 x5 x6 x7 x8 x9 x10 x11 x12 x13 x14 x15 x16 m0 m1 m2 m3 m4 y1
  exact ⟨r, e0, e1, e2, e3, e4, e5, e6, e7, e8, e9, e10, e11, e12, e13, e14, e15, e16, d0, d1, d2, d3, d4, q1, q2, ⟨hS, hO, hG⟩, hP, i1, i2⟩
theorem step_11 : STEP_11 REL0 := by
  intro wat fla fly lea clo con inn th mu ta ho od hs fs sz wat1 fla1 fly1 lea1 clo1 con1 inn1 th1 mu1 ta1 ho1 od1 hs1 fs1 sz1 wat2 fla2 fly2 lea2 clo2 con2 inn2 th2 mu2 ta2 ho2 od2 hs2 fs2 sz2 kp1 kp2 sg pz bk flk lek mus rk smz ms msz mp im mk y1 y2 hR
  obtain ⟨⟨hS, hO, hG⟩, hP, i1, i2⟩ := hR
  obtain ⟨r, q1, q2⟩ := core_look hS y1 y2
  exact ⟨r, q1, q2, ⟨hS, hO, hG⟩, hP, i1, i2⟩
theorem step_12 : STEP_12 REL0 := by
  intro wat fla fly lea clo con inn th mu ta ho od hs fs sz wat1 fla1 fly1 lea1 clo1 con1 inn1 th1 mu1 ta1 ho1 od1 hs1 fs1 sz1 wat2 fla2 fly2 lea2 clo2 con2 inn2 th2 mu2 ta2 ho2 od2 hs2 fs2 sz2 kp1 kp2 sg pz bk flk lek mus rk smz ms msz mp im mk m0 m1 m2 y1 y2 hR
  obtain ⟨⟨hS, hO, hG⟩, hP, i1, i2⟩ := hR
  obtain ⟨r, d0, d1, d2, q1, q2⟩ := core_just hS m0 m1 m2 y1 y2
  exact ⟨r, d0, d1, d2, q1, q2, ⟨hS, hO, hG⟩, hP, i1, i2⟩
theorem step_13 : STEP_13 REL0 := by
  intro wat fla fly lea clo con inn th mu ta ho od hs fs sz wat1 fla1 fly1 lea1 clo1 con1 inn1 th1 mu1 ta1 ho1 od1 hs1 fs1 sz1 wat2 fla2 fly2 lea2 clo2 con2 inn2 th2 mu2 ta2 ho2 od2 hs2 fs2 sz2 kp1 kp2 sg pz bk flk lek mus rk smz ms msz mp im mk y1 hR
  obtain ⟨⟨hS, hO, hG⟩, hP, i1, i2⟩ := hR
  obtain ⟨r, q1, q2⟩ := core_fill hS y1
  exact ⟨r, q1, q2, ⟨hS, hO, hG⟩, hP, i1, i2⟩
theorem step_14 : STEP_14 REL0 := by
  intro wat fla fly lea clo con inn th mu ta ho od hs fs sz wat1 fla1 fly1 lea1 clo1 con1 inn1 th1 mu1 ta1 ho1 od1 hs1 fs1 sz1 wat2 fla2 fly2 lea2 clo2 con2 inn2 th2 mu2 ta2 ho2 od2 hs2 fs2 sz2 kp1 kp2 sg pz bk flk lek mus rk smz ms msz mp im mk y1 y2 hR
  obtain ⟨⟨hS, hO, hG⟩, hP, i1, i2⟩ := hR
  obtain ⟨r, q1, q2⟩ := core_vote hS y1 y2
  exact ⟨r, q1, q2, ⟨hS, hO, hG⟩, hP, i1, i2⟩
theorem step_15 : STEP_15 REL0 := by
  intro wat fla fly lea clo con inn th mu ta ho od hs fs sz wat1 fla1 fly1 lea1 clo1 con1 inn1 th1 mu1 ta1 ho1 od1 hs1 fs1 sz1 wat2 fla2 fly2 lea2 clo2 con2 inn2 th2 mu2 ta2 ho2 od2 hs2 fs2 sz2 kp1 kp2 sg pz bk flk lek mus rk smz ms msz mp im mk y1 y2 hR
  obtain ⟨⟨hS, hO, hG⟩, hP, i1, i2⟩ := hR
  obtain ⟨r, e0, d0, q1, q2, n1⟩ := core_rank hO y1 y2
  exact ⟨r, e0, d0, q1, q2, ⟨hS, n1, hG⟩, hP, i1, i2⟩
theorem step_16 : STEP_16 REL0 := by
  intro wat fla fly lea clo con inn th mu ta ho od hs fs sz wat1 fla1 fly1 lea1 clo1 con1 inn1 th1 mu1 ta1 ho1 od1 hs1 fs1 sz1 wat2 fla2 fly2 lea2 clo2 con2 inn2 th2 mu2 ta2 ho2 od2 hs2 fs2 sz2 kp1 kp2 sg pz bk flk lek mus rk smz ms msz mp im mk x0 x1 m0 y1 hR
  obtain ⟨⟨hS, hO, hG⟩, hP, i1, i2⟩ := hR
  obtain ⟨r, e0, e1, d0, q1, q2⟩ := core_change hO x0 x1 m0 y1
  exact ⟨r, e0, e1, d0, q1, q2, ⟨hS, hO, hG⟩, hP, i1, i2⟩
theorem step_17 : STEP_17 REL0 := by
  intro wat fla fly lea clo con inn th mu ta ho od hs fs sz wat1 fla1 fly1 lea1 clo1 con1 inn1 th1 mu1 ta1 ho1 od1 hs1 fs1 sz1 wat2 fla2 fly2 lea2 clo2 con2 inn2 th2 mu2 ta2 ho2 od2 hs2 fs2 sz2 kp1 kp2 sg pz bk flk lek mus rk smz ms msz mp im mk y1 y2 hR
  obtain ⟨⟨hS, hO, hG⟩, hP, i1, i2⟩ := hR
  obtain ⟨r, e0, e1, e2, d0, d1, q1, q2, n1⟩ := core_seen y1 y2 hG
  exact ⟨r, e0, e1, e2, d0, d1, q1, q2, ⟨hS, hO, n1⟩, hP, i1, i2⟩
theorem step_18 : STEP_18 REL0 := by
  intro wat fla fly lea clo con inn th mu ta ho od hs fs sz wat1 fla1 fly1 lea1 clo1 con1 inn1 th1 mu1 ta1 ho1 od1 hs1 fs1 sz1 wat2 fla2 fly2 lea2 clo2 con2 inn2 th2 mu2 ta2 ho2 od2 hs2 fs2 sz2 kp1 kp2 sg pz bk flk lek mus rk smz ms msz mp im mk hR
  obtain ⟨⟨hS, hO, hG⟩, hP, i1, i2⟩ := hR
  obtain ⟨r, e0, d0, q1, q2, n1⟩ := core_forget hG
  exact ⟨r, e0, d0, q1, q2, ⟨hS, hO, n1⟩, hP, i1, i2⟩
theorem step_19 : STEP_19 REL0 := by
  intro wat fla fly lea clo con inn th mu ta ho od hs fs sz wat1 fla1 fly1 lea1 clo1 con1 inn1 th1 mu1 ta1 ho1 od1 hs1 fs1 sz1 wat2 fla2 fly2 lea2 clo2 con2 inn2 th2 mu2 ta2 ho2 od2 hs2 fs2 sz2 kp1 kp2 sg pz bk flk lek mus rk smz ms msz mp im mk x0 x1 y1 hR
  obtain ⟨⟨hS, hO, hG⟩, hP, i1, i2⟩ := hR
  obtain ⟨r, e0, e1, q1, q2⟩ := core_who hG x0 x1 y1
  exact ⟨r, e0, e1, q1, q2, ⟨hS, hO, hG⟩, hP, i1, i2⟩
theorem step_20 : STEP_20 REL0 := by
  intro wat fla fly lea clo con inn th mu ta ho od hs fs sz wat1 fla1 fly1 lea1 clo1 con1 inn1 th1 mu1 ta1 ho1 od1 hs1 fs1 sz1 wat2 fla2 fly2 lea2 clo2 con2 inn2 th2 mu2 ta2 ho2 od2 hs2 fs2 sz2 kp1 kp2 sg pz bk flk lek mus rk smz ms msz mp im mk x0 x1 x2 m0 y1 hR
  obtain ⟨⟨hS, hO, hG⟩, hP, i1, i2⟩ := hR
  obtain ⟨r, e0, e1, e2, d0, q1, q2⟩ := core_ask hG x0 x1 x2 m0 y1
  exact ⟨r, e0, e1, e2, d0, q1, q2, ⟨hS, hO, hG⟩, hP, i1, i2⟩
theorem step_21 : STEP_21 REL0 := by
  intro wat fla fly lea clo con inn th mu ta ho od hs fs sz wat1 fla1 fly1 lea1 clo1 con1 inn1 th1 mu1 ta1 ho1 od1 hs1 fs1 sz1 wat2 fla2 fly2 lea2 clo2 con2 inn2 th2 mu2 ta2 ho2 od2 hs2 fs2 sz2 kp1 kp2 sg pz bk flk lek mus rk smz ms msz mp im mk x0 x1 m0 m1 m2 m3 y1 hR
  obtain ⟨⟨hS, hO, hG⟩, hP, i1, i2⟩ := hR
  obtain ⟨r, e0, e1, d0, d1, d2, d3, q1, q2⟩ := core_thumb hS x0 x1 m0 m1 m2 m3 y1
  exact ⟨r, e0, e1, d0, d1, d2, d3, q1, q2, ⟨hS, hO, hG⟩, hP, i1, i2⟩
theorem step_22 : STEP_22 REL0 := by
  intro wat fla fly lea clo con inn th mu ta ho od hs fs sz wat1 fla1 fly1 lea1 clo1 con1 inn1 th1 mu1 ta1 ho1 od1 hs1 fs1 sz1 wat2 fla2 fly2 lea2 clo2 con2 inn2 th2 mu2 ta2 ho2 od2 hs2 fs2 sz2 kp1 kp2 sg pz bk flk lek mus rk smz ms msz mp im mk m0 y1 y2 y3 y4 y5 hR
  obtain ⟨⟨hS, hO, hG⟩, hP, i1, i2⟩ := hR
  obtain ⟨r, d0, q1, q2⟩ := core_count m0 y1 y2 y3 y4 y5
  exact ⟨r, d0, q1, q2, ⟨hS, hO, hG⟩, hP, i1, i2⟩
theorem step_23 : STEP_23 REL0 := by
  intro wat fla fly lea clo con inn th mu ta ho od hs fs sz wat1 fla1 fly1 lea1 clo1 con1 inn1 th1 mu1 ta1 ho1 od1 hs1 fs1 sz1 wat2 fla2 fly2 lea2 clo2 con2 inn2 th2 mu2 ta2 ho2 od2 hs2 fs2 sz2 kp1 kp2 sg pz bk flk lek mus rk smz ms msz mp im mk x0 x1 x2 x3 x4 x5 x6 x7 x8 x9 x10 m0 m1 m2 m3 y1 y2 y3 hR
  obtain ⟨⟨hS, hO, hG⟩, hP, i1, i2⟩ := hR
  obtain ⟨r, e0, e1, e2, e3, e4, e5, e6, e7, e8, e9, e10, d0, d1, d2, d3, q1, q2⟩ := core_year hS x0 x1 x2 x3 x4 x5 x6 x7 x8 x9 x10 m0 m1 m2 m3 y1 y2 y3
  exact ⟨r, e0, e1, e2, e3, e4, e5, e6, e7, e8, e9, e10, d0, d1, d2, d3, q1, q2, ⟨hS, hO, hG⟩, hP, i1, i2⟩
theorem step_24 : STEP_24 REL0 := by
  intro wat fla fly lea clo con inn th mu ta ho od hs fs sz wat1 fla1 fly1 lea1 clo1 con1 inn1 th1 mu1 ta1 ho1 od1 hs1 fs1 sz1 wat2 fla2 fly2 lea2 clo2 con2 inn2 th2 mu2 ta2 ho2 od2 hs2 fs2 sz2 kp1 kp2 sg pz bk flk lek mus rk smz ms msz mp im mk y1 hR
  obtain ⟨⟨hS, hO, hG⟩, hP, i1, i2⟩ := hR
  obtain ⟨r, e0, e1, e2, e3, e4, e5, e6, e7, e8, e9, e10, e11, e12, e13, e14, e15, e16, e17, e18, e19, e20, e21, e22, e23, e24, e25, e26, e27, e28, e29, e30, e31, d0, d1, q1, q2, n1, n2⟩ := core_image ⟨hS, hO, hG⟩ i1 i2 y1
  exact ⟨r, e0, e1, e2, e3, e4, e5, e6, e7, e8, e9, e10, e11, e12, e13, e14, e15, e16, e17, e18, e19, e20, e21, e22, e23, e24, e25, e26, e27, e28, e29, e30, e31, d0, d1, q1, q2, ⟨hS, hO, hG⟩, hP, n1, n2⟩
theorem step_25 : STEP_25 REL0 := by
  intro wat fla fly lea clo con inn th mu ta ho od hs fs sz wat1 fla1 fly1 lea1 clo1 con1 inn1 th1 mu1 ta1 ho1 od1 hs1 fs1 sz1 wat2 fla2 fly2 lea2 clo2 con2 inn2 th2 mu2 ta2 ho2 od2 hs2 fs2 sz2 kp1 kp2 sg pz bk flk lek mus rk smz ms msz mp im mk y1 hR
  obtain ⟨⟨hS, hO, hG⟩, hP, i1, i2⟩ := hR
  obtain ⟨r, e0, e1, e2, e3, e4, e5, e6, e7, e8, e9, e10, e11, e12, e13, e14, d0, d1, d2, d3, d4, d5, d6, q1, q2, n1⟩ := core_restore ⟨hS, hO, hG⟩ i1 i2 y1
  exact ⟨r, e0, e1, e2, e3, e4, e5, e6, e7, e8, e9, e10, e11, e12, e13, e14, d0, d1, d2, d3, d4, d5, d6, q1, q2, n1, hP, i1, i2⟩
theorem step_26 : STEP_26 REL0 := by
  intro wat fla fly lea clo con inn th mu ta ho od hs fs sz wat1 fla1 fly1 lea1 clo1 con1 inn1 th1 mu1 ta1 ho1 od1 hs1 fs1 sz1 wat2 fla2 fly2 lea2 clo2 con2 inn2 th2 mu2 ta2 ho2 od2 hs2 fs2 sz2 kp1 kp2 sg pz bk flk lek mus rk smz ms msz mp im mk m0 m1 m2 y1 hR
  obtain ⟨⟨hS, hO, hG⟩, hP, i1, i2⟩ := hR
  obtain ⟨r, d0, d1, d2, q1, q2⟩ := core_told hS hO hG hP m0 m1 m2 y1
  exact ⟨r, d0, d1, d2, q1, q2, ⟨hS, hO, hG⟩, hP, i1, i2⟩

section OKS
set_option maxHeartbeats 4000000 in
theorem ok_1 : Ok_1 INV := by
  intro sw σ a1 hI
  obtain ⟨htape, hfault, htime, hlaid, hother, hnums, harr, hhou, hthi, hval, hsaid, hlaw, hnow, hacts, hbox, hrep⟩ := id hI
  obtain ⟨r, σ1, σ2, e1, e2, ntape⟩ := core_1 a1 htape
  have hc := twO_or sw
  have F1 : ∀ a k, ¬ MOD_X11_end 0 a k → σ1.1 a k = σ.1 a k := fun a k hn => (fX11_end _ _ _ _ _ _ e1 a k hn).1
  have F2 : ∀ a k, ¬ MOD_X12_end 233 a k → σ2.1 a k = σ1.1 a k := fun a k hn => (fX12_end _ _ _ _ e2 a k hn).1
  exact ⟨r, σ1, σ2, e1, e2, ntape, ((hfault.fr (fun a k q => F1 a k (by unfold MOD_X11_end; unfold FPfault at q; omega))).fr (fun a k q => F2 a k (by unfold MOD_X12_end; unfold FPfault at q; omega))), ((htime.fr (fun a k q => F1 a k (by unfold MOD_X11_end; unfold FPtime at q; omega))).fr (fun a k q => F2 a k (by unfold MOD_X12_end; unfold FPtime at q; omega))), ((hlaid.fr (fun a k q => F1 a k (by unfold MOD_X11_end; unfold FPlaid at q; omega))).fr (fun a k q => F2 a k (by unfold MOD_X12_end; unfold FPlaid at q; omega))), ((hother.fr (fun a k q => F1 a k (by unfold MOD_X11_end; unfold FPother at q; omega))).fr (fun a k q => F2 a k (by unfold MOD_X12_end; unfold FPother at q; omega))), ((hnums.fr (fun a k q => F1 a k (by unfold MOD_X11_end; unfold FPnums at q; omega))).fr (fun a k q => F2 a k (by unfold MOD_X12_end; unfold FPnums at q; omega))), ((harr.fr (fun a k q => F1 a k (by unfold MOD_X11_end; unfold FParr FPnums at q; omega))).fr (fun a k q => F2 a k (by unfold MOD_X12_end; unfold FParr FPnums at q; omega))), ((hhou.fr (fun a k q => F1 a k (by unfold MOD_X11_end; unfold FPhou FPnums at q; omega))).fr (fun a k q => F2 a k (by unfold MOD_X12_end; unfold FPhou FPnums at q; omega))), ((hthi.fr (fun a k q => F1 a k (by unfold MOD_X11_end; unfold FPthi FPnums at q; omega))).fr (fun a k q => F2 a k (by unfold MOD_X12_end; unfold FPthi FPnums at q; omega))), ((hval.fr (fun a k q => F1 a k (by unfold MOD_X11_end; unfold FPval FPnums at q; omega))).fr (fun a k q => F2 a k (by unfold MOD_X12_end; unfold FPval FPnums at q; omega))), ((hsaid.fr (fun a k q => F1 a k (by unfold MOD_X11_end; unfold FPsaid at q; omega))).fr (fun a k q => F2 a k (by unfold MOD_X12_end; unfold FPsaid at q; omega))), ((hlaw.fr (fun a k q => F1 a k (by unfold MOD_X11_end; unfold FPlaw at q; omega))).fr (fun a k q => F2 a k (by unfold MOD_X12_end; unfold FPlaw at q; omega))), ((hnow.fr (c := twO sw) (fun a k q => F1 a k (by unfold MOD_X11_end; unfold FPnow FPnums at q; omega))).fr (c := twO sw) (fun a k q => F2 a k (by unfold MOD_X12_end; unfold FPnow FPnums at q; omega))), ((hacts.fr (c := twO sw) (fun a k q => F1 a k (by unfold MOD_X11_end; unfold FPacts FPnums at q; omega))).fr (c := twO sw) (fun a k q => F2 a k (by unfold MOD_X12_end; unfold FPacts FPnums at q; omega))), ((hbox.fr (c := twO sw) (fun a k q => F1 a k (by unfold MOD_X11_end; unfold FPbox FPnums at q; omega))).fr (c := twO sw) (fun a k q => F2 a k (by unfold MOD_X12_end; unfold FPbox FPnums at q; omega))), ((hrep.fr (c := twO sw) (fun a k q => F1 a k (by unfold MOD_X11_end; unfold FPrep FPnums at q; omega))).fr (c := twO sw) (fun a k q => F2 a k (by unfold MOD_X12_end; unfold FPrep FPnums at q; omega)))⟩

set_option maxHeartbeats 4000000 in
theorem ok_3 : Ok_3 INV := by
  intro sw σ a1 hI
  obtain ⟨htape, hfault, htime, hlaid, hother, hnums, harr, hhou, hthi, hval, hsaid, hlaw, hnow, hacts, hbox, hrep⟩ := id hI
  obtain ⟨r, e1, e2⟩ := core_3 a1 hfault
  exact ⟨r, e1, e2⟩

set_option maxHeartbeats 4000000 in
theorem ok_4 : Ok_4 INV := by
  intro sw σ a1 a2 hI
  obtain ⟨htape, hfault, htime, hlaid, hother, hnums, harr, hhou, hthi, hval, hsaid, hlaw, hnow, hacts, hbox, hrep⟩ := id hI
  obtain ⟨r, e1, e2⟩ := core_4 a1 a2 (view_of hother hnums harr hhou hthi hval hsaid hlaw) hnow
  exact ⟨r, e1, e2⟩

set_option maxHeartbeats 4000000 in
theorem ok_5 : Ok_5 INV := by
  intro sw σ a1 a2 a3 hI
  obtain ⟨htape, hfault, htime, hlaid, hother, hnums, harr, hhou, hthi, hval, hsaid, hlaw, hnow, hacts, hbox, hrep⟩ := id hI
  obtain ⟨r, e1, e2⟩ := core_5 a1 a2 a3 (view_of hother hnums harr hhou hthi hval hsaid hlaw)
  exact ⟨r, e1, e2⟩

set_option maxHeartbeats 4000000 in
theorem ok_6 : Ok_6 INV := by
  intro sw σ a1 a2 hI
  obtain ⟨htape, hfault, htime, hlaid, hother, hnums, harr, hhou, hthi, hval, hsaid, hlaw, hnow, hacts, hbox, hrep⟩ := id hI
  obtain ⟨r, σ2, e1, e2⟩ := core_6 a1 a2 (view_of hother hnums harr hhou hthi hval hsaid hlaw) hnow
  have hc := twO_or sw
  have F2 : ∀ a k, ¬ MOD_X12_has 233 a k → σ2.1 a k = σ.1 a k := fun a k hn => (fX12_has _ _ _ _ _ e2 a k hn).1
  exact ⟨r, σ2, e1, e2, (htape.fr (fun a k q => F2 a k (by unfold MOD_X12_has; unfold FPtape at q; omega))), (hfault.fr (fun a k q => F2 a k (by unfold MOD_X12_has; unfold FPfault at q; omega))), (htime.fr (fun a k q => F2 a k (by unfold MOD_X12_has; unfold FPtime at q; omega))), (hlaid.fr (fun a k q => F2 a k (by unfold MOD_X12_has; unfold FPlaid at q; omega))), (hother.fr (fun a k q => F2 a k (by unfold MOD_X12_has; unfold FPother at q; omega))), (hnums.fr (fun a k q => F2 a k (by unfold MOD_X12_has; unfold FPnums at q; omega))), (harr.fr (fun a k q => F2 a k (by unfold MOD_X12_has; unfold FParr FPnums at q; omega))), (hhou.fr (fun a k q => F2 a k (by unfold MOD_X12_has; unfold FPhou FPnums at q; omega))), (hthi.fr (fun a k q => F2 a k (by unfold MOD_X12_has; unfold FPthi FPnums at q; omega))), (hval.fr (fun a k q => F2 a k (by unfold MOD_X12_has; unfold FPval FPnums at q; omega))), (hsaid.fr (fun a k q => F2 a k (by unfold MOD_X12_has; unfold FPsaid at q; omega))), (hlaw.fr (fun a k q => F2 a k (by unfold MOD_X12_has; unfold FPlaw at q; omega))), (hnow.fr (c := twO sw) (fun a k q => F2 a k (by unfold MOD_X12_has; unfold FPnow FPnums at q; omega))), (hacts.fr (c := twO sw) (fun a k q => F2 a k (by unfold MOD_X12_has; unfold FPacts FPnums at q; omega))), (hbox.fr (c := twO sw) (fun a k q => F2 a k (by unfold MOD_X12_has; unfold FPbox FPnums at q; omega))), (hrep.fr (c := twO sw) (fun a k q => F2 a k (by unfold MOD_X12_has; unfold FPrep FPnums at q; omega)))⟩

set_option maxHeartbeats 4000000 in
theorem ok_7 : Ok_7 INV := by
  intro sw σ a1 a2 hI
  obtain ⟨htape, hfault, htime, hlaid, hother, hnums, harr, hhou, hthi, hval, hsaid, hlaw, hnow, hacts, hbox, hrep⟩ := id hI
  obtain ⟨r, σ2, e1, e2⟩ := core_7 a1 a2 (view_of hother hnums harr hhou hthi hval hsaid hlaw) hnow
  have hc := twO_or sw
  have F2 : ∀ a k, ¬ MOD_X12_sum 233 a k → σ2.1 a k = σ.1 a k := fun a k hn => (fX12_sum _ _ _ _ _ e2 a k hn).1
  exact ⟨r, σ2, e1, e2, (htape.fr (fun a k q => F2 a k (by unfold MOD_X12_sum; unfold FPtape at q; omega))), (hfault.fr (fun a k q => F2 a k (by unfold MOD_X12_sum; unfold FPfault at q; omega))), (htime.fr (fun a k q => F2 a k (by unfold MOD_X12_sum; unfold FPtime at q; omega))), (hlaid.fr (fun a k q => F2 a k (by unfold MOD_X12_sum; unfold FPlaid at q; omega))), (hother.fr (fun a k q => F2 a k (by unfold MOD_X12_sum; unfold FPother at q; omega))), (hnums.fr (fun a k q => F2 a k (by unfold MOD_X12_sum; unfold FPnums at q; omega))), (harr.fr (fun a k q => F2 a k (by unfold MOD_X12_sum; unfold FParr FPnums at q; omega))), (hhou.fr (fun a k q => F2 a k (by unfold MOD_X12_sum; unfold FPhou FPnums at q; omega))), (hthi.fr (fun a k q => F2 a k (by unfold MOD_X12_sum; unfold FPthi FPnums at q; omega))), (hval.fr (fun a k q => F2 a k (by unfold MOD_X12_sum; unfold FPval FPnums at q; omega))), (hsaid.fr (fun a k q => F2 a k (by unfold MOD_X12_sum; unfold FPsaid at q; omega))), (hlaw.fr (fun a k q => F2 a k (by unfold MOD_X12_sum; unfold FPlaw at q; omega))), (hnow.fr (c := twO sw) (fun a k q => F2 a k (by unfold MOD_X12_sum; unfold FPnow FPnums at q; omega))), (hacts.fr (c := twO sw) (fun a k q => F2 a k (by unfold MOD_X12_sum; unfold FPacts FPnums at q; omega))), (hbox.fr (c := twO sw) (fun a k q => F2 a k (by unfold MOD_X12_sum; unfold FPbox FPnums at q; omega))), (hrep.fr (c := twO sw) (fun a k q => F2 a k (by unfold MOD_X12_sum; unfold FPrep FPnums at q; omega)))⟩

set_option maxHeartbeats 4000000 in
theorem ok_8 : Ok_8 INV := by
  intro sw σ a1 a2 hI
  obtain ⟨htape, hfault, htime, hlaid, hother, hnums, harr, hhou, hthi, hval, hsaid, hlaw, hnow, hacts, hbox, hrep⟩ := id hI
  obtain ⟨r, σ2, e1, e2⟩ := core_8 a1 a2 (view_of hother hnums harr hhou hthi hval hsaid hlaw) hnow
  have hc := twO_or sw
  have F2 : ∀ a k, ¬ MOD_X12_thief 233 a k → σ2.1 a k = σ.1 a k := fun a k hn => (fX12_thief _ _ _ _ _ e2 a k hn).1
  exact ⟨r, σ2, e1, e2, (htape.fr (fun a k q => F2 a k (by unfold MOD_X12_thief; unfold FPtape at q; omega))), (hfault.fr (fun a k q => F2 a k (by unfold MOD_X12_thief; unfold FPfault at q; omega))), (htime.fr (fun a k q => F2 a k (by unfold MOD_X12_thief; unfold FPtime at q; omega))), (hlaid.fr (fun a k q => F2 a k (by unfold MOD_X12_thief; unfold FPlaid at q; omega))), (hother.fr (fun a k q => F2 a k (by unfold MOD_X12_thief; unfold FPother at q; omega))), (hnums.fr (fun a k q => F2 a k (by unfold MOD_X12_thief; unfold FPnums at q; omega))), (harr.fr (fun a k q => F2 a k (by unfold MOD_X12_thief; unfold FParr FPnums at q; omega))), (hhou.fr (fun a k q => F2 a k (by unfold MOD_X12_thief; unfold FPhou FPnums at q; omega))), (hthi.fr (fun a k q => F2 a k (by unfold MOD_X12_thief; unfold FPthi FPnums at q; omega))), (hval.fr (fun a k q => F2 a k (by unfold MOD_X12_thief; unfold FPval FPnums at q; omega))), (hsaid.fr (fun a k q => F2 a k (by unfold MOD_X12_thief; unfold FPsaid at q; omega))), (hlaw.fr (fun a k q => F2 a k (by unfold MOD_X12_thief; unfold FPlaw at q; omega))), (hnow.fr (c := twO sw) (fun a k q => F2 a k (by unfold MOD_X12_thief; unfold FPnow FPnums at q; omega))), (hacts.fr (c := twO sw) (fun a k q => F2 a k (by unfold MOD_X12_thief; unfold FPacts FPnums at q; omega))), (hbox.fr (c := twO sw) (fun a k q => F2 a k (by unfold MOD_X12_thief; unfold FPbox FPnums at q; omega))), (hrep.fr (c := twO sw) (fun a k q => F2 a k (by unfold MOD_X12_thief; unfold FPrep FPnums at q; omega)))⟩

set_option maxHeartbeats 4000000 in
theorem ok_9 : Ok_9 INV := by
  intro sw σ a1 a2 a3 hI
  obtain ⟨htape, hfault, htime, hlaid, hother, hnums, harr, hhou, hthi, hval, hsaid, hlaw, hnow, hacts, hbox, hrep⟩ := id hI
  obtain ⟨r, e1, e2⟩ := core_9 a1 a2 a3 (view_of hother hnums harr hhou hthi hval hsaid hlaw)
  exact ⟨r, e1, e2⟩

set_option maxHeartbeats 4000000 in
theorem ok_26 : Ok_26 INV := by
  intro sw σ a1 hI
  obtain ⟨htape, hfault, htime, hlaid, hother, hnums, harr, hhou, hthi, hval, hsaid, hlaw, hnow, hacts, hbox, hrep⟩ := id hI
  obtain ⟨r, e1, e2⟩ := core_26 a1 hlaid
  exact ⟨r, e1, e2⟩

set_option maxHeartbeats 4000000 in
theorem ok_27 : Ok_27 INV := by
  intro sw σ a1 a2 a3 a4 a5 hI
  obtain ⟨htape, hfault, htime, hlaid, hother, hnums, harr, hhou, hthi, hval, hsaid, hlaw, hnow, hacts, hbox, hrep⟩ := id hI
  obtain ⟨r, σ1, σ2, e1, e2, nrep⟩ := core_27 a1 a2 a3 a4 a5 (view_of hother hnums harr hhou hthi hval hsaid hlaw) (twO_or sw) htime hrep
  have hc := twO_or sw
  have F1 : ∀ a k, ¬ MOD_X11_report 0 a k → σ1.1 a k = σ.1 a k := fun a k hn => (fX11_report _ _ _ _ _ _ _ _ _ _ e1 a k hn).1
  have F2 : ∀ a k, ¬ MOD_X12_report 233 a k → σ2.1 a k = σ1.1 a k := fun a k hn => (fX12_report _ _ _ _ _ _ _ _ e2 a k hn).1
  exact ⟨r, σ1, σ2, e1, e2, ((htape.fr (fun a k q => F1 a k (by unfold MOD_X11_report; unfold FPtape at q; omega))).fr (fun a k q => F2 a k (by unfold MOD_X12_report; unfold FPtape at q; omega))), ((hfault.fr (fun a k q => F1 a k (by unfold MOD_X11_report; unfold FPfault at q; omega))).fr (fun a k q => F2 a k (by unfold MOD_X12_report; unfold FPfault at q; omega))), ((htime.fr (fun a k q => F1 a k (by unfold MOD_X11_report; unfold FPtime at q; omega))).fr (fun a k q => F2 a k (by unfold MOD_X12_report; unfold FPtime at q; omega))), ((hlaid.fr (fun a k q => F1 a k (by unfold MOD_X11_report; unfold FPlaid at q; omega))).fr (fun a k q => F2 a k (by unfold MOD_X12_report; unfold FPlaid at q; omega))), ((hother.fr (fun a k q => F1 a k (by unfold MOD_X11_report; unfold FPother at q; omega))).fr (fun a k q => F2 a k (by unfold MOD_X12_report; unfold FPother at q; omega))), ((hnums.fr (fun a k q => F1 a k (by unfold MOD_X11_report; unfold FPnums at q; omega))).fr (fun a k q => F2 a k (by unfold MOD_X12_report; unfold FPnums at q; omega))), ((harr.fr (fun a k q => F1 a k (by unfold MOD_X11_report; unfold FParr FPnums at q; omega))).fr (fun a k q => F2 a k (by unfold MOD_X12_report; unfold FParr FPnums at q; omega))), ((hhou.fr (fun a k q => F1 a k (by unfold MOD_X11_report; unfold FPhou FPnums at q; omega))).fr (fun a k q => F2 a k (by unfold MOD_X12_report; unfold FPhou FPnums at q; omega))), ((hthi.fr (fun a k q => F1 a k (by unfold MOD_X11_report; unfold FPthi FPnums at q; omega))).fr (fun a k q => F2 a k (by unfold MOD_X12_report; unfold FPthi FPnums at q; omega))), ((hval.fr (fun a k q => F1 a k (by unfold MOD_X11_report; unfold FPval FPnums at q; omega))).fr (fun a k q => F2 a k (by unfold MOD_X12_report; unfold FPval FPnums at q; omega))), ((hsaid.fr (fun a k q => F1 a k (by unfold MOD_X11_report; unfold FPsaid at q; omega))).fr (fun a k q => F2 a k (by unfold MOD_X12_report; unfold FPsaid at q; omega))), ((hlaw.fr (fun a k q => F1 a k (by unfold MOD_X11_report; unfold FPlaw at q; omega))).fr (fun a k q => F2 a k (by unfold MOD_X12_report; unfold FPlaw at q; omega))), ((hnow.fr (c := twO sw) (fun a k q => F1 a k (by unfold MOD_X11_report; unfold FPnow FPnums at q; omega))).fr (c := twO sw) (fun a k q => F2 a k (by unfold MOD_X12_report; unfold FPnow FPnums at q; omega))), ((hacts.fr (c := twO sw) (fun a k q => F1 a k (by unfold MOD_X11_report; unfold FPacts FPnums at q; omega))).fr (c := twO sw) (fun a k q => F2 a k (by unfold MOD_X12_report; unfold FPacts FPnums at q; omega))), ((hbox.fr (c := twO sw) (fun a k q => F1 a k (by unfold MOD_X11_report; unfold FPbox FPnums at q; omega))).fr (c := twO sw) (fun a k q => F2 a k (by unfold MOD_X12_report; unfold FPbox FPnums at q; omega))), nrep⟩

set_option maxHeartbeats 4000000 in
theorem ok_28 : Ok_28 INV := by
  intro sw σ a1 hI
  obtain ⟨htape, hfault, htime, hlaid, hother, hnums, harr, hhou, hthi, hval, hsaid, hlaw, hnow, hacts, hbox, hrep⟩ := id hI
  obtain ⟨r, σ1, σ2, e1, e2, nrep⟩ := core_28 a1 htime hrep
  have hc := twO_or sw
  have F1 : ∀ a k, ¬ MOD_X11_untell 0 a k → σ1.1 a k = σ.1 a k := fun a k hn => (fX11_untell _ _ _ _ _ _ e1 a k hn).1
  have F2 : ∀ a k, ¬ MOD_X12_untell 233 a k → σ2.1 a k = σ1.1 a k := fun a k hn => (fX12_untell _ _ _ _ e2 a k hn).1
  exact ⟨r, σ1, σ2, e1, e2, ((htape.fr (fun a k q => F1 a k (by unfold MOD_X11_untell; unfold FPtape at q; omega))).fr (fun a k q => F2 a k (by unfold MOD_X12_untell; unfold FPtape at q; omega))), ((hfault.fr (fun a k q => F1 a k (by unfold MOD_X11_untell; unfold FPfault at q; omega))).fr (fun a k q => F2 a k (by unfold MOD_X12_untell; unfold FPfault at q; omega))), ((htime.fr (fun a k q => F1 a k (by unfold MOD_X11_untell; unfold FPtime at q; omega))).fr (fun a k q => F2 a k (by unfold MOD_X12_untell; unfold FPtime at q; omega))), ((hlaid.fr (fun a k q => F1 a k (by unfold MOD_X11_untell; unfold FPlaid at q; omega))).fr (fun a k q => F2 a k (by unfold MOD_X12_untell; unfold FPlaid at q; omega))), ((hother.fr (fun a k q => F1 a k (by unfold MOD_X11_untell; unfold FPother at q; omega))).fr (fun a k q => F2 a k (by unfold MOD_X12_untell; unfold FPother at q; omega))), ((hnums.fr (fun a k q => F1 a k (by unfold MOD_X11_untell; unfold FPnums at q; omega))).fr (fun a k q => F2 a k (by unfold MOD_X12_untell; unfold FPnums at q; omega))), ((harr.fr (fun a k q => F1 a k (by unfold MOD_X11_untell; unfold FParr FPnums at q; omega))).fr (fun a k q => F2 a k (by unfold MOD_X12_untell; unfold FParr FPnums at q; omega))), ((hhou.fr (fun a k q => F1 a k (by unfold MOD_X11_untell; unfold FPhou FPnums at q; omega))).fr (fun a k q => F2 a k (by unfold MOD_X12_untell; unfold FPhou FPnums at q; omega))), ((hthi.fr (fun a k q => F1 a k (by unfold MOD_X11_untell; unfold FPthi FPnums at q; omega))).fr (fun a k q => F2 a k (by unfold MOD_X12_untell; unfold FPthi FPnums at q; omega))), ((hval.fr (fun a k q => F1 a k (by unfold MOD_X11_untell; unfold FPval FPnums at q; omega))).fr (fun a k q => F2 a k (by unfold MOD_X12_untell; unfold FPval FPnums at q; omega))), ((hsaid.fr (fun a k q => F1 a k (by unfold MOD_X11_untell; unfold FPsaid at q; omega))).fr (fun a k q => F2 a k (by unfold MOD_X12_untell; unfold FPsaid at q; omega))), ((hlaw.fr (fun a k q => F1 a k (by unfold MOD_X11_untell; unfold FPlaw at q; omega))).fr (fun a k q => F2 a k (by unfold MOD_X12_untell; unfold FPlaw at q; omega))), ((hnow.fr (c := twO sw) (fun a k q => F1 a k (by unfold MOD_X11_untell; unfold FPnow FPnums at q; omega))).fr (c := twO sw) (fun a k q => F2 a k (by unfold MOD_X12_untell; unfold FPnow FPnums at q; omega))), ((hacts.fr (c := twO sw) (fun a k q => F1 a k (by unfold MOD_X11_untell; unfold FPacts FPnums at q; omega))).fr (c := twO sw) (fun a k q => F2 a k (by unfold MOD_X12_untell; unfold FPacts FPnums at q; omega))), ((hbox.fr (c := twO sw) (fun a k q => F1 a k (by unfold MOD_X11_untell; unfold FPbox FPnums at q; omega))).fr (c := twO sw) (fun a k q => F2 a k (by unfold MOD_X12_untell; unfold FPbox FPnums at q; omega))), nrep⟩

set_option maxHeartbeats 4000000 in
theorem ok_29 : Ok_29 INV := by
  intro sw σ a1 hI
  obtain ⟨htape, hfault, htime, hlaid, hother, hnums, harr, hhou, hthi, hval, hsaid, hlaw, hnow, hacts, hbox, hrep⟩ := id hI
  obtain ⟨r, σ1, σ2, e1, e2, ntime⟩ := core_29 a1 htime
  have hc := twO_or sw
  have F1 : ∀ a k, ¬ MOD_X11_later 0 a k → σ1.1 a k = σ.1 a k := fun a k hn => (fX11_later _ _ _ _ _ _ e1 a k hn).1
  have F2 : ∀ a k, ¬ MOD_X12_later 233 a k → σ2.1 a k = σ1.1 a k := fun a k hn => (fX12_later _ _ _ _ e2 a k hn).1
  exact ⟨r, σ1, σ2, e1, e2, ((htape.fr (fun a k q => F1 a k (by unfold MOD_X11_later; unfold FPtape at q; omega))).fr (fun a k q => F2 a k (by unfold MOD_X12_later; unfold FPtape at q; omega))), ((hfault.fr (fun a k q => F1 a k (by unfold MOD_X11_later; unfold FPfault at q; omega))).fr (fun a k q => F2 a k (by unfold MOD_X12_later; unfold FPfault at q; omega))), ntime, ((hlaid.fr (fun a k q => F1 a k (by unfold MOD_X11_later; unfold FPlaid at q; omega))).fr (fun a k q => F2 a k (by unfold MOD_X12_later; unfold FPlaid at q; omega))), ((hother.fr (fun a k q => F1 a k (by unfold MOD_X11_later; unfold FPother at q; omega))).fr (fun a k q => F2 a k (by unfold MOD_X12_later; unfold FPother at q; omega))), ((hnums.fr (fun a k q => F1 a k (by unfold MOD_X11_later; unfold FPnums at q; omega))).fr (fun a k q => F2 a k (by unfold MOD_X12_later; unfold FPnums at q; omega))), ((harr.fr (fun a k q => F1 a k (by unfold MOD_X11_later; unfold FParr FPnums at q; omega))).fr (fun a k q => F2 a k (by unfold MOD_X12_later; unfold FParr FPnums at q; omega))), ((hhou.fr (fun a k q => F1 a k (by unfold MOD_X11_later; unfold FPhou FPnums at q; omega))).fr (fun a k q => F2 a k (by unfold MOD_X12_later; unfold FPhou FPnums at q; omega))), ((hthi.fr (fun a k q => F1 a k (by unfold MOD_X11_later; unfold FPthi FPnums at q; omega))).fr (fun a k q => F2 a k (by unfold MOD_X12_later; unfold FPthi FPnums at q; omega))), ((hval.fr (fun a k q => F1 a k (by unfold MOD_X11_later; unfold FPval FPnums at q; omega))).fr (fun a k q => F2 a k (by unfold MOD_X12_later; unfold FPval FPnums at q; omega))), ((hsaid.fr (fun a k q => F1 a k (by unfold MOD_X11_later; unfold FPsaid at q; omega))).fr (fun a k q => F2 a k (by unfold MOD_X12_later; unfold FPsaid at q; omega))), ((hlaw.fr (fun a k q => F1 a k (by unfold MOD_X11_later; unfold FPlaw at q; omega))).fr (fun a k q => F2 a k (by unfold MOD_X12_later; unfold FPlaw at q; omega))), ((hnow.fr (c := twO sw) (fun a k q => F1 a k (by unfold MOD_X11_later; unfold FPnow FPnums at q; omega))).fr (c := twO sw) (fun a k q => F2 a k (by unfold MOD_X12_later; unfold FPnow FPnums at q; omega))), ((hacts.fr (c := twO sw) (fun a k q => F1 a k (by unfold MOD_X11_later; unfold FPacts FPnums at q; omega))).fr (c := twO sw) (fun a k q => F2 a k (by unfold MOD_X12_later; unfold FPacts FPnums at q; omega))), ((hbox.fr (c := twO sw) (fun a k q => F1 a k (by unfold MOD_X11_later; unfold FPbox FPnums at q; omega))).fr (c := twO sw) (fun a k q => F2 a k (by unfold MOD_X12_later; unfold FPbox FPnums at q; omega))), ((hrep.fr (c := twO sw) (fun a k q => F1 a k (by unfold MOD_X11_later; unfold FPrep FPnums at q; omega))).fr (c := twO sw) (fun a k q => F2 a k (by unfold MOD_X12_later; unfold FPrep FPnums at q; omega)))⟩

set_option maxHeartbeats 4000000 in
theorem ok_34 : Ok_34 INV := by
  intro sw σ a1 hI
  obtain ⟨htape, hfault, htime, hlaid, hother, hnums, harr, hhou, hthi, hval, hsaid, hlaw, hnow, hacts, hbox, hrep⟩ := id hI
  obtain ⟨r, e1, e2⟩ := core_34 a1 htape htime hlaid hnums hlaw hnow hacts hrep
  exact ⟨r, e1, e2⟩

end OKS

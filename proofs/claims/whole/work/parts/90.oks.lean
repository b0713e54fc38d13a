section OKS
set_option maxHeartbeats 4000000 in
theorem ok_1 : Ok_1 INV := by
  intro sw σ a1 hI
  obtain ⟨htape, hfault, htime, hlaid, hother, hnums, harr, hhou, hthi, hval, hsaid, hlaw, hnow, hacts, hbox, hrep⟩ := id hI
  obtain ⟨r, σ1, σ2, e1, e2, ntape⟩ := core_1 a1 htape
  have hc := twO_or sw
  have F1 : ∀ a k, ¬ MOD_X11_end 0 a k → σ1.1 a k = σ.1 a k := fun a k hn => (fX11_end _ _ _ _ _ _ e1 a k hn).1
  have F2 : ∀ a k, ¬ MOD_X12_end 233 a k → σ2.1 a k = σ1.1 a k := fun a k hn => (fX12_end _ _ _ _ e2 a k hn).1
  exact ⟨r, σ1, σ2, e1, e2, ntape, ((hfault.fr (fun a k q => F1 a k (by unfold MOD_X11_end; unfold FPfault at q; omega))).fr (fun a k q => F2 a k (by unfold MOD_X12_end; unfold FPfault at q; omega))), ((htime.fr (fun a k q => F1 a k (by unfold MOD_X11_end; unfold FPtime at q; omega))).fr (fun a k q => F2 a k (by unfold MOD_X12_end; unfold FPtime at q; omega))), ((hlaid.fr (fun a k q => F1 a k (by unfold MOD_X11_end; unfold FPlaid at q; omega))).fr (fun a k q => F2 a k (by unfold MOD_X12_end; unfold FPlaid at q; omega))), ((hother.fr (fun a k q => F1 a k (by unfold MOD_X11_end; unfold FPother at q; omega))).fr (fun a k q => F2 a k (by unfold MOD_X12_end; unfold FPother at q; omega))), ((hnums.fr (fun a k q => F1 a k (by unfold MOD_X11_end; unfold FPnums at q; omega))).fr (fun a k q => F2 a k (by unfold MOD_X12_end; unfold FPnums at q; omega))), ((harr.fr (fun a k q => F1 a k (by unfold MOD_X11_end; unfold FParr FPnums at q; omega))).fr (fun a k q => F2 a k (by unfold MOD_X12_end; unfold FParr FPnums at q; omega))), ((hhou.fr (fun a k q => F1 a k (by unfold MOD_X11_end; unfold FPhou FPnums at q; omega))).fr (fun a k q => F2 a k (by unfold MOD_X12_end; unfold FPhou FPnums at q; omega))), ((hthi.fr (fun a k q => F1 a k (by unfold MOD_X11_end; unfold FPthi FPnums at q; omega))).fr (fun a k q => F2 a k (by unfold MOD_X12_end; unfold FPthi FPnums at q; omega))), ((hval.fr (fun a k q => F1 a k (by unfold MOD_X11_end; unfold FPval FPnums at q; omega))).fr (fun a k q => F2 a k (by unfold MOD_X12_end; unfold FPval FPnums at q; omega))), ((hsaid.fr (fun a k q => F1 a k (by unfold MOD_X11_end; unfold FPsaid at q; omega))).fr (fun a k q => F2 a k (by unfold MOD_X12_end; unfold FPsaid at q; omega))), ((hlaw.fr (fun a k q => F1 a k (by unfold MOD_X11_end; unfold FPlaw at q; omega))).fr (fun a k q => F2 a k (by unfold MOD_X12_end; unfold FPlaw at q; omega))), ((hnow.fr (c := twO sw) (fun a k q => F1 a k (by unfold MOD_X11_end; unfold FPnow FPnums at q; omega))).fr (c := twO sw) (fun a k q => F2 a k (by unfold MOD_X12_end; unfold FPnow FPnums at q; omega))), ((hacts.fr (c := twO sw) (fun a k q => F1 a k (by unfold MOD_X11_end; unfold FPacts FPnums at q; omega))).fr (c := twO sw) (fun a k q => F2 a k (by unfold MOD_X12_end; unfold FPacts FPnums at q; omega))), ((hbox.fr (c := twO sw) (fun a k q => F1 a k (by unfold MOD_X11_end; unfold FPbox FPnums at q; omega))).fr (c := twO sw) (fun a k q => F2 a k (by unfold MOD_X12_end; unfold FPbox FPnums at q; omega))), ((hrep.fr (c := twO sw) (fun a k q => F1 a k (by unfold MOD_X11_end; unfold FPrep FPnums at q; omega))).fr (c := twO sw) (fun a k q => F2 a k (by unfold MOD_X12_end; unfold FPrep FPnums at q; omega)))⟩

set_option maxHeartbeats 4000000 in
theorem ok_3 : Ok_3 INV := by
  intro sw σ a1 hI
  obtain ⟨htape, hfault, htime, hlaid, hother, hnums, harr, hhou, hthi, hval, hsaid, hlaw, hnow, hacts, hbox, hrep⟩ := id hI
  obtain ⟨r, e1, e2⟩ := core_3 a1 hfault
  exact ⟨r, e1, e2⟩

set_option maxHeartbeats 4000000 in
theorem ok_26 : Ok_26 INV := by
  intro sw σ a1 hI
  obtain ⟨htape, hfault, htime, hlaid, hother, hnums, harr, hhou, hthi, hval, hsaid, hlaw, hnow, hacts, hbox, hrep⟩ := id hI
  obtain ⟨r, e1, e2⟩ := core_26 a1 hlaid
  exact ⟨r, e1, e2⟩

set_option maxHeartbeats 4000000 in
theorem ok_29 : Ok_29 INV := by
  intro sw σ a1 hI
  obtain ⟨htape, hfault, htime, hlaid, hother, hnums, harr, hhou, hthi, hval, hsaid, hlaw, hnow, hacts, hbox, hrep⟩ := id hI
  obtain ⟨r, σ1, σ2, e1, e2, ntime⟩ := core_29 a1 htime
  have hc := twO_or sw
  have F1 : ∀ a k, ¬ MOD_X11_later 0 a k → σ1.1 a k = σ.1 a k := fun a k hn => (fX11_later _ _ _ _ _ _ e1 a k hn).1
  have F2 : ∀ a k, ¬ MOD_X12_later 233 a k → σ2.1 a k = σ1.1 a k := fun a k hn => (fX12_later _ _ _ _ e2 a k hn).1
  exact ⟨r, σ1, σ2, e1, e2, ((htape.fr (fun a k q => F1 a k (by unfold MOD_X11_later; unfold FPtape at q; omega))).fr (fun a k q => F2 a k (by unfold MOD_X12_later; unfold FPtape at q; omega))), ((hfault.fr (fun a k q => F1 a k (by unfold MOD_X11_later; unfold FPfault at q; omega))).fr (fun a k q => F2 a k (by unfold MOD_X12_later; unfold FPfault at q; omega))), ntime, ((hlaid.fr (fun a k q => F1 a k (by unfold MOD_X11_later; unfold FPlaid at q; omega))).fr (fun a k q => F2 a k (by unfold MOD_X12_later; unfold FPlaid at q; omega))), ((hother.fr (fun a k q => F1 a k (by unfold MOD_X11_later; unfold FPother at q; omega))).fr (fun a k q => F2 a k (by unfold MOD_X12_later; unfold FPother at q; omega))), ((hnums.fr (fun a k q => F1 a k (by unfold MOD_X11_later; unfold FPnums at q; omega))).fr (fun a k q => F2 a k (by unfold MOD_X12_later; unfold FPnums at q; omega))), ((harr.fr (fun a k q => F1 a k (by unfold MOD_X11_later; unfold FParr FPnums at q; omega))).fr (fun a k q => F2 a k (by unfold MOD_X12_later; unfold FParr FPnums at q; omega))), ((hhou.fr (fun a k q => F1 a k (by unfold MOD_X11_later; unfold FPhou FPnums at q; omega))).fr (fun a k q => F2 a k (by unfold MOD_X12_later; unfold FPhou FPnums at q; omega))), ((hthi.fr (fun a k q => F1 a k (by unfold MOD_X11_later; unfold FPthi FPnums at q; omega))).fr (fun a k q => F2 a k (by unfold MOD_X12_later; unfold FPthi FPnums at q; omega))), ((hval.fr (fun a k q => F1 a k (by unfold MOD_X11_later; unfold FPval FPnums at q; omega))).fr (fun a k q => F2 a k (by unfold MOD_X12_later; unfold FPval FPnums at q; omega))), ((hsaid.fr (fun a k q => F1 a k (by unfold MOD_X11_later; unfold FPsaid at q; omega))).fr (fun a k q => F2 a k (by unfold MOD_X12_later; unfold FPsaid at q; omega))), ((hlaw.fr (fun a k q => F1 a k (by unfold MOD_X11_later; unfold FPlaw at q; omega))).fr (fun a k q => F2 a k (by unfold MOD_X12_later; unfold FPlaw at q; omega))), ((hnow.fr (c := twO sw) (fun a k q => F1 a k (by unfold MOD_X11_later; unfold FPnow FPnums at q; omega))).fr (c := twO sw) (fun a k q => F2 a k (by unfold MOD_X12_later; unfold FPnow FPnums at q; omega))), ((hacts.fr (c := twO sw) (fun a k q => F1 a k (by unfold MOD_X11_later; unfold FPacts FPnums at q; omega))).fr (c := twO sw) (fun a k q => F2 a k (by unfold MOD_X12_later; unfold FPacts FPnums at q; omega))), ((hbox.fr (c := twO sw) (fun a k q => F1 a k (by unfold MOD_X11_later; unfold FPbox FPnums at q; omega))).fr (c := twO sw) (fun a k q => F2 a k (by unfold MOD_X12_later; unfold FPbox FPnums at q; omega))), ((hrep.fr (c := twO sw) (fun a k q => F1 a k (by unfold MOD_X11_later; unfold FPrep FPnums at q; omega))).fr (c := twO sw) (fun a k q => F2 a k (by unfold MOD_X12_later; unfold FPrep FPnums at q; omega)))⟩

end OKS

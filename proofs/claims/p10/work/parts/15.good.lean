def cm_F2 : List cm_M → List cm_N → Prop
  | [], [] => True
  | a :: as, b :: bs => (∃ p, cm_mok cm_Kk a b p = true) ∧ cm_F2 as bs
  | _, _ => False
theorem cm_F2_app : ∀ {a c : List cm_M} {b d : List cm_N}, cm_F2 a b → cm_F2 c d → cm_F2 (a ++ c) (b ++ d)
  | [], _, [], _, _, h => h
  | _ :: _, _, _ :: _, _, h1, h2 => ⟨h1.1, cm_F2_app h1.2 h2⟩
theorem cm_F2_at : ∀ {a : List cm_M} {b : List cm_N}, cm_F2 a b → ∀ (i : Nat) (x : cm_M), a[i]? = some x → ∃ y, b[i]? = some y ∧ ∃ p, cm_mok cm_Kk x y p = true
  | [], _, _, i, x, h => by simp at h
  | x0 :: a, y0 :: b, h0, 0, x, h => by
    simp at h
    subst h
    exact ⟨y0, rfl, h0.1⟩
  | x0 :: a, y0 :: b, h0, i + 1, x, h => by
    simpa using cm_F2_at h0.2 i x (by simpa using h)
theorem cm_f0 : cm_F2 cm_ms0 cm_ns0 := ⟨⟨_, cm_k0⟩, ⟨_, cm_k1⟩, ⟨_, cm_k2⟩, ⟨_, cm_k3⟩, ⟨_, cm_k4⟩, ⟨_, cm_k5⟩, ⟨_, cm_k6⟩, ⟨_, cm_k7⟩, ⟨_, cm_k8⟩, ⟨_, cm_k9⟩, ⟨_, cm_k10⟩, ⟨_, cm_k11⟩, ⟨_, cm_k12⟩, ⟨_, cm_k13⟩, ⟨_, cm_k14⟩, ⟨_, cm_k15⟩, ⟨_, cm_k16⟩, ⟨_, cm_k17⟩, ⟨_, cm_k18⟩, ⟨_, cm_k19⟩, ⟨_, cm_k20⟩, ⟨_, cm_k21⟩, ⟨_, cm_k22⟩, ⟨_, cm_k23⟩, ⟨_, cm_k24⟩, trivial⟩
theorem cm_f1 : cm_F2 cm_ms1 cm_ns1 := ⟨⟨_, cm_k25⟩, ⟨_, cm_k26⟩, ⟨_, cm_k27⟩, ⟨_, cm_k28⟩, ⟨_, cm_k29⟩, ⟨_, cm_k30⟩, ⟨_, cm_k31⟩, ⟨_, cm_k32⟩, ⟨_, cm_k33⟩, ⟨_, cm_k34⟩, ⟨_, cm_k35⟩, ⟨_, cm_k36⟩, ⟨_, cm_k37⟩, ⟨_, cm_k38⟩, ⟨_, cm_k39⟩, ⟨_, cm_k40⟩, ⟨_, cm_k41⟩, ⟨_, cm_k42⟩, ⟨_, cm_k43⟩, ⟨_, cm_k44⟩, ⟨_, cm_k45⟩, ⟨_, cm_k46⟩, ⟨_, cm_k47⟩, ⟨_, cm_k48⟩, ⟨_, cm_k49⟩, trivial⟩
theorem cm_f2 : cm_F2 cm_ms2 cm_ns2 := ⟨⟨_, cm_k50⟩, ⟨_, cm_k51⟩, ⟨_, cm_k52⟩, ⟨_, cm_k53⟩, ⟨_, cm_k54⟩, ⟨_, cm_k55⟩, ⟨_, cm_k56⟩, ⟨_, cm_k57⟩, ⟨_, cm_k58⟩, ⟨_, cm_k59⟩, ⟨_, cm_k60⟩, ⟨_, cm_k61⟩, ⟨_, cm_k62⟩, ⟨_, cm_k63⟩, ⟨_, cm_k64⟩, ⟨_, cm_k65⟩, ⟨_, cm_k66⟩, ⟨_, cm_k67⟩, ⟨_, cm_k68⟩, ⟨_, cm_k69⟩, ⟨_, cm_k70⟩, ⟨_, cm_k71⟩, ⟨_, cm_k72⟩, ⟨_, cm_k73⟩, ⟨_, cm_k74⟩, trivial⟩
theorem cm_f3 : cm_F2 cm_ms3 cm_ns3 := ⟨⟨_, cm_k75⟩, ⟨_, cm_k76⟩, ⟨_, cm_k77⟩, ⟨_, cm_k78⟩, ⟨_, cm_k79⟩, ⟨_, cm_k80⟩, ⟨_, cm_k81⟩, ⟨_, cm_k82⟩, ⟨_, cm_k83⟩, ⟨_, cm_k84⟩, ⟨_, cm_k85⟩, ⟨_, cm_k86⟩, ⟨_, cm_k87⟩, ⟨_, cm_k88⟩, ⟨_, cm_k89⟩, ⟨_, cm_k90⟩, ⟨_, cm_k91⟩, ⟨_, cm_k92⟩, ⟨_, cm_k93⟩, ⟨_, cm_k94⟩, ⟨_, cm_k95⟩, ⟨_, cm_k96⟩, ⟨_, cm_k97⟩, ⟨_, cm_k98⟩, ⟨_, cm_k99⟩, trivial⟩
theorem cm_f4 : cm_F2 cm_ms4 cm_ns4 := ⟨⟨_, cm_k100⟩, ⟨_, cm_k101⟩, ⟨_, cm_k102⟩, ⟨_, cm_k103⟩, ⟨_, cm_k104⟩, ⟨_, cm_k105⟩, ⟨_, cm_k106⟩, ⟨_, cm_k107⟩, ⟨_, cm_k108⟩, ⟨_, cm_k109⟩, ⟨_, cm_k110⟩, ⟨_, cm_k111⟩, ⟨_, cm_k112⟩, ⟨_, cm_k113⟩, ⟨_, cm_k114⟩, ⟨_, cm_k115⟩, ⟨_, cm_k116⟩, ⟨_, cm_k117⟩, ⟨_, cm_k118⟩, ⟨_, cm_k119⟩, ⟨_, cm_k120⟩, ⟨_, cm_k121⟩, ⟨_, cm_k122⟩, ⟨_, cm_k123⟩, ⟨_, cm_k124⟩, trivial⟩
theorem cm_f5 : cm_F2 cm_ms5 cm_ns5 := ⟨⟨_, cm_k125⟩, ⟨_, cm_k126⟩, ⟨_, cm_k127⟩, ⟨_, cm_k128⟩, ⟨_, cm_k129⟩, ⟨_, cm_k130⟩, ⟨_, cm_k131⟩, ⟨_, cm_k132⟩, ⟨_, cm_k133⟩, ⟨_, cm_k134⟩, ⟨_, cm_k135⟩, ⟨_, cm_k136⟩, ⟨_, cm_k137⟩, ⟨_, cm_k138⟩, ⟨_, cm_k139⟩, ⟨_, cm_k140⟩, ⟨_, cm_k141⟩, ⟨_, cm_k142⟩, ⟨_, cm_k143⟩, ⟨_, cm_k144⟩, ⟨_, cm_k145⟩, ⟨_, cm_k146⟩, ⟨_, cm_k147⟩, ⟨_, cm_k148⟩, ⟨_, cm_k149⟩, trivial⟩
theorem cm_f6 : cm_F2 cm_ms6 cm_ns6 := ⟨⟨_, cm_k150⟩, ⟨_, cm_k151⟩, ⟨_, cm_k152⟩, ⟨_, cm_k153⟩, ⟨_, cm_k154⟩, ⟨_, cm_k155⟩, ⟨_, cm_k156⟩, ⟨_, cm_k157⟩, ⟨_, cm_k158⟩, ⟨_, cm_k159⟩, ⟨_, cm_k160⟩, ⟨_, cm_k161⟩, ⟨_, cm_k162⟩, ⟨_, cm_k163⟩, ⟨_, cm_k164⟩, ⟨_, cm_k165⟩, ⟨_, cm_k166⟩, ⟨_, cm_k167⟩, ⟨_, cm_k168⟩, ⟨_, cm_k169⟩, ⟨_, cm_k170⟩, ⟨_, cm_k171⟩, ⟨_, cm_k172⟩, ⟨_, cm_k173⟩, ⟨_, cm_k174⟩, trivial⟩
theorem cm_f7 : cm_F2 cm_ms7 cm_ns7 := ⟨⟨_, cm_k175⟩, ⟨_, cm_k176⟩, ⟨_, cm_k177⟩, ⟨_, cm_k178⟩, ⟨_, cm_k179⟩, ⟨_, cm_k180⟩, ⟨_, cm_k181⟩, ⟨_, cm_k182⟩, ⟨_, cm_k183⟩, ⟨_, cm_k184⟩, ⟨_, cm_k185⟩, ⟨_, cm_k186⟩, ⟨_, cm_k187⟩, ⟨_, cm_k188⟩, ⟨_, cm_k189⟩, ⟨_, cm_k190⟩, ⟨_, cm_k191⟩, ⟨_, cm_k192⟩, ⟨_, cm_k193⟩, ⟨_, cm_k194⟩, ⟨_, cm_k195⟩, ⟨_, cm_k196⟩, ⟨_, cm_k197⟩, ⟨_, cm_k198⟩, ⟨_, cm_k199⟩, trivial⟩
theorem cm_f8 : cm_F2 cm_ms8 cm_ns8 := ⟨⟨_, cm_k200⟩, ⟨_, cm_k201⟩, ⟨_, cm_k202⟩, ⟨_, cm_k203⟩, ⟨_, cm_k204⟩, ⟨_, cm_k205⟩, ⟨_, cm_k206⟩, ⟨_, cm_k207⟩, ⟨_, cm_k208⟩, ⟨_, cm_k209⟩, ⟨_, cm_k210⟩, ⟨_, cm_k211⟩, ⟨_, cm_k212⟩, ⟨_, cm_k213⟩, ⟨_, cm_k214⟩, ⟨_, cm_k215⟩, ⟨_, cm_k216⟩, ⟨_, cm_k217⟩, ⟨_, cm_k218⟩, ⟨_, cm_k219⟩, ⟨_, cm_k220⟩, ⟨_, cm_k221⟩, ⟨_, cm_k222⟩, ⟨_, cm_k223⟩, ⟨_, cm_k224⟩, trivial⟩
theorem cm_f9 : cm_F2 cm_ms9 cm_ns9 := ⟨⟨_, cm_k225⟩, ⟨_, cm_k226⟩, ⟨_, cm_k227⟩, ⟨_, cm_k228⟩, ⟨_, cm_k229⟩, ⟨_, cm_k230⟩, ⟨_, cm_k231⟩, ⟨_, cm_k232⟩, ⟨_, cm_k233⟩, ⟨_, cm_k234⟩, ⟨_, cm_k235⟩, ⟨_, cm_k236⟩, ⟨_, cm_k237⟩, ⟨_, cm_k238⟩, ⟨_, cm_k239⟩, ⟨_, cm_k240⟩, ⟨_, cm_k241⟩, ⟨_, cm_k242⟩, ⟨_, cm_k243⟩, ⟨_, cm_k244⟩, ⟨_, cm_k245⟩, ⟨_, cm_k246⟩, ⟨_, cm_k247⟩, ⟨_, cm_k248⟩, ⟨_, cm_k249⟩, trivial⟩
theorem cm_f10 : cm_F2 cm_ms10 cm_ns10 := ⟨⟨_, cm_k250⟩, ⟨_, cm_k251⟩, ⟨_, cm_k252⟩, trivial⟩
theorem cm_fall : cm_F2 cm_ms cm_ns := cm_F2_app cm_f0 (cm_F2_app cm_f1 (cm_F2_app cm_f2 (cm_F2_app cm_f3 (cm_F2_app cm_f4 (cm_F2_app cm_f5 (cm_F2_app cm_f6 (cm_F2_app cm_f7 (cm_F2_app cm_f8 (cm_F2_app cm_f9 (cm_f10))))))))))
def cm_cok (ci : Nat) : Bool := match cm_nth cm_cls ci, cm_nth cm_tys ci with
  | some (C, T, N), some tys => (u_ws C T N).all (fun w => decide (w ∈ cm_Ts)) && decide (∀ a, a < N → ∀ b, b < N → a ≠ b → (T a).2.1 ≠ (T b).2.1) && decide (tys.length = N) && decide (∀ k, k < N → parseFieldDescriptor (T k).2.2.1 = some (tys.getD k .float)) && decide (∀ k, k < N → cm_tyok (tys.getD k .float) = true)
  | _, _ => false
theorem cm_c0 : cm_cok 0 = true := by decide +kernel
theorem cm_c1 : cm_cok 1 = true := by decide +kernel
theorem cm_c2 : cm_cok 2 = true := by decide +kernel
theorem cm_c3 : cm_cok 3 = true := by decide +kernel
theorem cm_c4 : cm_cok 4 = true := by decide +kernel
theorem cm_c5 : cm_cok 5 = true := by decide +kernel
theorem cm_c6 : cm_cok 6 = true := by decide +kernel
theorem cm_c7 : cm_cok 7 = true := by decide +kernel
theorem cm_c8 : cm_cok 8 = true := by decide +kernel
theorem cm_c9 : cm_cok 9 = true := by decide +kernel
theorem cm_c10 : cm_cok 10 = true := by decide +kernel
theorem cm_c11 : cm_cok 11 = true := by decide +kernel
theorem cm_c12 : cm_cok 12 = true := by decide +kernel
theorem cm_cok_ok {ci : Nat} (h : cm_cok ci = true) (C : String) (T : u_T) (N : Nat) (hc : cm_cls[ci]? = some (C, T, N)) : (∀ w ∈ u_ws C T N, w ∈ cm_Ts) ∧ (∀ a, a < N → ∀ b, b < N → a ≠ b → (T a).2.1 ≠ (T b).2.1) ∧ ∃ tys, cm_tys[ci]? = some tys ∧ tys.length = N ∧ (∀ k, k < N → parseFieldDescriptor (T k).2.2.1 = some (tys.getD k .float)) ∧ ∀ k, k < N → cm_tyok (tys.getD k .float) = true := by
  unfold cm_cok at h
  rw [cm_nth_eq, cm_nth_eq, hc] at h
  split at h
  · rename_i C' T' N' tys heq ht
    cases heq
    simp only [Bool.and_eq_true, decide_eq_true_eq, List.all_eq_true] at h
    obtain ⟨⟨⟨⟨h1, h2⟩, h3⟩, h4⟩, h5⟩ := h
    exact ⟨h1, h2, tys, ht, h3, h4, h5⟩
  · cases h
theorem cm_cok_all : ∀ ci : Nat, ci < 13 → cm_cok ci = true := by
  intro ci h
  match ci, h with
  | 0, _ => exact cm_c0
  | 1, _ => exact cm_c1
  | 2, _ => exact cm_c2
  | 3, _ => exact cm_c3
  | 4, _ => exact cm_c4
  | 5, _ => exact cm_c5
  | 6, _ => exact cm_c6
  | 7, _ => exact cm_c7
  | 8, _ => exact cm_c8
  | 9, _ => exact cm_c9
  | 10, _ => exact cm_c10
  | 11, _ => exact cm_c11
  | 12, _ => exact cm_c12
set_option maxRecDepth 100000 in
/-- THE TABLES ARE RIGHT -/
theorem cm_good (x : Term) (xs : List Int32) : cm_Good (cm_pg x xs) cm_Kk := by
  refine ⟨fun mi mr mn hmr hmn => ?_, fun mi mr hmr => ?_, fun w hw => ?_, fun ci C T N hc => ?_, fun w hw => ?_⟩
  · obtain ⟨y, hy, p, hp⟩ := cm_F2_at cm_fall mi mr hmr
    cases hy.symm.trans hmn
    unfold cm_mok at hp
    simp only [Bool.and_eq_true, Bool.or_eq_true, beq_iff_eq, bne_iff_ne, decide_eq_true_eq] at hp
    obtain ⟨⟨⟨⟨⟨⟨h1, h2⟩, h3⟩, h4⟩, h5⟩, h6⟩, h7⟩ := hp
    exact ⟨fun pc i hi => cm_at_row h1 hi, fun hl => cm_wc_ok (h2.resolve_left hl), h3, h4, h5, h6, fun hi => h7.resolve_left (fun z => z hi)⟩
  · obtain ⟨y, hy, -⟩ := cm_F2_at cm_fall mi mr hmr
    exact ⟨y, hy⟩
  · have hw' : w ∈ lw_tbl.filter cm_wk := hw
    exact good_of_word (cm_wk_good (List.mem_filter.mp hw').2)
  · exact cm_cok_ok (cm_cok_all ci (List.getElem?_eq_some_iff.mp hc).1) C T N hc
  · have hw' : w ∈ lw_tbl.filter cm_nest := hw
    exact (List.mem_filter.mp hw').2

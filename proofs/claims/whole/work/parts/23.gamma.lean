/-! every call of the abstract machine is one of the machine -/
theorem fx_allk : ∀ y, y < 255 → fx_Mok (fx_Y y).2.1 ∧ fx_Cok fx_Y (fx_Y y).2.1 ∧ fx_Yok (fx_Y y) := by
  intro y hy
  rcases Nat.lt_or_ge y 127 with h1 | h1
  · rcases Nat.lt_or_ge y 63 with h2 | h2
    · rcases Nat.lt_or_ge y 31 with h3 | h3
      · rcases Nat.lt_or_ge y 15 with h4 | h4
        · rcases Nat.lt_or_ge y 7 with h5 | h5
          · rcases Nat.lt_or_ge y 3 with h6 | h6
            · rcases Nat.lt_or_ge y 1 with h7 | h7
              · obtain rfl : y = 0 := by omega
                exact ⟨fx_kk_0.1, fx_kk_0.2, fx_yk_0⟩
              · rcases Nat.lt_or_ge y 2 with h8 | h8
                · obtain rfl : y = 1 := by omega
                  exact ⟨fx_kk_1.1, fx_kk_1.2, fx_yk_1⟩
                · obtain rfl : y = 2 := by omega
                  exact ⟨fx_kk_2.1, fx_kk_2.2, fx_yk_2⟩
            · rcases Nat.lt_or_ge y 5 with h7 | h7
              · rcases Nat.lt_or_ge y 4 with h8 | h8
                · obtain rfl : y = 3 := by omega
                  exact ⟨fx_kk_3.1, fx_kk_3.2, fx_yk_3⟩
                · obtain rfl : y = 4 := by omega
                  exact ⟨fx_kk_4.1, fx_kk_4.2, fx_yk_4⟩
              · rcases Nat.lt_or_ge y 6 with h8 | h8
                · obtain rfl : y = 5 := by omega
                  exact ⟨fx_kk_5.1, fx_kk_5.2, fx_yk_5⟩
                · obtain rfl : y = 6 := by omega
                  exact ⟨fx_kk_6.1, fx_kk_6.2, fx_yk_6⟩
          · rcases Nat.lt_or_ge y 11 with h6 | h6
            · rcases Nat.lt_or_ge y 9 with h7 | h7
              · rcases Nat.lt_or_ge y 8 with h8 | h8
                · obtain rfl : y = 7 := by omega
                  exact ⟨fx_kk_7.1, fx_kk_7.2, fx_yk_7⟩
                · obtain rfl : y = 8 := by omega
                  exact ⟨fx_kk_8.1, fx_kk_8.2, fx_yk_8⟩
              · rcases Nat.lt_or_ge y 10 with h8 | h8
                · obtain rfl : y = 9 := by omega
                  exact ⟨fx_kk_9.1, fx_kk_9.2, fx_yk_9⟩
                · obtain rfl : y = 10 := by omega
                  exact ⟨fx_kk_10.1, fx_kk_10.2, fx_yk_10⟩
            · rcases Nat.lt_or_ge y 13 with h7 | h7
              · rcases Nat.lt_or_ge y 12 with h8 | h8
                · obtain rfl : y = 11 := by omega
                  exact ⟨fx_kk_11.1, fx_kk_11.2, fx_yk_11⟩
                · obtain rfl : y = 12 := by omega
                  exact ⟨fx_kk_12.1, fx_kk_12.2, fx_yk_12⟩
              · rcases Nat.lt_or_ge y 14 with h8 | h8
                · obtain rfl : y = 13 := by omega
                  exact ⟨fx_kk_13.1, fx_kk_13.2, fx_yk_13⟩
                · obtain rfl : y = 14 := by omega
                  exact ⟨fx_kk_14.1, fx_kk_14.2, fx_yk_14⟩
        · rcases Nat.lt_or_ge y 23 with h5 | h5
          · rcases Nat.lt_or_ge y 19 with h6 | h6
            · rcases Nat.lt_or_ge y 17 with h7 | h7
              · rcases Nat.lt_or_ge y 16 with h8 | h8
                · obtain rfl : y = 15 := by omega
                  exact ⟨fx_kk_15.1, fx_kk_15.2, fx_yk_15⟩
                · obtain rfl : y = 16 := by omega
                  exact ⟨fx_kk_16.1, fx_kk_16.2, fx_yk_16⟩
              · rcases Nat.lt_or_ge y 18 with h8 | h8
                · obtain rfl : y = 17 := by omega
                  exact ⟨fx_kk_17.1, fx_kk_17.2, fx_yk_17⟩
                · obtain rfl : y = 18 := by omega
                  exact ⟨fx_kk_18.1, fx_kk_18.2, fx_yk_18⟩
            · rcases Nat.lt_or_ge y 21 with h7 | h7
              · rcases Nat.lt_or_ge y 20 with h8 | h8
                · obtain rfl : y = 19 := by omega
                  exact ⟨fx_kk_19.1, fx_kk_19.2, fx_yk_19⟩
                · obtain rfl : y = 20 := by omega
                  exact ⟨fx_kk_20.1, fx_kk_20.2, fx_yk_20⟩
              · rcases Nat.lt_or_ge y 22 with h8 | h8
                · obtain rfl : y = 21 := by omega
                  exact ⟨fx_kk_21.1, fx_kk_21.2, fx_yk_21⟩
                · obtain rfl : y = 22 := by omega
                  exact ⟨fx_kk_22.1, fx_kk_22.2, fx_yk_22⟩
          · rcases Nat.lt_or_ge y 27 with h6 | h6
            · rcases Nat.lt_or_ge y 25 with h7 | h7
              · rcases Nat.lt_or_ge y 24 with h8 | h8
                · obtain rfl : y = 23 := by omega
                  exact ⟨fx_kk_23.1, fx_kk_23.2, fx_yk_23⟩
                · obtain rfl : y = 24 := by omega
                  exact ⟨fx_kk_24.1, fx_kk_24.2, fx_yk_24⟩
              · rcases Nat.lt_or_ge y 26 with h8 | h8
                · obtain rfl : y = 25 := by omega
                  exact ⟨fx_kk_25.1, fx_kk_25.2, fx_yk_25⟩
                · obtain rfl : y = 26 := by omega
                  exact ⟨fx_kk_26.1, fx_kk_26.2, fx_yk_26⟩
            · rcases Nat.lt_or_ge y 29 with h7 | h7
              · rcases Nat.lt_or_ge y 28 with h8 | h8
                · obtain rfl : y = 27 := by omega
                  exact ⟨fx_kk_27.1, fx_kk_27.2, fx_yk_27⟩
                · obtain rfl : y = 28 := by omega
                  exact ⟨fx_kk_28.1, fx_kk_28.2, fx_yk_28⟩
              · rcases Nat.lt_or_ge y 30 with h8 | h8
                · obtain rfl : y = 29 := by omega
                  exact ⟨fx_kk_29.1, fx_kk_29.2, fx_yk_29⟩
                · obtain rfl : y = 30 := by omega
                  exact ⟨fx_kk_30.1, fx_kk_30.2, fx_yk_30⟩
      · rcases Nat.lt_or_ge y 47 with h4 | h4
        · rcases Nat.lt_or_ge y 39 with h5 | h5
          · rcases Nat.lt_or_ge y 35 with h6 | h6
            · rcases Nat.lt_or_ge y 33 with h7 | h7
              · rcases Nat.lt_or_ge y 32 with h8 | h8
                · obtain rfl : y = 31 := by omega
                  exact ⟨fx_kk_31.1, fx_kk_31.2, fx_yk_31⟩
                · obtain rfl : y = 32 := by omega
                  exact ⟨fx_kk_32.1, fx_kk_32.2, fx_yk_32⟩
              · rcases Nat.lt_or_ge y 34 with h8 | h8
                · obtain rfl : y = 33 := by omega
                  exact ⟨fx_kk_33.1, fx_kk_33.2, fx_yk_33⟩
                · obtain rfl : y = 34 := by omega
                  exact ⟨fx_kk_34.1, fx_kk_34.2, fx_yk_34⟩
            · rcases Nat.lt_or_ge y 37 with h7 | h7
              · rcases Nat.lt_or_ge y 36 with h8 | h8
                · obtain rfl : y = 35 := by omega
                  exact ⟨fx_kk_35.1, fx_kk_35.2, fx_yk_35⟩
                · obtain rfl : y = 36 := by omega
                  exact ⟨fx_kk_36.1, fx_kk_36.2, fx_yk_36⟩
              · rcases Nat.lt_or_ge y 38 with h8 | h8
                · obtain rfl : y = 37 := by omega
                  exact ⟨fx_kk_37.1, fx_kk_37.2, fx_yk_37⟩
                · obtain rfl : y = 38 := by omega
                  exact ⟨fx_kk_38.1, fx_kk_38.2, fx_yk_38⟩
          · rcases Nat.lt_or_ge y 43 with h6 | h6
            · rcases Nat.lt_or_ge y 41 with h7 | h7
              · rcases Nat.lt_or_ge y 40 with h8 | h8
                · obtain rfl : y = 39 := by omega
                  exact ⟨fx_kk_39.1, fx_kk_39.2, fx_yk_39⟩
                · obtain rfl : y = 40 := by omega
                  exact ⟨fx_kk_40.1, fx_kk_40.2, fx_yk_40⟩
              · rcases Nat.lt_or_ge y 42 with h8 | h8
                · obtain rfl : y = 41 := by omega
                  exact ⟨fx_kk_41.1, fx_kk_41.2, fx_yk_41⟩
                · obtain rfl : y = 42 := by omega
                  exact ⟨fx_kk_42.1, fx_kk_42.2, fx_yk_42⟩
            · rcases Nat.lt_or_ge y 45 with h7 | h7
              · rcases Nat.lt_or_ge y 44 with h8 | h8
                · obtain rfl : y = 43 := by omega
                  exact ⟨fx_kk_43.1, fx_kk_43.2, fx_yk_43⟩
                · obtain rfl : y = 44 := by omega
                  exact ⟨fx_kk_44.1, fx_kk_44.2, fx_yk_44⟩
              · rcases Nat.lt_or_ge y 46 with h8 | h8
                · obtain rfl : y = 45 := by omega
                  exact ⟨fx_kk_45.1, fx_kk_45.2, fx_yk_45⟩
                · obtain rfl : y = 46 := by omega
                  exact ⟨fx_kk_46.1, fx_kk_46.2, fx_yk_46⟩
        · rcases Nat.lt_or_ge y 55 with h5 | h5
          · rcases Nat.lt_or_ge y 51 with h6 | h6
            · rcases Nat.lt_or_ge y 49 with h7 | h7
              · rcases Nat.lt_or_ge y 48 with h8 | h8
                · obtain rfl : y = 47 := by omega
                  exact ⟨fx_kk_47.1, fx_kk_47.2, fx_yk_47⟩
                · obtain rfl : y = 48 := by omega
                  exact ⟨fx_kk_48.1, fx_kk_48.2, fx_yk_48⟩
              · rcases Nat.lt_or_ge y 50 with h8 | h8
                · obtain rfl : y = 49 := by omega
                  exact ⟨fx_kk_49.1, fx_kk_49.2, fx_yk_49⟩
                · obtain rfl : y = 50 := by omega
                  exact ⟨fx_kk_50.1, fx_kk_50.2, fx_yk_50⟩
            · rcases Nat.lt_or_ge y 53 with h7 | h7
              · rcases Nat.lt_or_ge y 52 with h8 | h8
                · obtain rfl : y = 51 := by omega
                  exact ⟨fx_kk_51.1, fx_kk_51.2, fx_yk_51⟩
                · obtain rfl : y = 52 := by omega
                  exact ⟨fx_kk_52.1, fx_kk_52.2, fx_yk_52⟩
              · rcases Nat.lt_or_ge y 54 with h8 | h8
                · obtain rfl : y = 53 := by omega
                  exact ⟨fx_kk_53.1, fx_kk_53.2, fx_yk_53⟩
                · obtain rfl : y = 54 := by omega
                  exact ⟨fx_kk_54.1, fx_kk_54.2, fx_yk_54⟩
          · rcases Nat.lt_or_ge y 59 with h6 | h6
            · rcases Nat.lt_or_ge y 57 with h7 | h7
              · rcases Nat.lt_or_ge y 56 with h8 | h8
                · obtain rfl : y = 55 := by omega
                  exact ⟨fx_kk_55.1, fx_kk_55.2, fx_yk_55⟩
                · obtain rfl : y = 56 := by omega
                  exact ⟨fx_kk_56.1, fx_kk_56.2, fx_yk_56⟩
              · rcases Nat.lt_or_ge y 58 with h8 | h8
                · obtain rfl : y = 57 := by omega
                  exact ⟨fx_kk_57.1, fx_kk_57.2, fx_yk_57⟩
                · obtain rfl : y = 58 := by omega
                  exact ⟨fx_kk_58.1, fx_kk_58.2, fx_yk_58⟩
            · rcases Nat.lt_or_ge y 61 with h7 | h7
              · rcases Nat.lt_or_ge y 60 with h8 | h8
                · obtain rfl : y = 59 := by omega
                  exact ⟨fx_kk_59.1, fx_kk_59.2, fx_yk_59⟩
                · obtain rfl : y = 60 := by omega
                  exact ⟨fx_kk_60.1, fx_kk_60.2, fx_yk_60⟩
              · rcases Nat.lt_or_ge y 62 with h8 | h8
                · obtain rfl : y = 61 := by omega
                  exact ⟨fx_kk_61.1, fx_kk_61.2, fx_yk_61⟩
                · obtain rfl : y = 62 := by omega
                  exact ⟨fx_kk_62.1, fx_kk_62.2, fx_yk_62⟩
    · rcases Nat.lt_or_ge y 95 with h3 | h3
      · rcases Nat.lt_or_ge y 79 with h4 | h4
        · rcases Nat.lt_or_ge y 71 with h5 | h5
          · rcases Nat.lt_or_ge y 67 with h6 | h6
            · rcases Nat.lt_or_ge y 65 with h7 | h7
              · rcases Nat.lt_or_ge y 64 with h8 | h8
                · obtain rfl : y = 63 := by omega
                  exact ⟨fx_kk_63.1, fx_kk_63.2, fx_yk_63⟩
                · obtain rfl : y = 64 := by omega
                  exact ⟨fx_kk_64.1, fx_kk_64.2, fx_yk_64⟩
              · rcases Nat.lt_or_ge y 66 with h8 | h8
                · obtain rfl : y = 65 := by omega
                  exact ⟨fx_kk_65.1, fx_kk_65.2, fx_yk_65⟩
                · obtain rfl : y = 66 := by omega
                  exact ⟨fx_kk_66.1, fx_kk_66.2, fx_yk_66⟩
            · rcases Nat.lt_or_ge y 69 with h7 | h7
              · rcases Nat.lt_or_ge y 68 with h8 | h8
                · obtain rfl : y = 67 := by omega
                  exact ⟨fx_kk_67.1, fx_kk_67.2, fx_yk_67⟩
                · obtain rfl : y = 68 := by omega
                  exact ⟨fx_kk_68.1, fx_kk_68.2, fx_yk_68⟩
              · rcases Nat.lt_or_ge y 70 with h8 | h8
                · obtain rfl : y = 69 := by omega
                  exact ⟨fx_kk_69.1, fx_kk_69.2, fx_yk_69⟩
                · obtain rfl : y = 70 := by omega
                  exact ⟨fx_kk_70.1, fx_kk_70.2, fx_yk_70⟩
          · rcases Nat.lt_or_ge y 75 with h6 | h6
            · rcases Nat.lt_or_ge y 73 with h7 | h7
              · rcases Nat.lt_or_ge y 72 with h8 | h8
                · obtain rfl : y = 71 := by omega
                  exact ⟨fx_kk_71.1, fx_kk_71.2, fx_yk_71⟩
                · obtain rfl : y = 72 := by omega
                  exact ⟨fx_kk_72.1, fx_kk_72.2, fx_yk_72⟩
              · rcases Nat.lt_or_ge y 74 with h8 | h8
                · obtain rfl : y = 73 := by omega
                  exact ⟨fx_kk_73.1, fx_kk_73.2, fx_yk_73⟩
                · obtain rfl : y = 74 := by omega
                  exact ⟨fx_kk_74.1, fx_kk_74.2, fx_yk_74⟩
            · rcases Nat.lt_or_ge y 77 with h7 | h7
              · rcases Nat.lt_or_ge y 76 with h8 | h8
                · obtain rfl : y = 75 := by omega
                  exact ⟨fx_kk_75.1, fx_kk_75.2, fx_yk_75⟩
                · obtain rfl : y = 76 := by omega
                  exact ⟨fx_kk_76.1, fx_kk_76.2, fx_yk_76⟩
              · rcases Nat.lt_or_ge y 78 with h8 | h8
                · obtain rfl : y = 77 := by omega
                  exact ⟨fx_kk_77.1, fx_kk_77.2, fx_yk_77⟩
                · obtain rfl : y = 78 := by omega
                  exact ⟨fx_kk_78.1, fx_kk_78.2, fx_yk_78⟩
        · rcases Nat.lt_or_ge y 87 with h5 | h5
          · rcases Nat.lt_or_ge y 83 with h6 | h6
            · rcases Nat.lt_or_ge y 81 with h7 | h7
              · rcases Nat.lt_or_ge y 80 with h8 | h8
                · obtain rfl : y = 79 := by omega
                  exact ⟨fx_kk_79.1, fx_kk_79.2, fx_yk_79⟩
                · obtain rfl : y = 80 := by omega
                  exact ⟨fx_kk_80.1, fx_kk_80.2, fx_yk_80⟩
              · rcases Nat.lt_or_ge y 82 with h8 | h8
                · obtain rfl : y = 81 := by omega
                  exact ⟨fx_kk_81.1, fx_kk_81.2, fx_yk_81⟩
                · obtain rfl : y = 82 := by omega
                  exact ⟨fx_kk_82.1, fx_kk_82.2, fx_yk_82⟩
            · rcases Nat.lt_or_ge y 85 with h7 | h7
              · rcases Nat.lt_or_ge y 84 with h8 | h8
                · obtain rfl : y = 83 := by omega
                  exact ⟨fx_kk_83.1, fx_kk_83.2, fx_yk_83⟩
                · obtain rfl : y = 84 := by omega
                  exact ⟨fx_kk_84.1, fx_kk_84.2, fx_yk_84⟩
              · rcases Nat.lt_or_ge y 86 with h8 | h8
                · obtain rfl : y = 85 := by omega
                  exact ⟨fx_kk_85.1, fx_kk_85.2, fx_yk_85⟩
                · obtain rfl : y = 86 := by omega
                  exact ⟨fx_kk_86.1, fx_kk_86.2, fx_yk_86⟩
          · rcases Nat.lt_or_ge y 91 with h6 | h6
            · rcases Nat.lt_or_ge y 89 with h7 | h7
              · rcases Nat.lt_or_ge y 88 with h8 | h8
                · obtain rfl : y = 87 := by omega
                  exact ⟨fx_kk_87.1, fx_kk_87.2, fx_yk_87⟩
                · obtain rfl : y = 88 := by omega
                  exact ⟨fx_kk_88.1, fx_kk_88.2, fx_yk_88⟩
              · rcases Nat.lt_or_ge y 90 with h8 | h8
                · obtain rfl : y = 89 := by omega
                  exact ⟨fx_kk_89.1, fx_kk_89.2, fx_yk_89⟩
                · obtain rfl : y = 90 := by omega
                  exact ⟨fx_kk_90.1, fx_kk_90.2, fx_yk_90⟩
            · rcases Nat.lt_or_ge y 93 with h7 | h7
              · rcases Nat.lt_or_ge y 92 with h8 | h8
                · obtain rfl : y = 91 := by omega
                  exact ⟨fx_kk_91.1, fx_kk_91.2, fx_yk_91⟩
                · obtain rfl : y = 92 := by omega
                  exact ⟨fx_kk_92.1, fx_kk_92.2, fx_yk_92⟩
              · rcases Nat.lt_or_ge y 94 with h8 | h8
                · obtain rfl : y = 93 := by omega
                  exact ⟨fx_kk_93.1, fx_kk_93.2, fx_yk_93⟩
                · obtain rfl : y = 94 := by omega
                  exact ⟨fx_kk_94.1, fx_kk_94.2, fx_yk_94⟩
      · rcases Nat.lt_or_ge y 111 with h4 | h4
        · rcases Nat.lt_or_ge y 103 with h5 | h5
          · rcases Nat.lt_or_ge y 99 with h6 | h6
            · rcases Nat.lt_or_ge y 97 with h7 | h7
              · rcases Nat.lt_or_ge y 96 with h8 | h8
                · obtain rfl : y = 95 := by omega
                  exact ⟨fx_kk_95.1, fx_kk_95.2, fx_yk_95⟩
                · obtain rfl : y = 96 := by omega
                  exact ⟨fx_kk_96.1, fx_kk_96.2, fx_yk_96⟩
              · rcases Nat.lt_or_ge y 98 with h8 | h8
                · obtain rfl : y = 97 := by omega
                  exact ⟨fx_kk_97.1, fx_kk_97.2, fx_yk_97⟩
                · obtain rfl : y = 98 := by omega
                  exact ⟨fx_kk_98.1, fx_kk_98.2, fx_yk_98⟩
            · rcases Nat.lt_or_ge y 101 with h7 | h7
              · rcases Nat.lt_or_ge y 100 with h8 | h8
                · obtain rfl : y = 99 := by omega
                  exact ⟨fx_kk_99.1, fx_kk_99.2, fx_yk_99⟩
                · obtain rfl : y = 100 := by omega
                  exact ⟨fx_kk_100.1, fx_kk_100.2, fx_yk_100⟩
              · rcases Nat.lt_or_ge y 102 with h8 | h8
                · obtain rfl : y = 101 := by omega
                  exact ⟨fx_kk_101.1, fx_kk_101.2, fx_yk_101⟩
                · obtain rfl : y = 102 := by omega
                  exact ⟨fx_kk_102.1, fx_kk_102.2, fx_yk_102⟩
          · rcases Nat.lt_or_ge y 107 with h6 | h6
            · rcases Nat.lt_or_ge y 105 with h7 | h7
              · rcases Nat.lt_or_ge y 104 with h8 | h8
                · obtain rfl : y = 103 := by omega
                  exact ⟨fx_kk_103.1, fx_kk_103.2, fx_yk_103⟩
                · obtain rfl : y = 104 := by omega
                  exact ⟨fx_kk_104.1, fx_kk_104.2, fx_yk_104⟩
              · rcases Nat.lt_or_ge y 106 with h8 | h8
                · obtain rfl : y = 105 := by omega
                  exact ⟨fx_kk_105.1, fx_kk_105.2, fx_yk_105⟩
                · obtain rfl : y = 106 := by omega
                  exact ⟨fx_kk_106.1, fx_kk_106.2, fx_yk_106⟩
            · rcases Nat.lt_or_ge y 109 with h7 | h7
              · rcases Nat.lt_or_ge y 108 with h8 | h8
                · obtain rfl : y = 107 := by omega
                  exact ⟨fx_kk_107.1, fx_kk_107.2, fx_yk_107⟩
                · obtain rfl : y = 108 := by omega
                  exact ⟨fx_kk_108.1, fx_kk_108.2, fx_yk_108⟩
              · rcases Nat.lt_or_ge y 110 with h8 | h8
                · obtain rfl : y = 109 := by omega
                  exact ⟨fx_kk_109.1, fx_kk_109.2, fx_yk_109⟩
                · obtain rfl : y = 110 := by omega
                  exact ⟨fx_kk_110.1, fx_kk_110.2, fx_yk_110⟩
        · rcases Nat.lt_or_ge y 119 with h5 | h5
          · rcases Nat.lt_or_ge y 115 with h6 | h6
            · rcases Nat.lt_or_ge y 113 with h7 | h7
              · rcases Nat.lt_or_ge y 112 with h8 | h8
                · obtain rfl : y = 111 := by omega
                  exact ⟨fx_kk_111.1, fx_kk_111.2, fx_yk_111⟩
                · obtain rfl : y = 112 := by omega
                  exact ⟨fx_kk_112.1, fx_kk_112.2, fx_yk_112⟩
              · rcases Nat.lt_or_ge y 114 with h8 | h8
                · obtain rfl : y = 113 := by omega
                  exact ⟨fx_kk_113.1, fx_kk_113.2, fx_yk_113⟩
                · obtain rfl : y = 114 := by omega
                  exact ⟨fx_kk_114.1, fx_kk_114.2, fx_yk_114⟩
            · rcases Nat.lt_or_ge y 117 with h7 | h7
              · rcases Nat.lt_or_ge y 116 with h8 | h8
                · obtain rfl : y = 115 := by omega
                  exact ⟨fx_kk_115.1, fx_kk_115.2, fx_yk_115⟩
                · obtain rfl : y = 116 := by omega
                  exact ⟨fx_kk_116.1, fx_kk_116.2, fx_yk_116⟩
              · rcases Nat.lt_or_ge y 118 with h8 | h8
                · obtain rfl : y = 117 := by omega
                  exact ⟨fx_kk_117.1, fx_kk_117.2, fx_yk_117⟩
                · obtain rfl : y = 118 := by omega
                  exact ⟨fx_kk_118.1, fx_kk_118.2, fx_yk_118⟩
          · rcases Nat.lt_or_ge y 123 with h6 | h6
            · rcases Nat.lt_or_ge y 121 with h7 | h7
              · rcases Nat.lt_or_ge y 120 with h8 | h8
                · obtain rfl : y = 119 := by omega
                  exact ⟨fx_kk_119.1, fx_kk_119.2, fx_yk_119⟩
                · obtain rfl : y = 120 := by omega
                  exact ⟨fx_kk_120.1, fx_kk_120.2, fx_yk_120⟩
              · rcases Nat.lt_or_ge y 122 with h8 | h8
                · obtain rfl : y = 121 := by omega
                  exact ⟨fx_kk_121.1, fx_kk_121.2, fx_yk_121⟩
                · obtain rfl : y = 122 := by omega
                  exact ⟨fx_kk_122.1, fx_kk_122.2, fx_yk_122⟩
            · rcases Nat.lt_or_ge y 125 with h7 | h7
              · rcases Nat.lt_or_ge y 124 with h8 | h8
                · obtain rfl : y = 123 := by omega
                  exact ⟨fx_kk_123.1, fx_kk_123.2, fx_yk_123⟩
                · obtain rfl : y = 124 := by omega
                  exact ⟨fx_kk_124.1, fx_kk_124.2, fx_yk_124⟩
              · rcases Nat.lt_or_ge y 126 with h8 | h8
                · obtain rfl : y = 125 := by omega
                  exact ⟨fx_kk_125.1, fx_kk_125.2, fx_yk_125⟩
                · obtain rfl : y = 126 := by omega
                  exact ⟨fx_kk_126.1, fx_kk_126.2, fx_yk_126⟩
  · rcases Nat.lt_or_ge y 191 with h2 | h2
    · rcases Nat.lt_or_ge y 159 with h3 | h3
      · rcases Nat.lt_or_ge y 143 with h4 | h4
        · rcases Nat.lt_or_ge y 135 with h5 | h5
          · rcases Nat.lt_or_ge y 131 with h6 | h6
            · rcases Nat.lt_or_ge y 129 with h7 | h7
              · rcases Nat.lt_or_ge y 128 with h8 | h8
                · obtain rfl : y = 127 := by omega
                  exact ⟨fx_kk_127.1, fx_kk_127.2, fx_yk_127⟩
                · obtain rfl : y = 128 := by omega
                  exact ⟨fx_kk_128.1, fx_kk_128.2, fx_yk_128⟩
              · rcases Nat.lt_or_ge y 130 with h8 | h8
                · obtain rfl : y = 129 := by omega
                  exact ⟨fx_kk_129.1, fx_kk_129.2, fx_yk_129⟩
                · obtain rfl : y = 130 := by omega
                  exact ⟨fx_kk_130.1, fx_kk_130.2, fx_yk_130⟩
            · rcases Nat.lt_or_ge y 133 with h7 | h7
              · rcases Nat.lt_or_ge y 132 with h8 | h8
                · obtain rfl : y = 131 := by omega
                  exact ⟨fx_kk_131.1, fx_kk_131.2, fx_yk_131⟩
                · obtain rfl : y = 132 := by omega
                  exact ⟨fx_kk_132.1, fx_kk_132.2, fx_yk_132⟩
              · rcases Nat.lt_or_ge y 134 with h8 | h8
                · obtain rfl : y = 133 := by omega
                  exact ⟨fx_kk_133.1, fx_kk_133.2, fx_yk_133⟩
                · obtain rfl : y = 134 := by omega
                  exact ⟨fx_kk_134.1, fx_kk_134.2, fx_yk_134⟩
          · rcases Nat.lt_or_ge y 139 with h6 | h6
            · rcases Nat.lt_or_ge y 137 with h7 | h7
              · rcases Nat.lt_or_ge y 136 with h8 | h8
                · obtain rfl : y = 135 := by omega
                  exact ⟨fx_kk_135.1, fx_kk_135.2, fx_yk_135⟩
                · obtain rfl : y = 136 := by omega
                  exact ⟨fx_kk_136.1, fx_kk_136.2, fx_yk_136⟩
              · rcases Nat.lt_or_ge y 138 with h8 | h8
                · obtain rfl : y = 137 := by omega
                  exact ⟨fx_kk_137.1, fx_kk_137.2, fx_yk_137⟩
                · obtain rfl : y = 138 := by omega
                  exact ⟨fx_kk_138.1, fx_kk_138.2, fx_yk_138⟩
            · rcases Nat.lt_or_ge y 141 with h7 | h7
              · rcases Nat.lt_or_ge y 140 with h8 | h8
                · obtain rfl : y = 139 := by omega
                  exact ⟨fx_kk_139.1, fx_kk_139.2, fx_yk_139⟩
                · obtain rfl : y = 140 := by omega
                  exact ⟨fx_kk_140.1, fx_kk_140.2, fx_yk_140⟩
              · rcases Nat.lt_or_ge y 142 with h8 | h8
                · obtain rfl : y = 141 := by omega
                  exact ⟨fx_kk_141.1, fx_kk_141.2, fx_yk_141⟩
                · obtain rfl : y = 142 := by omega
                  exact ⟨fx_kk_142.1, fx_kk_142.2, fx_yk_142⟩
        · rcases Nat.lt_or_ge y 151 with h5 | h5
          · rcases Nat.lt_or_ge y 147 with h6 | h6
            · rcases Nat.lt_or_ge y 145 with h7 | h7
              · rcases Nat.lt_or_ge y 144 with h8 | h8
                · obtain rfl : y = 143 := by omega
                  exact ⟨fx_kk_143.1, fx_kk_143.2, fx_yk_143⟩
                · obtain rfl : y = 144 := by omega
                  exact ⟨fx_kk_144.1, fx_kk_144.2, fx_yk_144⟩
              · rcases Nat.lt_or_ge y 146 with h8 | h8
                · obtain rfl : y = 145 := by omega
                  exact ⟨fx_kk_145.1, fx_kk_145.2, fx_yk_145⟩
                · obtain rfl : y = 146 := by omega
                  exact ⟨fx_kk_146.1, fx_kk_146.2, fx_yk_146⟩
            · rcases Nat.lt_or_ge y 149 with h7 | h7
              · rcases Nat.lt_or_ge y 148 with h8 | h8
                · obtain rfl : y = 147 := by omega
                  exact ⟨fx_kk_147.1, fx_kk_147.2, fx_yk_147⟩
                · obtain rfl : y = 148 := by omega
                  exact ⟨fx_kk_148.1, fx_kk_148.2, fx_yk_148⟩
              · rcases Nat.lt_or_ge y 150 with h8 | h8
                · obtain rfl : y = 149 := by omega
                  exact ⟨fx_kk_149.1, fx_kk_149.2, fx_yk_149⟩
                · obtain rfl : y = 150 := by omega
                  exact ⟨fx_kk_150.1, fx_kk_150.2, fx_yk_150⟩
          · rcases Nat.lt_or_ge y 155 with h6 | h6
            · rcases Nat.lt_or_ge y 153 with h7 | h7
              · rcases Nat.lt_or_ge y 152 with h8 | h8
                · obtain rfl : y = 151 := by omega
                  exact ⟨fx_kk_151.1, fx_kk_151.2, fx_yk_151⟩
                · obtain rfl : y = 152 := by omega
                  exact ⟨fx_kk_152.1, fx_kk_152.2, fx_yk_152⟩
              · rcases Nat.lt_or_ge y 154 with h8 | h8
                · obtain rfl : y = 153 := by omega
                  exact ⟨fx_kk_153.1, fx_kk_153.2, fx_yk_153⟩
                · obtain rfl : y = 154 := by omega
                  exact ⟨fx_kk_154.1, fx_kk_154.2, fx_yk_154⟩
            · rcases Nat.lt_or_ge y 157 with h7 | h7
              · rcases Nat.lt_or_ge y 156 with h8 | h8
                · obtain rfl : y = 155 := by omega
                  exact ⟨fx_kk_155.1, fx_kk_155.2, fx_yk_155⟩
                · obtain rfl : y = 156 := by omega
                  exact ⟨fx_kk_156.1, fx_kk_156.2, fx_yk_156⟩
              · rcases Nat.lt_or_ge y 158 with h8 | h8
                · obtain rfl : y = 157 := by omega
                  exact ⟨fx_kk_157.1, fx_kk_157.2, fx_yk_157⟩
                · obtain rfl : y = 158 := by omega
                  exact ⟨fx_kk_158.1, fx_kk_158.2, fx_yk_158⟩
      · rcases Nat.lt_or_ge y 175 with h4 | h4
        · rcases Nat.lt_or_ge y 167 with h5 | h5
          · rcases Nat.lt_or_ge y 163 with h6 | h6
            · rcases Nat.lt_or_ge y 161 with h7 | h7
              · rcases Nat.lt_or_ge y 160 with h8 | h8
                · obtain rfl : y = 159 := by omega
                  exact ⟨fx_kk_159.1, fx_kk_159.2, fx_yk_159⟩
                · obtain rfl : y = 160 := by omega
                  exact ⟨fx_kk_160.1, fx_kk_160.2, fx_yk_160⟩
              · rcases Nat.lt_or_ge y 162 with h8 | h8
                · obtain rfl : y = 161 := by omega
                  exact ⟨fx_kk_161.1, fx_kk_161.2, fx_yk_161⟩
                · obtain rfl : y = 162 := by omega
                  exact ⟨fx_kk_162.1, fx_kk_162.2, fx_yk_162⟩
            · rcases Nat.lt_or_ge y 165 with h7 | h7
              · rcases Nat.lt_or_ge y 164 with h8 | h8
                · obtain rfl : y = 163 := by omega
                  exact ⟨fx_kk_163.1, fx_kk_163.2, fx_yk_163⟩
                · obtain rfl : y = 164 := by omega
                  exact ⟨fx_kk_164.1, fx_kk_164.2, fx_yk_164⟩
              · rcases Nat.lt_or_ge y 166 with h8 | h8
                · obtain rfl : y = 165 := by omega
                  exact ⟨fx_kk_165.1, fx_kk_165.2, fx_yk_165⟩
                · obtain rfl : y = 166 := by omega
                  exact ⟨fx_kk_166.1, fx_kk_166.2, fx_yk_166⟩
          · rcases Nat.lt_or_ge y 171 with h6 | h6
            · rcases Nat.lt_or_ge y 169 with h7 | h7
              · rcases Nat.lt_or_ge y 168 with h8 | h8
                · obtain rfl : y = 167 := by omega
                  exact ⟨fx_kk_167.1, fx_kk_167.2, fx_yk_167⟩
                · obtain rfl : y = 168 := by omega
                  exact ⟨fx_kk_168.1, fx_kk_168.2, fx_yk_168⟩
              · rcases Nat.lt_or_ge y 170 with h8 | h8
                · obtain rfl : y = 169 := by omega
                  exact ⟨fx_kk_169.1, fx_kk_169.2, fx_yk_169⟩
                · obtain rfl : y = 170 := by omega
                  exact ⟨fx_kk_170.1, fx_kk_170.2, fx_yk_170⟩
            · rcases Nat.lt_or_ge y 173 with h7 | h7
              · rcases Nat.lt_or_ge y 172 with h8 | h8
                · obtain rfl : y = 171 := by omega
                  exact ⟨fx_kk_171.1, fx_kk_171.2, fx_yk_171⟩
                · obtain rfl : y = 172 := by omega
                  exact ⟨fx_kk_172.1, fx_kk_172.2, fx_yk_172⟩
              · rcases Nat.lt_or_ge y 174 with h8 | h8
                · obtain rfl : y = 173 := by omega
                  exact ⟨fx_kk_173.1, fx_kk_173.2, fx_yk_173⟩
                · obtain rfl : y = 174 := by omega
                  exact ⟨fx_kk_174.1, fx_kk_174.2, fx_yk_174⟩
        · rcases Nat.lt_or_ge y 183 with h5 | h5
          · rcases Nat.lt_or_ge y 179 with h6 | h6
            · rcases Nat.lt_or_ge y 177 with h7 | h7
              · rcases Nat.lt_or_ge y 176 with h8 | h8
                · obtain rfl : y = 175 := by omega
                  exact ⟨fx_kk_175.1, fx_kk_175.2, fx_yk_175⟩
                · obtain rfl : y = 176 := by omega
                  exact ⟨fx_kk_176.1, fx_kk_176.2, fx_yk_176⟩
              · rcases Nat.lt_or_ge y 178 with h8 | h8
                · obtain rfl : y = 177 := by omega
                  exact ⟨fx_kk_177.1, fx_kk_177.2, fx_yk_177⟩
                · obtain rfl : y = 178 := by omega
                  exact ⟨fx_kk_178.1, fx_kk_178.2, fx_yk_178⟩
            · rcases Nat.lt_or_ge y 181 with h7 | h7
              · rcases Nat.lt_or_ge y 180 with h8 | h8
                · obtain rfl : y = 179 := by omega
                  exact ⟨fx_kk_179.1, fx_kk_179.2, fx_yk_179⟩
                · obtain rfl : y = 180 := by omega
                  exact ⟨fx_kk_180.1, fx_kk_180.2, fx_yk_180⟩
              · rcases Nat.lt_or_ge y 182 with h8 | h8
                · obtain rfl : y = 181 := by omega
                  exact ⟨fx_kk_181.1, fx_kk_181.2, fx_yk_181⟩
                · obtain rfl : y = 182 := by omega
                  exact ⟨fx_kk_182.1, fx_kk_182.2, fx_yk_182⟩
          · rcases Nat.lt_or_ge y 187 with h6 | h6
            · rcases Nat.lt_or_ge y 185 with h7 | h7
              · rcases Nat.lt_or_ge y 184 with h8 | h8
                · obtain rfl : y = 183 := by omega
                  exact ⟨fx_kk_183.1, fx_kk_183.2, fx_yk_183⟩
                · obtain rfl : y = 184 := by omega
                  exact ⟨fx_kk_184.1, fx_kk_184.2, fx_yk_184⟩
              · rcases Nat.lt_or_ge y 186 with h8 | h8
                · obtain rfl : y = 185 := by omega
                  exact ⟨fx_kk_185.1, fx_kk_185.2, fx_yk_185⟩
                · obtain rfl : y = 186 := by omega
                  exact ⟨fx_kk_186.1, fx_kk_186.2, fx_yk_186⟩
            · rcases Nat.lt_or_ge y 189 with h7 | h7
              · rcases Nat.lt_or_ge y 188 with h8 | h8
                · obtain rfl : y = 187 := by omega
                  exact ⟨fx_kk_187.1, fx_kk_187.2, fx_yk_187⟩
                · obtain rfl : y = 188 := by omega
                  exact ⟨fx_kk_188.1, fx_kk_188.2, fx_yk_188⟩
              · rcases Nat.lt_or_ge y 190 with h8 | h8
                · obtain rfl : y = 189 := by omega
                  exact ⟨fx_kk_189.1, fx_kk_189.2, fx_yk_189⟩
                · obtain rfl : y = 190 := by omega
                  exact ⟨fx_kk_190.1, fx_kk_190.2, fx_yk_190⟩
    · rcases Nat.lt_or_ge y 223 with h3 | h3
      · rcases Nat.lt_or_ge y 207 with h4 | h4
        · rcases Nat.lt_or_ge y 199 with h5 | h5
          · rcases Nat.lt_or_ge y 195 with h6 | h6
            · rcases Nat.lt_or_ge y 193 with h7 | h7
              · rcases Nat.lt_or_ge y 192 with h8 | h8
                · obtain rfl : y = 191 := by omega
                  exact ⟨fx_kk_191.1, fx_kk_191.2, fx_yk_191⟩
                · obtain rfl : y = 192 := by omega
                  exact ⟨fx_kk_192.1, fx_kk_192.2, fx_yk_192⟩
              · rcases Nat.lt_or_ge y 194 with h8 | h8
                · obtain rfl : y = 193 := by omega
                  exact ⟨fx_kk_193.1, fx_kk_193.2, fx_yk_193⟩
                · obtain rfl : y = 194 := by omega
                  exact ⟨fx_kk_194.1, fx_kk_194.2, fx_yk_194⟩
            · rcases Nat.lt_or_ge y 197 with h7 | h7
              · rcases Nat.lt_or_ge y 196 with h8 | h8
                · obtain rfl : y = 195 := by omega
                  exact ⟨fx_kk_195.1, fx_kk_195.2, fx_yk_195⟩
                · obtain rfl : y = 196 := by omega
                  exact ⟨fx_kk_196.1, fx_kk_196.2, fx_yk_196⟩
              · rcases Nat.lt_or_ge y 198 with h8 | h8
                · obtain rfl : y = 197 := by omega
                  exact ⟨fx_kk_197.1, fx_kk_197.2, fx_yk_197⟩
                · obtain rfl : y = 198 := by omega
                  exact ⟨fx_kk_198.1, fx_kk_198.2, fx_yk_198⟩
          · rcases Nat.lt_or_ge y 203 with h6 | h6
            · rcases Nat.lt_or_ge y 201 with h7 | h7
              · rcases Nat.lt_or_ge y 200 with h8 | h8
                · obtain rfl : y = 199 := by omega
                  exact ⟨fx_kk_199.1, fx_kk_199.2, fx_yk_199⟩
                · obtain rfl : y = 200 := by omega
                  exact ⟨fx_kk_200.1, fx_kk_200.2, fx_yk_200⟩
              · rcases Nat.lt_or_ge y 202 with h8 | h8
                · obtain rfl : y = 201 := by omega
                  exact ⟨fx_kk_201.1, fx_kk_201.2, fx_yk_201⟩
                · obtain rfl : y = 202 := by omega
                  exact ⟨fx_kk_202.1, fx_kk_202.2, fx_yk_202⟩
            · rcases Nat.lt_or_ge y 205 with h7 | h7
              · rcases Nat.lt_or_ge y 204 with h8 | h8
                · obtain rfl : y = 203 := by omega
                  exact ⟨fx_kk_203.1, fx_kk_203.2, fx_yk_203⟩
                · obtain rfl : y = 204 := by omega
                  exact ⟨fx_kk_204.1, fx_kk_204.2, fx_yk_204⟩
              · rcases Nat.lt_or_ge y 206 with h8 | h8
                · obtain rfl : y = 205 := by omega
                  exact ⟨fx_kk_205.1, fx_kk_205.2, fx_yk_205⟩
                · obtain rfl : y = 206 := by omega
                  exact ⟨fx_kk_206.1, fx_kk_206.2, fx_yk_206⟩
        · rcases Nat.lt_or_ge y 215 with h5 | h5
          · rcases Nat.lt_or_ge y 211 with h6 | h6
            · rcases Nat.lt_or_ge y 209 with h7 | h7
              · rcases Nat.lt_or_ge y 208 with h8 | h8
                · obtain rfl : y = 207 := by omega
                  exact ⟨fx_kk_207.1, fx_kk_207.2, fx_yk_207⟩
                · obtain rfl : y = 208 := by omega
                  exact ⟨fx_kk_208.1, fx_kk_208.2, fx_yk_208⟩
              · rcases Nat.lt_or_ge y 210 with h8 | h8
                · obtain rfl : y = 209 := by omega
                  exact ⟨fx_kk_209.1, fx_kk_209.2, fx_yk_209⟩
                · obtain rfl : y = 210 := by omega
                  exact ⟨fx_kk_210.1, fx_kk_210.2, fx_yk_210⟩
            · rcases Nat.lt_or_ge y 213 with h7 | h7
              · rcases Nat.lt_or_ge y 212 with h8 | h8
                · obtain rfl : y = 211 := by omega
                  exact ⟨fx_kk_211.1, fx_kk_211.2, fx_yk_211⟩
                · obtain rfl : y = 212 := by omega
                  exact ⟨fx_kk_212.1, fx_kk_212.2, fx_yk_212⟩
              · rcases Nat.lt_or_ge y 214 with h8 | h8
                · obtain rfl : y = 213 := by omega
                  exact ⟨fx_kk_213.1, fx_kk_213.2, fx_yk_213⟩
                · obtain rfl : y = 214 := by omega
                  exact ⟨fx_kk_214.1, fx_kk_214.2, fx_yk_214⟩
          · rcases Nat.lt_or_ge y 219 with h6 | h6
            · rcases Nat.lt_or_ge y 217 with h7 | h7
              · rcases Nat.lt_or_ge y 216 with h8 | h8
                · obtain rfl : y = 215 := by omega
                  exact ⟨fx_kk_215.1, fx_kk_215.2, fx_yk_215⟩
                · obtain rfl : y = 216 := by omega
                  exact ⟨fx_kk_216.1, fx_kk_216.2, fx_yk_216⟩
              · rcases Nat.lt_or_ge y 218 with h8 | h8
                · obtain rfl : y = 217 := by omega
                  exact ⟨fx_kk_217.1, fx_kk_217.2, fx_yk_217⟩
                · obtain rfl : y = 218 := by omega
                  exact ⟨fx_kk_218.1, fx_kk_218.2, fx_yk_218⟩
            · rcases Nat.lt_or_ge y 221 with h7 | h7
              · rcases Nat.lt_or_ge y 220 with h8 | h8
                · obtain rfl : y = 219 := by omega
                  exact ⟨fx_kk_219.1, fx_kk_219.2, fx_yk_219⟩
                · obtain rfl : y = 220 := by omega
                  exact ⟨fx_kk_220.1, fx_kk_220.2, fx_yk_220⟩
              · rcases Nat.lt_or_ge y 222 with h8 | h8
                · obtain rfl : y = 221 := by omega
                  exact ⟨fx_kk_221.1, fx_kk_221.2, fx_yk_221⟩
                · obtain rfl : y = 222 := by omega
                  exact ⟨fx_kk_222.1, fx_kk_222.2, fx_yk_222⟩
      · rcases Nat.lt_or_ge y 239 with h4 | h4
        · rcases Nat.lt_or_ge y 231 with h5 | h5
          · rcases Nat.lt_or_ge y 227 with h6 | h6
            · rcases Nat.lt_or_ge y 225 with h7 | h7
              · rcases Nat.lt_or_ge y 224 with h8 | h8
                · obtain rfl : y = 223 := by omega
                  exact ⟨fx_kk_223.1, fx_kk_223.2, fx_yk_223⟩
                · obtain rfl : y = 224 := by omega
                  exact ⟨fx_kk_224.1, fx_kk_224.2, fx_yk_224⟩
              · rcases Nat.lt_or_ge y 226 with h8 | h8
                · obtain rfl : y = 225 := by omega
                  exact ⟨fx_kk_225.1, fx_kk_225.2, fx_yk_225⟩
                · obtain rfl : y = 226 := by omega
                  exact ⟨fx_kk_226.1, fx_kk_226.2, fx_yk_226⟩
            · rcases Nat.lt_or_ge y 229 with h7 | h7
              · rcases Nat.lt_or_ge y 228 with h8 | h8
                · obtain rfl : y = 227 := by omega
                  exact ⟨fx_kk_227.1, fx_kk_227.2, fx_yk_227⟩
                · obtain rfl : y = 228 := by omega
                  exact ⟨fx_kk_228.1, fx_kk_228.2, fx_yk_228⟩
              · rcases Nat.lt_or_ge y 230 with h8 | h8
                · obtain rfl : y = 229 := by omega
                  exact ⟨fx_kk_229.1, fx_kk_229.2, fx_yk_229⟩
                · obtain rfl : y = 230 := by omega
                  exact ⟨fx_kk_230.1, fx_kk_230.2, fx_yk_230⟩
          · rcases Nat.lt_or_ge y 235 with h6 | h6
            · rcases Nat.lt_or_ge y 233 with h7 | h7
              · rcases Nat.lt_or_ge y 232 with h8 | h8
                · obtain rfl : y = 231 := by omega
                  exact ⟨fx_kk_231.1, fx_kk_231.2, fx_yk_231⟩
                · obtain rfl : y = 232 := by omega
                  exact ⟨fx_kk_232.1, fx_kk_232.2, fx_yk_232⟩
              · rcases Nat.lt_or_ge y 234 with h8 | h8
                · obtain rfl : y = 233 := by omega
                  exact ⟨fx_kk_233.1, fx_kk_233.2, fx_yk_233⟩
                · obtain rfl : y = 234 := by omega
                  exact ⟨fx_kk_234.1, fx_kk_234.2, fx_yk_234⟩
            · rcases Nat.lt_or_ge y 237 with h7 | h7
              · rcases Nat.lt_or_ge y 236 with h8 | h8
                · obtain rfl : y = 235 := by omega
                  exact ⟨fx_kk_235.1, fx_kk_235.2, fx_yk_235⟩
                · obtain rfl : y = 236 := by omega
                  exact ⟨fx_kk_236.1, fx_kk_236.2, fx_yk_236⟩
              · rcases Nat.lt_or_ge y 238 with h8 | h8
                · obtain rfl : y = 237 := by omega
                  exact ⟨fx_kk_237.1, fx_kk_237.2, fx_yk_237⟩
                · obtain rfl : y = 238 := by omega
                  exact ⟨fx_kk_238.1, fx_kk_238.2, fx_yk_238⟩
        · rcases Nat.lt_or_ge y 247 with h5 | h5
          · rcases Nat.lt_or_ge y 243 with h6 | h6
            · rcases Nat.lt_or_ge y 241 with h7 | h7
              · rcases Nat.lt_or_ge y 240 with h8 | h8
                · obtain rfl : y = 239 := by omega
                  exact ⟨fx_kk_239.1, fx_kk_239.2, fx_yk_239⟩
                · obtain rfl : y = 240 := by omega
                  exact ⟨fx_kk_240.1, fx_kk_240.2, fx_yk_240⟩
              · rcases Nat.lt_or_ge y 242 with h8 | h8
                · obtain rfl : y = 241 := by omega
                  exact ⟨fx_kk_241.1, fx_kk_241.2, fx_yk_241⟩
                · obtain rfl : y = 242 := by omega
                  exact ⟨fx_kk_242.1, fx_kk_242.2, fx_yk_242⟩
            · rcases Nat.lt_or_ge y 245 with h7 | h7
              · rcases Nat.lt_or_ge y 244 with h8 | h8
                · obtain rfl : y = 243 := by omega
                  exact ⟨fx_kk_243.1, fx_kk_243.2, fx_yk_243⟩
                · obtain rfl : y = 244 := by omega
                  exact ⟨fx_kk_244.1, fx_kk_244.2, fx_yk_244⟩
              · rcases Nat.lt_or_ge y 246 with h8 | h8
                · obtain rfl : y = 245 := by omega
                  exact ⟨fx_kk_245.1, fx_kk_245.2, fx_yk_245⟩
                · obtain rfl : y = 246 := by omega
                  exact ⟨fx_kk_246.1, fx_kk_246.2, fx_yk_246⟩
          · rcases Nat.lt_or_ge y 251 with h6 | h6
            · rcases Nat.lt_or_ge y 249 with h7 | h7
              · rcases Nat.lt_or_ge y 248 with h8 | h8
                · obtain rfl : y = 247 := by omega
                  exact ⟨fx_kk_247.1, fx_kk_247.2, fx_yk_247⟩
                · obtain rfl : y = 248 := by omega
                  exact ⟨fx_kk_248.1, fx_kk_248.2, fx_yk_248⟩
              · rcases Nat.lt_or_ge y 250 with h8 | h8
                · obtain rfl : y = 249 := by omega
                  exact ⟨fx_kk_249.1, fx_kk_249.2, fx_yk_249⟩
                · obtain rfl : y = 250 := by omega
                  exact ⟨fx_kk_250.1, fx_kk_250.2, fx_yk_250⟩
            · rcases Nat.lt_or_ge y 253 with h7 | h7
              · rcases Nat.lt_or_ge y 252 with h8 | h8
                · obtain rfl : y = 251 := by omega
                  exact ⟨fx_kk_251.1, fx_kk_251.2, fx_yk_251⟩
                · obtain rfl : y = 252 := by omega
                  exact ⟨fx_kk_252.1, fx_kk_252.2, fx_yk_252⟩
              · rcases Nat.lt_or_ge y 254 with h8 | h8
                · obtain rfl : y = 253 := by omega
                  exact ⟨fx_kk_253.1, fx_kk_253.2, fx_yk_253⟩
                · obtain rfl : y = 254 := by omega
                  exact ⟨fx_kk_254.1, fx_kk_254.2, fx_yk_254⟩
/-- what a call does, by how deep calls go -/
def fx_Ga : Nat → fxGa
  | 0 => fun _ _ _ _ _ => False
  | d + 1 => fun y av h r h' =>
    (y = 255 ∧ ∃ j, j < 18 ∧ av = [.inr (.inr (some (92, j)))] ∧ r = some (.inl (Int32.ofNat (fx_slen.getD j 0))) ∧ h = h') ∨
    (y = 256 ∧ 2 ≤ d ∧ ∃ j i, j < 18 ∧ (0 ≤ i.toInt ∧ i.toInt < (fx_slen.getD j 0 : Int)) ∧ av = [.inr (.inr (some (92, j))), .inl i] ∧ r = some (.inl (fx_chr ((fx_sbyt.getD j []).getD i.toNatClampNeg 0))) ∧ h = h') ∨
    (y < 255 ∧ (fx_sl av).length ≤ (fx_Y y).2.1.1.2.2.1 ∧ ∃ N, fx_R fx_Y (fx_Ga d) (fx_Y y).2.1 N (0, fx_ent (fx_Y y).2.1.1.2.2.1 av, [], h, 0, 0) r h')
theorem fx_Ga_sound (l : Launch) (A : Nat → Prop) (D : va_G) (aC : Nat → ClassId) (X : fxX) : ∀ d, fx_sound l A D aC X fx_Y d (fx_Ga d) := by
  intro d
  induction d with
  | zero => intro y av h r h' hg; exact hg.elim
  | succ d ih =>
    intro y av h r h' hg
    rcases hg with ⟨rfl, j, hj, rfl, rfl, rfl⟩ | ⟨rfl, hd, j, i, hj, hi, rfl, rfl, rfl⟩ | ⟨hy, hlen, N, hN⟩
    · exact ⟨fx_yk_255, fun ad L => fx_m_len l d j hj ad L h⟩
    · obtain ⟨d, rfl⟩ : ∃ d', d = d' + 2 := ⟨d - 2, by omega⟩
      exact ⟨fx_yk_256, fun ad L => fx_m_cha l d j i hj hi ad L h⟩
    · obtain ⟨k1, k2, k3⟩ := fx_allk y hy
      exact ⟨k3, fun ad L => fx_met ih k3 k1 k2 hlen hN ad L⟩

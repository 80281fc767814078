theorem d_Lw_law_834 : decode b_Lw_law 834 = .ok (.iload_n 3, 1) := by decide +kernel
theorem d_Lw_law_835 : decode b_Lw_law 835 = .ok (.iconst 1, 1) := by decide +kernel
theorem d_Lw_law_836 : decode b_Lw_law 836 = .ok (.iadd, 1) := by decide +kernel
theorem d_Lw_law_837 : decode b_Lw_law 837 = .ok (.iaload, 1) := by decide +kernel
theorem d_Lw_law_838 : decode b_Lw_law 838 = .ok (.aload_n 0, 1) := by decide +kernel
theorem d_Lw_law_839 : decode b_Lw_law 839 = .ok (.iload_n 3, 1) := by decide +kernel
theorem d_Lw_law_840 : decode b_Lw_law 840 = .ok (.iconst 2, 1) := by decide +kernel
theorem d_Lw_law_841 : decode b_Lw_law 841 = .ok (.iadd, 1) := by decide +kernel
theorem d_Lw_law_842 : decode b_Lw_law 842 = .ok (.iaload, 1) := by decide +kernel
theorem d_Lw_law_843 : decode b_Lw_law 843 = .ok (.invokevirtual 111, 3) := by decide +kernel
theorem d_Lw_law_846 : decode b_Lw_law 846 = .ok (.lcmp, 1) := by decide +kernel
theorem d_Lw_law_847 : decode b_Lw_law 847 = .ok (.ifCond .eq 61, 3) := by decide +kernel
theorem d_Lw_law_850 : decode b_Lw_law 850 = .ok (.iconst 0, 1) := by decide +kernel
theorem d_Lw_law_851 : decode b_Lw_law 851 = .ok (.ireturn, 1) := by decide +kernel
theorem d_Lw_law_852 : decode b_Lw_law 852 = .ok (.aload_n 1, 1) := by decide +kernel
theorem d_Lw_law_853 : decode b_Lw_law 853 = .ok (.aload_n 0, 1) := by decide +kernel
theorem d_Lw_law_854 : decode b_Lw_law 854 = .ok (.iload_n 3, 1) := by decide +kernel
theorem d_Lw_law_855 : decode b_Lw_law 855 = .ok (.iconst 1, 1) := by decide +kernel
theorem d_Lw_law_856 : decode b_Lw_law 856 = .ok (.iadd, 1) := by decide +kernel
theorem d_Lw_law_857 : decode b_Lw_law 857 = .ok (.iaload, 1) := by decide +kernel
theorem d_Lw_law_858 : decode b_Lw_law 858 = .ok (.aload_n 0, 1) := by decide +kernel
theorem d_Lw_law_859 : decode b_Lw_law 859 = .ok (.iload_n 3, 1) := by decide +kernel
theorem d_Lw_law_860 : decode b_Lw_law 860 = .ok (.iconst 2, 1) := by decide +kernel
theorem d_Lw_law_861 : decode b_Lw_law 861 = .ok (.iadd, 1) := by decide +kernel
theorem d_Lw_law_862 : decode b_Lw_law 862 = .ok (.iaload, 1) := by decide +kernel
theorem d_Lw_law_863 : decode b_Lw_law 863 = .ok (.invokevirtual 112, 3) := by decide +kernel
theorem d_Lw_law_866 : decode b_Lw_law 866 = .ok (.aload_n 2, 1) := by decide +kernel
theorem d_Lw_law_867 : decode b_Lw_law 867 = .ok (.aload_n 0, 1) := by decide +kernel
theorem d_Lw_law_868 : decode b_Lw_law 868 = .ok (.iload_n 3, 1) := by decide +kernel
theorem d_Lw_law_869 : decode b_Lw_law 869 = .ok (.iconst 1, 1) := by decide +kernel
theorem d_Lw_law_870 : decode b_Lw_law 870 = .ok (.iadd, 1) := by decide +kernel
theorem d_Lw_law_871 : decode b_Lw_law 871 = .ok (.iaload, 1) := by decide +kernel
theorem d_Lw_law_872 : decode b_Lw_law 872 = .ok (.aload_n 0, 1) := by decide +kernel
theorem d_Lw_law_873 : decode b_Lw_law 873 = .ok (.iload_n 3, 1) := by decide +kernel
theorem d_Lw_law_874 : decode b_Lw_law 874 = .ok (.iconst 2, 1) := by decide +kernel
theorem d_Lw_law_875 : decode b_Lw_law 875 = .ok (.iadd, 1) := by decide +kernel
theorem d_Lw_law_876 : decode b_Lw_law 876 = .ok (.iaload, 1) := by decide +kernel
theorem d_Lw_law_877 : decode b_Lw_law 877 = .ok (.invokevirtual 115, 3) := by decide +kernel
theorem d_Lw_law_880 : decode b_Lw_law 880 = .ok (.if_icmp .eq 28, 3) := by decide +kernel
theorem d_Lw_law_883 : decode b_Lw_law 883 = .ok (.iconst 0, 1) := by decide +kernel
theorem d_Lw_law_884 : decode b_Lw_law 884 = .ok (.ireturn, 1) := by decide +kernel
theorem d_Lw_law_885 : decode b_Lw_law 885 = .ok (.aload_n 1, 1) := by decide +kernel
theorem d_Lw_law_886 : decode b_Lw_law 886 = .ok (.aload_n 0, 1) := by decide +kernel
theorem d_Lw_law_887 : decode b_Lw_law 887 = .ok (.iload_n 3, 1) := by decide +kernel
theorem d_Lw_law_888 : decode b_Lw_law 888 = .ok (.iconst 1, 1) := by decide +kernel
theorem d_Lw_law_889 : decode b_Lw_law 889 = .ok (.iadd, 1) := by decide +kernel
theorem d_Lw_law_890 : decode b_Lw_law 890 = .ok (.iaload, 1) := by decide +kernel
theorem d_Lw_law_891 : decode b_Lw_law 891 = .ok (.invokevirtual 116, 3) := by decide +kernel
theorem d_Lw_law_894 : decode b_Lw_law 894 = .ok (.aload_n 2, 1) := by decide +kernel
theorem d_Lw_law_895 : decode b_Lw_law 895 = .ok (.aload_n 0, 1) := by decide +kernel
theorem d_Lw_law_896 : decode b_Lw_law 896 = .ok (.iload_n 3, 1) := by decide +kernel
theorem d_Lw_law_897 : decode b_Lw_law 897 = .ok (.iconst 1, 1) := by decide +kernel
theorem d_Lw_law_898 : decode b_Lw_law 898 = .ok (.iadd, 1) := by decide +kernel
theorem d_Lw_law_899 : decode b_Lw_law 899 = .ok (.iaload, 1) := by decide +kernel
theorem d_Lw_law_900 : decode b_Lw_law 900 = .ok (.invokevirtual 119, 3) := by decide +kernel
theorem d_Lw_law_903 : decode b_Lw_law 903 = .ok (.if_icmp .eq 5, 3) := by decide +kernel
theorem d_Lw_law_906 : decode b_Lw_law 906 = .ok (.iconst 0, 1) := by decide +kernel
theorem d_Lw_law_907 : decode b_Lw_law 907 = .ok (.ireturn, 1) := by decide +kernel
theorem d_Lw_law_908 : decode b_Lw_law 908 = .ok (.iinc 3 5, 3) := by decide +kernel
theorem d_Lw_law_911 : decode b_Lw_law 911 = .ok (.goto (-873), 3) := by decide +kernel
theorem d_Lw_law_914 : decode b_Lw_law 914 = .ok (.iconst 1, 1) := by decide +kernel
theorem d_Lw_law_915 : decode b_Lw_law 915 = .ok (.ireturn, 1) := by decide +kernel

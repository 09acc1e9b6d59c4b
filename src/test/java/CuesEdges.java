/** What the document says at the edges of promises 5 to 8, and of term 2: a sentence, and the runs that hold it. */
final class CuesEdges {
    static final String CUE = "cue 0 -1 1 0 0;";
    /** Nine BARS of the CUE 0, of the least METER and CLICK. */
    static final String LEAST_BARS = "bar 0 2 24;".repeat(9);
    /** Nine BARS of the CUE 0, of the greatest METER and CLICK: 63 BEATS, 2520 FRAMES. */
    static final String GREATEST_BARS = "bar 0 7 160;".repeat(9);

    private final Run run;

    CuesEdges(Run run) {
        this.run = run;
    }

    void all() {
        cueTheme();
        cueStart();
        cueNumbers();
        cueMost();
        cueInOrder();
        barCue();
        barMeterAndClick();
        barMost();
        barInOrder();
        retimeCueAndBar();
        retimeMeterAndClick();
        retimeEdition();
        retimeInOrder();
        shiftCueAndStart();
        shiftInOrder();
        shiftMeets();
        beatsAreRounded();
        runsOver();
        spoils();
        clashes();
        editions();
    }

    private void cueTheme() {
        run.of("5: IndexOutOfBoundsException if theme is neither NONE nor a THEME, without THEMES", """
            cue 0 -2 1 0 0 = INDEX; cue 0 0 1 0 0 = INDEX; cue 0 -1 1 0 0 = 0; ofCue 0 1 = -1
            """);
        run.of("5: IndexOutOfBoundsException if theme is neither NONE nor a THEME, with one", """
            theme 5; cue 0 -2 1 0 0 = INDEX; cue 0 1 1 0 0 = INDEX; cue 0 0 1 0 0 = 0; ofCue 0 1 = 0
            cue 0 -2147483648 1 0 0 = INDEX; cue 0 2147483647 1 0 0 = INDEX
            """);
        run.of("5: IndexOutOfBoundsException if theme is neither NONE nor a THEME, with four", """
            theme 5; theme 5; theme 5; theme 5; cue 0 4 1 0 0 = INDEX; cue 0 3 1 0 0 = 0; ofCue 0 1 = 3
            """);
    }

    private void cueStart() {
        run.of("5: IllegalArgumentException if start is not 0 to LENGTH", """
            cue -1 -1 1 0 0 = ARGUMENT; cue 0 -1 1 0 0 = 0; ofCue 0 0 = 0
            cue 2401 -1 1 0 0 = ARGUMENT; cue 2400 -1 1 0 0 = 1; ofCue 1 0 = 2400
            cue -2147483648 -1 1 0 0 = ARGUMENT; cue 2147483647 -1 1 0 0 = ARGUMENT
            """);
        run.of("5: LENGTH of a longer picture", "change 0 1; cue 2402 -1 1 0 0 = ARGUMENT; cue 2401 -1 1 0 0 = 0");
        run.of("5: LENGTH of a shorter picture", "change 0 -1; cue 2400 -1 1 0 0 = ARGUMENT; cue 2399 -1 1 0 0 = 0");
        run.of("5: LENGTH of the shortest picture",
            PictureEdges.LEAST_PICTURE + "cue 25 -1 1 0 0 = ARGUMENT; cue 24 -1 1 0 0 = 0");
        run.of("5: LENGTH of the longest picture",
            PictureEdges.GREATEST_PICTURE + "cue 22381 -1 1 0 0 = ARGUMENT; cue 22380 -1 1 0 0 = 0; ofCue 0 0 = 22380");
    }

    private void cueNumbers() {
        run.of("5: IllegalArgumentException if players is not 1 to 40", """
            cue 0 -1 0 0 0 = ARGUMENT; cue 0 -1 1 0 0 = 0; ofCue 0 2 = 1
            cue 0 -1 41 0 0 = ARGUMENT; cue 0 -1 40 0 0 = 1; ofCue 1 2 = 40
            cue 0 -1 -2147483648 0 0 = ARGUMENT; cue 0 -1 2147483647 0 0 = ARGUMENT
            """);
        run.of("5: IllegalArgumentException if writer is not 0 to 3", """
            cue 0 -1 1 -1 0 = ARGUMENT; cue 0 -1 1 0 0 = 0; ofCue 0 3 = 0
            cue 0 -1 1 4 0 = ARGUMENT; cue 0 -1 1 3 0 = 1; ofCue 1 3 = 3
            cue 0 -1 1 -2147483648 0 = ARGUMENT; cue 0 -1 1 2147483647 0 = ARGUMENT
            """);
        run.of("5: IllegalArgumentException if use is not 0 to 2", """
            cue 0 -1 1 0 -1 = ARGUMENT; cue 0 -1 1 0 0 = 0; ofCue 0 4 = 0
            cue 0 -1 1 0 3 = ARGUMENT; cue 0 -1 1 0 2 = 1; ofCue 1 4 = 2
            cue 0 -1 1 0 -2147483648 = ARGUMENT; cue 0 -1 1 0 2147483647 = ARGUMENT
            """);
        run.of("5: it is told without BARS, its EDITION is 0 at first, and its END is its START",
            "cue 77 -1 1 0 0; ofCue 0 5 = 0; ofCue 0 6 = 0; ofCue 0 7 = 0; ofCue 0 8 = 77");
    }

    private void cueMost() {
        run.of("5: IllegalStateException if there are 8", "theme 3;" + CUE.repeat(7)
            + "cue 2 0 3 1 2 = 7; cue 2 0 3 1 2 = STATE; many 6 = 8; ofCue 7 2 = 3; ofCue 8 0 = INDEX");
    }

    private void cueInOrder() {
        run.of("5: in the order of the document, with no such THEME", CUE.repeat(8) + """
            cue 0 0 1 0 0 = INDEX; cue 0 -2 1 0 0 = INDEX
            cue -1 0 1 0 0 = INDEX; cue 0 0 0 0 0 = INDEX; cue 0 0 1 4 0 = INDEX; cue 0 0 1 0 3 = INDEX
            cue 2401 -2 41 -1 -1 = INDEX
            """);
        run.of("5: in the order of the document, with eight CUES", CUE.repeat(8) + """
            cue -1 -1 1 0 0 = ARGUMENT; cue 2401 -1 1 0 0 = ARGUMENT
            cue 0 -1 0 0 0 = ARGUMENT; cue 0 -1 41 0 0 = ARGUMENT
            cue 0 -1 1 -1 0 = ARGUMENT; cue 0 -1 1 4 0 = ARGUMENT
            cue 0 -1 1 0 -1 = ARGUMENT; cue 0 -1 1 0 3 = ARGUMENT
            """);
        run.of("5: in the order of the document, with room", """
            cue -1 0 1 0 0 = INDEX; cue 0 -2 0 0 0 = INDEX; cue 0 0 1 4 0 = INDEX; cue 0 -2 1 0 3 = INDEX
            """);
    }

    private void barCue() {
        run.of("6: IndexOutOfBoundsException if there is no such CUE", CUE + """
            bar -1 2 24 = INDEX; bar 1 2 24 = INDEX; bar 0 2 24 = 0
            bar -2147483648 2 24 = INDEX; bar 2147483647 2 24 = INDEX
            """);
        run.of("6: IndexOutOfBoundsException if there is no such CUE of eight",
            CUE.repeat(8) + "bar 8 2 24 = INDEX; bar 7 2 24 = 0");
    }

    private void barMeterAndClick() {
        run.of("6: IllegalArgumentException if meter is not 2 to 7", CUE + """
            bar 0 1 24 = ARGUMENT; bar 0 2 24 = 0; ofBar 0 0 0 = 2
            bar 0 8 24 = ARGUMENT; bar 0 7 24 = 1; ofBar 0 1 0 = 7
            bar 0 -2147483648 24 = ARGUMENT; bar 0 2147483647 24 = ARGUMENT; ofCue 0 5 = 2
            """);
        run.of("6: IllegalArgumentException if click is not 24 to 160", CUE + """
            bar 0 2 23 = ARGUMENT; bar 0 2 24 = 0; ofBar 0 0 1 = 24
            bar 0 2 161 = ARGUMENT; bar 0 2 160 = 1; ofBar 0 1 1 = 160
            bar 0 2 -2147483648 = ARGUMENT; bar 0 2 2147483647 = ARGUMENT; ofCue 0 5 = 2
            """);
    }

    private void barMost() {
        run.of("6: IllegalStateException if there are 9", CUE + "bar 0 2 24;".repeat(8)
            + "bar 0 3 25 = 8; bar 0 3 25 = STATE; ofCue 0 6 = 9; ofCue 0 5 = 9; ofBar 0 8 0 = 3; ofBar 0 9 0 = INDEX");
        run.of("6: the least nine BARS", CUE + LEAST_BARS
            + "ofCue 0 7 = 18; ofCue 0 8 = 108; beat 0 17 = 102; beat 0 18 = INDEX; bar 0 2 24 = STATE");
        run.of("6: the greatest nine BARS", CUE + GREATEST_BARS
            + "ofCue 0 7 = 63; ofCue 0 8 = 2520; beat 0 62 = 2480; beat 0 63 = INDEX; bar 0 7 160 = STATE");
        run.of("6: as many in each CUE", CUE + CUE + LEAST_BARS + "bar 1 2 24 = 0; bar 0 2 24 = STATE");
    }

    private void barInOrder() {
        run.of("6: in the order of the document", CUE + LEAST_BARS + """
            bar 1 1 24 = INDEX; bar -1 2 161 = INDEX; bar 1 8 23 = INDEX
            bar 0 1 24 = ARGUMENT; bar 0 8 24 = ARGUMENT; bar 0 2 23 = ARGUMENT; bar 0 2 161 = ARGUMENT
            bar 0 2 24 = STATE
            """);
    }

    private void retimeCueAndBar() {
        run.of("7: IndexOutOfBoundsException if there is no such CUE", CUE + "bar 0 2 24;" + """
            retime -1 0 2 24 = INDEX; retime 1 0 2 24 = INDEX; retime 0 0 2 24 = 12
            retime -2147483648 0 2 24 = INDEX; retime 2147483647 0 2 24 = INDEX
            """);
        run.of("7: IndexOutOfBoundsException if there is no such BAR of it", CUE + CUE + "bar 1 2 24; bar 0 2 24;"
            + "bar 0 2 24;" + """
            retime 0 -1 2 24 = INDEX; retime 0 2 2 24 = INDEX; retime 1 1 2 24 = INDEX
            retime 0 0 2 24 = 24; retime 0 1 2 24 = 24; retime 1 0 2 24 = 12
            retime 0 -2147483648 2 24 = INDEX; retime 0 2147483647 2 24 = INDEX
            """);
        run.of("7: IndexOutOfBoundsException without BARS", CUE + "retime 0 0 2 24 = INDEX; retime 0 -1 2 24 = INDEX");
        run.of("7: IndexOutOfBoundsException with nine BARS",
            CUE + LEAST_BARS + "retime 0 9 2 24 = INDEX; retime 0 8 2 24 = 108");
    }

    private void retimeMeterAndClick() {
        run.of("7: IllegalArgumentException if meter is not 2 to 7", CUE + "bar 0 3 40;" + """
            retime 0 0 1 40 = ARGUMENT; retime 0 0 2 40 = 20; ofBar 0 0 0 = 2
            retime 0 0 8 40 = ARGUMENT; retime 0 0 7 40 = 70; ofBar 0 0 0 = 7
            retime 0 0 -2147483648 40 = ARGUMENT; retime 0 0 2147483647 40 = ARGUMENT
            """);
        run.of("7: IllegalArgumentException if click is not 24 to 160", CUE + "bar 0 3 40;" + """
            retime 0 0 3 23 = ARGUMENT; retime 0 0 3 24 = 18; ofBar 0 0 1 = 24
            retime 0 0 3 161 = ARGUMENT; retime 0 0 3 160 = 120; ofBar 0 0 1 = 160
            retime 0 0 3 -2147483648 = ARGUMENT; retime 0 0 3 2147483647 = ARGUMENT
            """);
    }

    private void retimeEdition() {
        run.of("7: also, if nothing is another one by that", CUE + "bar 0 3 40; open 1; take 0 5 0;"
            + "ofTake 0 3 = 1; retime 0 0 3 40 = 30; ofCue 0 5 = 2; ofTake 0 3 = 0; ofCue 0 11 = 0");
        run.of("7: a refused one is none", CUE + "bar 0 3 40; open 1; take 0 5 0;"
            + "retime 0 0 1 40 = ARGUMENT; retime 0 1 3 40 = INDEX; ofCue 0 5 = 1; ofTake 0 3 = 1");
        run.of("7: END of a CUE at LENGTH", "cue 2400 -1 1 0 0; bar 0 2 24; retime 0 0 7 160 = 2680");
    }

    private void retimeInOrder() {
        run.of("7: in the order of the document", CUE + "bar 0 2 24;" + """
            retime 1 0 1 24 = INDEX; retime -1 0 2 161 = INDEX; retime 0 1 1 24 = INDEX; retime 0 -1 2 23 = INDEX
            retime 0 0 1 23 = ARGUMENT; retime 0 0 8 161 = ARGUMENT
            """);
    }

    private void shiftCueAndStart() {
        run.of("8: IndexOutOfBoundsException if there is no such CUE", CUE + """
            shift -1 5 = INDEX; shift 1 5 = INDEX; shift 0 5 = 0
            shift -2147483648 5 = INDEX; shift 2147483647 5 = INDEX
            """);
        run.of("8: IllegalArgumentException if start is not 0 to LENGTH", CUE + """
            shift 0 -1 = ARGUMENT; shift 0 2401 = ARGUMENT; shift 0 2400 = 0; ofCue 0 0 = 2400
            shift 0 0 = 0; ofCue 0 0 = 0; shift 0 -2147483648 = ARGUMENT; shift 0 2147483647 = ARGUMENT
            """);
        run.of("8: LENGTH of a longer picture", CUE + "change 1 1; shift 0 2402 = ARGUMENT; shift 0 2401 = 0");
        run.of("8: LENGTH of a shorter picture", CUE + "change 1 -1; shift 0 2400 = ARGUMENT; shift 0 2399 = 0");
        run.of("8: LENGTH of the shortest picture",
            CUE + PictureEdges.LEAST_PICTURE + "shift 0 25 = ARGUMENT; shift 0 24 = 0");
        run.of("8: LENGTH of the longest picture",
            CUE + PictureEdges.GREATEST_PICTURE + "shift 0 22381 = ARGUMENT; shift 0 22380 = 0");
    }

    private void shiftInOrder() {
        run.of("8: in the order of the document", CUE + "shift 1 -1 = INDEX; shift -1 2401 = INDEX; shift 0 -1 = ARGUMENT");
    }

    private void shiftMeets() {
        run.of("8: it returns how many HITS are MET then: none of none", CUE + "bar 0 2 24; shift 0 7 = 0");
        run.of("8: it returns how many HITS are MET then: none without BEATS", CUE + "hit 7 9; shift 0 7 = 0");
        run.of("8: it returns how many HITS are MET then: all, and all but those that are GONE",
            CUE + "bar 0 2 24;" + "hit 7 0;".repeat(11) + "hit 8 0; shift 0 7 = 11; change 8 -1; shift 0 7 = 11;"
            + "change 7 -1; shift 0 7 = 0");
    }

    private void beatsAreRounded() {
        run.of("6: a BEAT is rounded down, END is rounded up: 3 quarters more", "cue 10 -1 1 0 0; bar 0 3 25;"
            + "beat 0 0 = 10; beat 0 1 = 16; beat 0 2 = 22; beat 0 3 = INDEX; ofCue 0 8 = 29");
        run.of("6: a BEAT is rounded down, END is rounded up: 2 quarters more",
            "cue 10 -1 1 0 0; bar 0 2 27; beat 0 1 = 16; ofCue 0 8 = 24");
        run.of("6: a BEAT is rounded down, END is rounded up: 1 quarter more",
            "cue 10 -1 1 0 0; bar 0 3 27; beat 0 1 = 16; beat 0 2 = 23; ofCue 0 8 = 31");
        run.of("6: neither is rounded without a rest", "cue 10 -1 1 0 0; bar 0 2 28; beat 0 1 = 17; ofCue 0 8 = 24");
        run.of("6: what is left of a BAR goes on into the next one", "cue 10 -1 1 0 0; bar 0 3 25; bar 0 2 25;"
            + "beat 0 3 = 28; beat 0 4 = 35; ofCue 0 8 = 42; ofBar 0 1 2 = 3; ofBar 0 1 3 = 28");
    }

    private void runsOver() {
        run.of("13: it RUNS OVER, if END is above LENGTH", "cue 2388 -1 1 0 0; bar 0 2 24; ofCue 0 8 = 2400;"
            + "ofCue 0 9 = 0; many 7 = 0; shift 0 2389; ofCue 0 8 = 2401; ofCue 0 9 = 1; many 7 = 1");
        run.of("13: it does not RUN OVER without BARS", "cue 2400 -1 1 0 0; ofCue 0 8 = 2400; ofCue 0 9 = 0; many 7 = 0");
        run.of("13: it RUNS OVER, as LENGTH is less", "cue 2380 -1 1 0 0; bar 0 2 24; ofCue 0 9 = 0;"
            + "change 2392 -8; ofCue 0 9 = 0; ofCue 0 5 = 1; change 2391 -1; ofCue 0 9 = 1; ofCue 0 5 = 2");
        run.of("13: all RUN OVER", "cue 2400 -1 1 0 0;".repeat(8)
            + "bar %d 2 24;".repeat(8).formatted(0, 1, 2, 3, 4, 5, 6, 7) + "many 7 = 8; shift 4 0; many 7 = 7");
    }

    private void spoils() {
        run.of("13: it SPOILS, if its START is ahead of the REVEAL", "theme 100; cue 99 0 1 0 0; ofCue 0 10 = 1;"
            + "many 8 = 1; shift 0 100; ofCue 0 10 = 0; many 8 = 0; shift 0 101; ofCue 0 10 = 0");
        run.of("13: it does not SPOIL without a THEME", "theme 2400; cue 0 -1 1 0 0; ofCue 0 10 = 0; many 8 = 0");
        run.of("13: it does not SPOIL with a REVEAL of 0", "theme 0; cue 0 0 1 0 0; ofCue 0 10 = 0");
        run.of("13: all SPOIL", "theme 1; theme 1; theme 1; theme 1;" + "cue 0 3 1 0 0;".repeat(8)
            + "many 8 = 8; shift 0 1; many 8 = 7");
    }

    private void clashes() {
        String two = "cue 100 -1 1 0 0; bar 0 2 40; cue 120 -1 1 0 0; bar 1 2 40;";
        run.of("18: they CLASH, if they have a FRAME in common: none", two + "many 9 = 0; shift 1 80; many 9 = 0");
        run.of("18: they CLASH, if they have a FRAME in common: one", two
            + "shift 1 119; many 9 = 1; shift 1 81; many 9 = 1");
        run.of("18: they CLASH, if they have a FRAME in common: all", two + "shift 1 100; many 9 = 1");
        run.of("18: a FRAME that is not full is one too", "cue 0 -1 1 0 0; bar 0 3 27; ofCue 0 8 = 21;"
            + "cue 20 -1 1 0 0; bar 1 2 24; many 9 = 1; shift 1 21; many 9 = 0");
        run.of("18: they CLASH, though the FRAME that they have in common is not in the picture", """
            cue 2390 -1 1 0 0; bar 0 2 40; cue 2400 -1 1 0 0; bar 1 2 40; ofCue 0 8 = 2410; many 9 = 1
            change 2390 -10; ofCue 0 0 = 2390; ofCue 1 0 = 2390; many 0 = 2390; many 9 = 1
            """);
        run.of("18: a CUE without BARS has no FRAME", two + "cue 110 -1 1 0 0; cue 110 -1 1 0 0; many 9 = 0");
        run.of("18: a CUE without BARS has no FRAME, though its number is the smaller one",
            "cue 110 -1 1 0 0; cue 100 -1 1 0 0; bar 1 2 40; many 9 = 0; bar 0 2 40; many 9 = 1");
        run.of("18: all pairs CLASH", CUE.repeat(8) + "bar %d 2 24;".repeat(8).formatted(0, 1, 2, 3, 4, 5, 6, 7)
            + "many 9 = 28; shift 0 12; many 9 = 21");
    }

    private void editions() {
        run.of("13: EDITION is 1 more, as a BAR is told or retimed, or it is TOUCHED; not as START moves", CUE + """
            ofCue 0 5 = 0; bar 0 2 24; ofCue 0 5 = 1; bar 0 2 24; ofCue 0 5 = 2; retime 0 1 2 24; ofCue 0 5 = 3
            shift 0 9; ofCue 0 5 = 3; change 9 5; ofCue 0 0 = 14; ofCue 0 5 = 3; change 0 -5; ofCue 0 5 = 3
            change 10 1; ofCue 0 5 = 4; change 9 -1; ofCue 0 5 = 5
            """);
    }
}

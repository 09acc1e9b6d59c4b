/** What the document says at the edges of promises 1 to 4, and of term 1: a sentence, and the runs that hold it. */
final class PictureEdges {
    /** From 2400 FRAMES down to 24, by three CHANGES. */
    static final String LEAST_PICTURE = "change 0 -999; change 0 -999; change 0 -378;";
    /** From 2400 FRAMES up to 22380, by all twenty CHANGES. */
    static final String GREATEST_PICTURE = "change 2400 999;".repeat(20);
    /** A CUE of the FRAMES 100 to 119: END is 120, and EDITION 1. */
    private static final String CUE_AT_100 = "cue 100 -1 1 0 0; bar 0 2 40;";

    private final Run run;

    PictureEdges(Run run) {
        this.run = run;
    }

    void all() {
        newObject();
        newObjectRefuses();
        hitFrame();
        hitTolerance();
        hitMost();
        hitInOrder();
        themeReveal();
        themeMost();
        themeInOrder();
        changeFrame();
        changeN();
        changeWhatIsThere();
        changeWhatIsLeft();
        changeVersion();
        changeInOrder();
        changeMovesHits();
        changeMovesReveals();
        changeMovesStarts();
        changeGone();
        changeTouchesPutIn();
        changeTouchesTakenOut();
        changeTouchesSeveral();
    }

    private void newObject() {
        run.of("1: LENGTH is 2400 at first, VERSION 0, and there is nothing else", """
            many 0 = 2400; many 1 = 0; many 2 = 0; many 3 = 0; many 4 = 0; many 5 = 0; many 6 = 0; many 7 = 0
            many 8 = 0; many 9 = 0; many 10 = 0; many 11 = 0; many 12 = 0; many 13 = 0; many 14 = 0; many 15 = 0
            """);
        run.of("1: what is asked without CUES", """
            meanNote = 0.0; sheet 0 = 0; sheet 1 = 0; sheet 2 = 0; sheet 3 = 0; digest
            wouldMeet 0 1 = 0; wouldMeet 2400 999 = 0; wouldMeet 0 -999 = 0; wouldMeet 2399 -1 = 0
            """);
        run.of("1: the first HIT", "hit 0 0 = 0");
        run.of("1: the first THEME", "theme 0 = 0");
        run.of("1: a CHANGE of an empty picture", "change 0 1 = 0; change 2401 -1 = ARGUMENT; change 2400 -1 = 0");
        run.of("1: the first CUE", "cue 0 -1 1 0 0 = 0");
        run.of("1: the first SESSION", "open 1 = 0; close = 0; many 14 = 0");
    }

    private void newObjectRefuses() {
        run.of("1: without HITS", "ofHit 0 0 = INDEX; ofHit -1 0 = INDEX");
        run.of("1: without THEMES", "cue 0 0 1 0 0 = INDEX");
        run.of("1: without CUES", """
            bar 0 2 24 = INDEX; retime 0 0 2 24 = INDEX; shift 0 0 = INDEX; take 0 0 0 = INDEX
            ofCue 0 0 = INDEX; ofBar 0 0 0 = INDEX; beat 0 0 = INDEX
            join 0 = INDEX; joined 0 0 = INDEX; bestStart 0 = INDEX; bestClick 0 0 = INDEX
            """);
        run.of("1: without CUES, in an open SESSION", "open 60; take 0 0 0 = INDEX; take -1 0 0 = INDEX");
        run.of("1: without TAKES", "ofTake 0 0 = INDEX; ofTake -1 0 = INDEX");
        run.of("1: without a SESSION", "close = STATE");
    }

    private void hitFrame() {
        run.of("2: IllegalArgumentException if frame is not 0 to LENGTH less 1", """
            hit -1 0 = ARGUMENT; hit 0 0 = 0; ofHit 0 0 = 0
            hit 2399 0 = 1; ofHit 1 0 = 2399; hit 2400 0 = ARGUMENT
            hit -2147483648 0 = ARGUMENT; hit 2147483647 0 = ARGUMENT
            """);
        run.of("2: LENGTH less 1 of a longer picture", "change 0 1; hit 2400 0 = 0; hit 2401 0 = ARGUMENT");
        run.of("2: LENGTH less 1 of a shorter picture", "change 0 -1; hit 2398 0 = 0; hit 2399 0 = ARGUMENT");
        run.of("2: LENGTH less 1 of the shortest picture", LEAST_PICTURE + "hit 23 0 = 0; hit 24 0 = ARGUMENT");
        run.of("2: LENGTH less 1 of the longest picture",
            GREATEST_PICTURE + "hit 22379 0 = 0; hit 22380 0 = ARGUMENT; hit -1 0 = ARGUMENT");
    }

    private void hitTolerance() {
        run.of("2: IllegalArgumentException if tolerance is not 0 to 9", """
            hit 5 -1 = ARGUMENT; hit 5 0 = 0; ofHit 0 1 = 0
            hit 5 9 = 1; ofHit 1 1 = 9; hit 5 10 = ARGUMENT
            hit 5 -2147483648 = ARGUMENT; hit 5 2147483647 = ARGUMENT
            """);
    }

    private void hitMost() {
        run.of("2: IllegalStateException if there are 12", "hit 5 1;".repeat(11)
            + "hit 6 2 = 11; hit 7 3 = STATE; many 2 = 12; ofHit 11 0 = 6; ofHit 12 0 = INDEX");
        run.of("2: those that are GONE are HITS too", "hit 5 1;".repeat(12)
            + "change 5 -1; many 3 = 12; many 2 = 12; hit 7 3 = STATE");
    }

    private void hitInOrder() {
        run.of("2: in the order of the document", "hit 5 1;".repeat(12) + """
            hit -1 1 = ARGUMENT; hit 2400 1 = ARGUMENT; hit 5 -1 = ARGUMENT; hit 5 10 = ARGUMENT; hit -1 10 = ARGUMENT
            hit 0 0 = STATE; hit 2399 9 = STATE
            """);
    }

    private void themeReveal() {
        run.of("3: IllegalArgumentException if reveal is not 0 to LENGTH", """
            theme -1 = ARGUMENT; theme 0 = 0; theme 2400 = 1; theme 2401 = ARGUMENT
            theme -2147483648 = ARGUMENT; theme 2147483647 = ARGUMENT
            """);
        run.of("3: LENGTH of a longer picture", "change 0 1; theme 2401 = 0; theme 2402 = ARGUMENT");
        run.of("3: LENGTH of a shorter picture", "change 0 -1; theme 2399 = 0; theme 2400 = ARGUMENT");
        run.of("3: LENGTH of the shortest picture", LEAST_PICTURE + "theme 24 = 0; theme 25 = ARGUMENT");
        run.of("3: LENGTH of the longest picture", GREATEST_PICTURE + "theme 22380 = 0; theme 22381 = ARGUMENT");
    }

    private void themeMost() {
        run.of("3: IllegalStateException if there are 4", """
            theme 9 = 0; theme 8 = 1; theme 7 = 2; theme 6 = 3; theme 5 = STATE; many 5 = 4
            cue 5 3 1 0 0; ofCue 0 10 = 1; shift 0 6; ofCue 0 10 = 0
            """);
    }

    private void themeInOrder() {
        run.of("3: in the order of the document", "theme 5;".repeat(4)
            + "theme -1 = ARGUMENT; theme 2401 = ARGUMENT; theme 0 = STATE; theme 2400 = STATE");
    }

    private void changeFrame() {
        run.of("4: IllegalArgumentException if frame is not 0 to LENGTH", """
            change -1 1 = ARGUMENT; change 2401 1 = ARGUMENT; change 0 1 = 0; change 2401 1 = 0; many 0 = 2402
            change -2147483648 1 = ARGUMENT; change 2147483647 1 = ARGUMENT
            """);
        run.of("4: IllegalArgumentException if frame is not 0 to LENGTH, as FRAMES are taken out", """
            change -1 -1 = ARGUMENT; change 2401 -1 = ARGUMENT; change 0 -1 = 0; many 0 = 2399
            change -2147483648 -1 = ARGUMENT; change 2147483647 -1 = ARGUMENT; change 2147483647 -999 = ARGUMENT
            """);
    }

    private void changeN() {
        run.of("4: IllegalArgumentException if n is 0", "change 0 0 = ARGUMENT; change 2400 0 = ARGUMENT");
        run.of("4: IllegalArgumentException if n is not -999 to 999", """
            change 7 -1000 = ARGUMENT; change 7 -999 = 0; many 0 = 1401
            change 7 1000 = ARGUMENT; change 7 999 = 0; many 0 = 2400
            change 7 -1 = 0; many 0 = 2399; change 7 1 = 0; many 0 = 2400; many 1 = 4
            change 7 -2147483648 = ARGUMENT; change 7 2147483647 = ARGUMENT
            """);
    }

    private void changeWhatIsThere() {
        run.of("4: IllegalArgumentException if as many are not there: one", """
            change 2400 -1 = ARGUMENT; change 2399 -1 = 0; many 0 = 2399
            """);
        run.of("4: IllegalArgumentException if as many are not there: ten", """
            change 2391 -10 = ARGUMENT; change 2390 -10 = 0; many 0 = 2390
            """);
        run.of("4: IllegalArgumentException if as many are not there: 999", """
            change 1402 -999 = ARGUMENT; change 1401 -999 = 0; many 0 = 1401
            """);
    }

    private void changeWhatIsLeft() {
        run.of("4: 24 at least have to be left, of 1023", "change 0 -999; change 0 -378; many 0 = 1023;"
            + "change 0 -999 = 0; many 0 = 24; change 0 -1 = ARGUMENT; change 24 -1 = ARGUMENT; change 24 1 = 0");
        run.of("4: 24 at least have to be left, of 1022", "change 0 -999; change 0 -379; many 0 = 1022;"
            + "change 0 -999 = ARGUMENT; change 0 -998 = 0; many 0 = 24");
        run.of("4: 24 at least have to be left, of 25", LEAST_PICTURE
            + "change 0 1; change 24 -2 = ARGUMENT; change 23 -2 = ARGUMENT; change 24 -1 = 0; many 0 = 24");
    }

    private void changeVersion() {
        run.of("4: IllegalStateException if VERSION is 20", "change 0 1;".repeat(19)
            + "many 1 = 19; change 0 -1 = 0; many 1 = 20; change 0 1 = STATE; change 0 -1 = STATE; many 0 = 2418");
        run.of("4: the longest picture", GREATEST_PICTURE + "many 0 = 22380; many 1 = 20; change 22380 1 = STATE");
        run.of("4: a refused CHANGE counts for no VERSION", "change 0 0 = ARGUMENT;".repeat(5) + "many 1 = 0");
    }

    private void changeInOrder() {
        run.of("4: in the order of the document", "cue 0 -1 1 0 0; bar 0 2 40; hit 5 1;" + "change 2400 1;".repeat(20) + """
            change -1 1 = ARGUMENT; change 2421 1 = ARGUMENT; change 0 0 = ARGUMENT
            change 0 1000 = ARGUMENT; change 0 -1000 = ARGUMENT; change 2420 -1 = ARGUMENT; change 1422 -999 = ARGUMENT
            change 1421 -999 = STATE; change 2420 999 = STATE; change 5 1 = STATE; change 5 -1 = STATE
            """);
        run.of("4: in the order of the document, as 24 FRAMES are left",
            LEAST_PICTURE + "change 24 1; change 24 -1;".repeat(8) + "change 24 1;"
            + "many 1 = 20; many 0 = 25; change 0 -2 = ARGUMENT; change 0 -1 = STATE");
    }

    private void changeMovesHits() {
        run.of("4: HITS move to f and n, if f is no less than that FRAME", """
            hit 99 0; hit 100 0; hit 101 0; change 100 7
            ofHit 0 0 = 99; ofHit 1 0 = 107; ofHit 2 0 = 108; many 3 = 0
            """);
        run.of("4: HITS move, as FRAMES are put in ahead of the first FRAME", "hit 0 0; change 0 1; ofHit 0 0 = 1");
        run.of("4: HITS stay, as FRAMES are put in at LENGTH", "hit 2399 0; change 2400 1; ofHit 0 0 = 2399");
        run.of("4: HITS move to f less n, if f is a and n or more; those among them are GONE", """
            hit 99 0; hit 100 0; hit 109 0; hit 110 0; change 100 -10; many 3 = 2
            ofHit 0 0 = 99; ofHit 0 2 = 0; ofHit 1 2 = 1; ofHit 2 2 = 1; ofHit 3 0 = 100; ofHit 3 2 = 0
            """);
        run.of("4: a HIT at the last FRAME, as that is taken out", """
            hit 2398 0; hit 2399 0; change 2399 -1; ofHit 0 2 = 0; ofHit 0 0 = 2398; ofHit 1 2 = 1
            """);
    }

    private void changeMovesReveals() {
        String reveal = "cue 0 0 1 0 0; shift 0 %d; ofCue 0 10 = 0; shift 0 %d; ofCue 0 10 = 1";
        run.of("4: a REVEAL ahead of what is put in stays", "theme 99; change 100 7;" + reveal.formatted(99, 98));
        run.of("4: a REVEAL where FRAMES are put in moves", "theme 100; change 100 7;" + reveal.formatted(107, 106));
        run.of("4: a REVEAL at LENGTH, as FRAMES are put in there",
            "theme 2400; change 2400 1;" + reveal.formatted(2401, 2400));
        run.of("4: a REVEAL ahead of what is taken out stays", "theme 99; change 100 -10;" + reveal.formatted(99, 98));
        run.of("4: a REVEAL at the first that is taken out is a",
            "theme 100; change 100 -10;" + reveal.formatted(100, 99));
        run.of("4: a REVEAL at the last that is taken out is a",
            "theme 109; change 100 -10;" + reveal.formatted(100, 99));
        run.of("4: a REVEAL at a and n is a", "theme 110; change 100 -10;" + reveal.formatted(100, 99));
        run.of("4: a REVEAL behind a and n is a FRAME behind a",
            "theme 111; change 100 -10;" + reveal.formatted(101, 100));
        run.of("4: a REVEAL at LENGTH, as the last FRAMES are taken out",
            "theme 2400; change 2390 -10;" + reveal.formatted(2390, 2389));
        run.of("4: a REVEAL at 0, as the first FRAMES are taken out",
            "theme 0; change 0 -10; cue 0 0 1 0 0; ofCue 0 10 = 0");
    }

    private void changeMovesStarts() {
        run.of("4: STARTS, as FRAMES are put in", """
            cue 99 -1 1 0 0; cue 100 -1 1 0 0; cue 2400 -1 1 0 0; change 100 7 = 0
            ofCue 0 0 = 99; ofCue 1 0 = 107; ofCue 2 0 = 2407; change 2407 3 = 0; ofCue 2 0 = 2410
            """);
        run.of("4: STARTS, as FRAMES are taken out", """
            cue 99 -1 1 0 0; cue 100 -1 1 0 0; cue 109 -1 1 0 0; cue 110 -1 1 0 0; cue 111 -1 1 0 0; cue 2400 -1 1 0 0
            change 100 -10 = 0; ofCue 0 0 = 99; ofCue 1 0 = 100; ofCue 2 0 = 100; ofCue 3 0 = 100; ofCue 4 0 = 101
            ofCue 5 0 = 2390; change 2389 -1 = 0; ofCue 5 0 = 2389; many 0 = 2389
            """);
    }

    private void changeGone() {
        run.of("4: one that is GONE does not move any more", """
            hit 100 9; change 100 -1; ofHit 0 0 = 100; change 0 50; ofHit 0 0 = 100; change 100 -1; ofHit 0 0 = 100
            change 0 -90; ofHit 0 0 = 100; ofHit 0 2 = 1; many 3 = 1
            """);
        run.of("4: one that is GONE is not a from then on, as a REVEAL or a START is", """
            hit 105 9; theme 105; cue 105 0 1 0 0; change 100 -10; ofHit 0 2 = 1; ofHit 0 0 = 105; ofCue 0 0 = 100
            ofCue 0 10 = 0; shift 0 99; ofCue 0 10 = 1
            """);
    }

    private void touched(String title, int frame, int n, int due, int start) {
        run.of("4: TOUCHED, " + title, CUE_AT_100 + "ofCue 0 8 = 120; change " + frame + " " + n + " = " + due
            + "; ofCue 0 5 = " + (1 + due) + "; ofCue 0 0 = " + start + "; ofCue 0 8 = " + (start + 20));
    }

    private void changeTouchesPutIn() {
        touched("put in at START", 100, 1, 0, 101);
        touched("put in a FRAME behind START", 101, 1, 1, 100);
        touched("put in a FRAME ahead of END", 119, 999, 1, 100);
        touched("put in at END", 120, 999, 0, 100);
        touched("put in ahead of START", 99, 999, 0, 1099);
        run.of("4: TOUCHED, with an END that is rounded up", """
            cue 100 -1 1 0 0; bar 0 3 27; ofCue 0 8 = 121; change 121 1 = 0; change 120 1 = 1; ofCue 0 5 = 2
            """);
        run.of("4: TOUCHED, put in at LENGTH", """
            cue 2395 -1 1 0 0; bar 0 2 40; ofCue 0 8 = 2415; change 2400 1 = 1; cue 2401 -1 1 0 0; bar 1 2 40
            change 2401 1 = 1; ofCue 0 5 = 3; ofCue 1 5 = 1; ofCue 1 0 = 2402
            """);
    }

    private void changeTouchesTakenOut() {
        touched("taken out up to START", 99, -1, 0, 99);
        touched("START is taken out", 100, -1, 1, 100);
        touched("taken out from ahead, with START", 91, -10, 1, 91);
        touched("taken out from ahead, up to START", 90, -10, 0, 90);
        touched("all is taken out", 100, -20, 1, 100);
        touched("more than all is taken out", 99, -22, 1, 99);
        touched("the last FRAME is taken out", 119, -1, 1, 100);
        touched("taken out from END on", 120, -999, 0, 100);
        run.of("4: TOUCHED, not without BARS", """
            cue 100 -1 1 0 0; change 100 -1 = 0; change 95 -10 = 0; change 95 5 = 0; change 101 5 = 0; ofCue 0 5 = 0
            """);
        run.of("4: TOUCHED, the FRAMES of a CUE that STARTS at LENGTH are never taken out", """
            cue 2400 -1 1 0 0; bar 0 2 40; change 2390 -10 = 0; ofCue 0 0 = 2390; ofCue 0 5 = 1
            """);
    }

    private void changeTouchesSeveral() {
        String eight = (CUE_AT_100.replace("0 2 40", "%d 2 40")).repeat(8).formatted(0, 1, 2, 3, 4, 5, 6, 7);
        run.of("4: it returns how many CUES are TOUCHED: none", eight + "change 100 1 = 0");
        run.of("4: it returns how many CUES are TOUCHED: all", eight + "change 101 1 = 8; ofCue 0 5 = 2; ofCue 7 5 = 2");
        run.of("4: it returns how many CUES are TOUCHED: all but one", eight + "shift 7 101; change 101 1 = 7");
        run.of("4: a TAKE is not VALID from then on", CUE_AT_100
            + "open 1; take 0 5 0; change 120 1; ofTake 0 3 = 1; change 119 1; ofTake 0 3 = 0; many 11 = 0");
    }
}

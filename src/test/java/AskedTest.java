/** Promises 12 to 19: ofHit, ofCue, ofBar, beat, ofTake, sheet, many, meanNote. */
final class AskedTest {
    private static final Check check = new Check();

    public static void main(String[] args) {
        ofHit();
        ofHitOfSeveral();
        ofHitGone();
        ofHitRefuses();
        ofCue();
        ofCueSpoils();
        ofCueHeard();
        ofCueRefuses();
        ofBarAndBeat();
        ofBarAndBeatRefuse();
        ofTake();
        sheet();
        manyOfPicture();
        manyClashes();
        manyOfStudio();
        meanNote();
        check.end("AskedTest");
    }

    private static void sameHit(String what, Clickbook book, int hit, int... due) {
        for (int k = 0; k < due.length; k++) {
            int asked = k;
            check.asked(what + ", " + k, due[k], book, b -> b.ofHit(hit, asked));
        }
    }

    private static void ofHit() {
        Clickbook book = new Clickbook();
        book.hit(100, 3);
        sameHit("12: without CUES", book, 0, 100, 3, 0, -1, 0, -1, -1);
        int cue = Check.cue(book, 100);
        sameHit("12: without BEATS", book, 0, 100, 3, 0, -1, 0, -1, -1);
        book.bar(cue, 2, 40);
        sameHit("12: by the first BEAT", book, 0, 100, 3, 0, 0, 1, 0, 0);
        book.shift(cue, 93);
        sameHit("12: at its TOLERANCE", book, 0, 100, 3, 0, 3, 1, 0, 1);
        book.shift(cue, 94);
        sameHit("12: behind its TOLERANCE", book, 0, 100, 3, 0, 4, 0, 0, 1);
        book.shift(cue, 87);
        sameHit("12: BEAT ahead, at its TOLERANCE", book, 0, 100, 3, 0, 3, 1, 0, 1);
        book.shift(cue, 2400);
        sameHit("12: far behind", book, 0, 100, 3, 0, 2300, 0, 0, 0);
        book.hit(2399, 0);
        sameHit("12: by a BEAT behind the picture", book, 1, 2399, 0, 0, 1, 0, 0, 0);
    }

    private static void ofHitOfSeveral() {
        Clickbook book = new Clickbook();
        book.hit(105, 5);
        Check.cue(book, 200);
        Check.cue(book, 120, 2, 24);
        Check.cue(book, 100, 2, 40);
        Check.cue(book, 105 - 15, 3, 40);
        sameHit("12: of several CUES and BEATS", book, 0, 105, 5, 0, 5, 1, 2, 0);
        book.shift(2, 99);
        sameHit("12: of the BEATS, the nearer one", book, 0, 105, 5, 0, 4, 1, 2, 1);
        book.shift(2, 98);
        sameHit("12: of the CUES, the nearer one", book, 0, 105, 5, 0, 3, 1, 2, 1);
        book.shift(2, 0);
        sameHit("12: behind in the numbers", book, 0, 105, 5, 0, 5, 1, 3, 1);
        book.shift(1, 105);
        sameHit("12: nought", book, 0, 105, 5, 0, 0, 1, 1, 0);
    }

    private static void ofHitGone() {
        Clickbook book = new Clickbook();
        book.hit(100, 9);
        book.hit(130, 9);
        Check.cue(book, 100, 2, 40);
        book.change(95, -10);
        sameHit("12: GONE", book, 0, 100, 9, 1, -1, 0, -1, -1);
        sameHit("12: not GONE", book, 1, 120, 9, 0, 15, 0, 0, 1);
    }

    private static void ofHitRefuses() {
        Clickbook book = new Clickbook();
        check.refused("12: without HITS", Check.INDEX, book, b -> b.ofHit(0, 0));
        book.hit(100, 9);
        check.refused("12: hit -1", Check.INDEX, book, b -> b.ofHit(-1, 0));
        check.refused("12: hit 1", Check.INDEX, book, b -> b.ofHit(1, 0));
        check.refused("12: hit 1, and a wrong what", Check.INDEX, book, b -> b.ofHit(1, 7));
        check.refused("12: what -1", Check.ARGUMENT, book, b -> b.ofHit(0, -1));
        check.refused("12: what 7", Check.ARGUMENT, book, b -> b.ofHit(0, 7));
        check.refused("12: most hit", Check.INDEX, book, b -> b.ofHit(Integer.MAX_VALUE, 0));
    }

    private static void sameCue(String what, Clickbook book, int cue, int... due) {
        for (int k = 0; k < due.length; k++) {
            int asked = k;
            check.asked(what + ", " + k, due[k], book, b -> b.ofCue(cue, asked));
        }
    }

    private static void ofCue() {
        Clickbook book = new Clickbook();
        book.theme(50);
        book.cue(40, 0, 12, 3, 1);
        sameCue("13: without BARS", book, 0, 40, 0, 12, 3, 1, 0, 0, 0, 40, 0, 1, 0, 0);
        book.bar(0, 3, 25);
        sameCue("13: one BAR", book, 0, 40, 0, 12, 3, 1, 1, 1, 3, 59, 0, 1, 0, 0);
        book.bar(0, 7, 159);
        sameCue("13: two BARS", book, 0, 40, 0, 12, 3, 1, 2, 2, 10, 337, 0, 1, 0, 0);
        book.open(12);
        book.take(0, 34, 0);
        book.take(0, 43, 0);
        sameCue("13: two TAKES", book, 0, 40, 0, 12, 3, 1, 2, 2, 10, 337, 0, 1, 2, 12);
        book.shift(0, 2400 - 297);
        sameCue("13: up to LENGTH", book, 0, 2103, 0, 12, 3, 1, 2, 2, 10, 2400, 0, 0, 2, 12);
        book.shift(0, 2400 - 296);
        sameCue("13: RUNS OVER", book, 0, 2104, 0, 12, 3, 1, 2, 2, 10, 2401, 1, 0, 2, 0);
        book.retime(0, 1, 7, 158);
        sameCue("13: no VALID TAKE", book, 0, 2104, 0, 12, 3, 1, 3, 2, 10, 2400, 0, 0, 0, 0);
        Check.cue(book, 2400);
        sameCue("13: without BARS, at LENGTH", book, 1, 2400, -1, 1, 0, 0, 0, 0, 0, 2400, 0, 0, 0, 0);
    }

    private static void ofCueSpoils() {
        Clickbook book = new Clickbook();
        book.theme(100);
        book.theme(200);
        book.cue(150, 0, 1, 0, 0);
        book.cue(150, 1, 1, 0, 0);
        book.cue(0, Check.NONE, 1, 0, 0);
        check.same("13: behind its REVEAL", book.ofCue(0, 10), 0);
        check.same("13: ahead of its REVEAL", book.ofCue(1, 10), 1);
        check.same("13: without a THEME", book.ofCue(2, 10), 0);
        book.change(160, 5);
        book.shift(1, 204);
        check.same("13: ahead of a REVEAL that moved", book.ofCue(1, 10), 1);
        book.shift(1, 205);
        check.same("13: at a REVEAL that moved", book.ofCue(1, 10), 0);
    }

    private static void ofCueHeard() {
        Clickbook book = new Clickbook();
        Check.cue(book, 0, 4, 95);
        check.same("13: its FRAMES", book.ofCue(0, 8), 95);
        Check.cue(book, 0, 4, 96);
        book.open(1);
        check.same("13: not HEARD", book.ofCue(1, 12), 0);
        book.take(0, 0, 0);
        book.take(1, 0, 0);
        check.same("13: SECONDS are rounded down", book.ofCue(0, 12), 3);
        check.same("13: SECONDS", book.ofCue(1, 12), 4);
    }

    private static void ofCueRefuses() {
        Clickbook book = new Clickbook();
        check.refused("13: without CUES", Check.INDEX, book, b -> b.ofCue(0, 0));
        Check.cue(book, 0, 2, 24);
        check.refused("13: cue -1", Check.INDEX, book, b -> b.ofCue(-1, 0));
        check.refused("13: cue 1", Check.INDEX, book, b -> b.ofCue(1, 0));
        check.refused("13: cue 1, and a wrong what", Check.INDEX, book, b -> b.ofCue(1, 13));
        check.refused("13: what -1", Check.ARGUMENT, book, b -> b.ofCue(0, -1));
        check.refused("13: what 13", Check.ARGUMENT, book, b -> b.ofCue(0, 13));
    }

    private static void ofBarAndBeat() {
        Clickbook book = new Clickbook();
        Check.cue(book, 10, 3, 25, 2, 27, 2, 160);
        int[][] bars = {{3, 25, 0, 10}, {2, 27, 3, 28}, {2, 160, 5, 42}};
        for (int bar = 0; bar < bars.length; bar++) {
            for (int what = 0; what <= 3; what++) {
                int ofBar = bar;
                int asked = what;
                check.asked("14: BAR " + bar + ", " + what, bars[bar][what], book, b -> b.ofBar(0, ofBar, asked));
            }
        }
        // quarters ahead: 0, 25, 50, 75, 102, 129, 289
        int[] frames = {10, 16, 22, 28, 35, 42, 82};
        for (int beat = 0; beat < frames.length; beat++) {
            int asked = beat;
            check.asked("15: BEAT " + beat, frames[beat], book, b -> b.beat(0, asked));
        }
        book.shift(0, 2400);
        check.same("15: behind the picture", book.beat(0, 6), 2472);
        check.same("14: behind the picture", book.ofBar(0, 2, 3), 2432);
        book.retime(0, 0, 7, 24);
        check.same("14: first BEAT behind one that is retimed", book.ofBar(0, 1, 2), 7);
        check.same("15: the last BEAT then", book.beat(0, 10), 2400 + (7 * 24 + 2 * 27 + 160) / 4);
    }

    private static void ofBarAndBeatRefuse() {
        Clickbook book = new Clickbook();
        check.refused("14: without CUES", Check.INDEX, book, b -> b.ofBar(0, 0, 0));
        check.refused("15: without CUES", Check.INDEX, book, b -> b.beat(0, 0));
        Check.cue(book, 10, 3, 25);
        Check.cue(book, 10);
        check.refused("14: cue -1", Check.INDEX, book, b -> b.ofBar(-1, 0, 0));
        check.refused("14: cue 2", Check.INDEX, book, b -> b.ofBar(2, 0, 0));
        check.refused("14: bar -1", Check.INDEX, book, b -> b.ofBar(0, -1, 0));
        check.refused("14: bar 1", Check.INDEX, book, b -> b.ofBar(0, 1, 0));
        check.refused("14: most bar", Check.INDEX, book, b -> b.ofBar(0, Integer.MAX_VALUE, 0));
        check.refused("14: bar 1, and a wrong what", Check.INDEX, book, b -> b.ofBar(0, 1, 4));
        check.refused("14: without BARS", Check.INDEX, book, b -> b.ofBar(1, 0, 0));
        check.refused("14: what -1", Check.ARGUMENT, book, b -> b.ofBar(0, 0, -1));
        check.refused("14: what 4", Check.ARGUMENT, book, b -> b.ofBar(0, 0, 4));
        check.refused("15: cue -1", Check.INDEX, book, b -> b.beat(-1, 0));
        check.refused("15: cue 2", Check.INDEX, book, b -> b.beat(2, 0));
        check.refused("15: beat -1", Check.INDEX, book, b -> b.beat(0, -1));
        check.refused("15: beat 3", Check.INDEX, book, b -> b.beat(0, 3));
        check.refused("15: most beat", Check.INDEX, book, b -> b.beat(0, Integer.MAX_VALUE));
        check.refused("15: without BEATS", Check.INDEX, book, b -> b.beat(1, 0));
    }

    private static void ofTake() {
        Clickbook book = new Clickbook();
        check.refused("16: without TAKES", Check.INDEX, book, b -> b.ofTake(0, 0));
        Check.cue(book, 10);
        Check.cue(book, 10, 3, 25, 3, 25);
        book.open(1);
        book.take(1, 70, -1);
        int[] due = {1, 2, -1, 1, 7};
        for (int what = 0; what <= 4; what++) {
            int asked = what;
            check.asked("16: " + what, due[what], book, b -> b.ofTake(0, asked));
        }
        book.bar(1, 3, 25);
        due[3] = 0;
        for (int what = 0; what <= 4; what++) {
            int asked = what;
            check.asked("16: not VALID, " + what, due[what], book, b -> b.ofTake(0, asked));
        }
        book.take(1, 123, 2);
        check.same("16: a VALID one again", book.ofTake(1, 3), 1);
        book.change(12, 1);
        check.same("16: not VALID as its CUE is TOUCHED", book.ofTake(1, 3), 0);
        check.refused("16: take -1", Check.INDEX, book, b -> b.ofTake(-1, 0));
        check.refused("16: take 2", Check.INDEX, book, b -> b.ofTake(2, 0));
        check.refused("16: take 2, and a wrong what", Check.INDEX, book, b -> b.ofTake(2, 5));
        check.refused("16: what -1", Check.ARGUMENT, book, b -> b.ofTake(0, -1));
        check.refused("16: what 5", Check.ARGUMENT, book, b -> b.ofTake(0, 5));
    }

    private static void sheet() {
        Clickbook book = new Clickbook();
        for (int use = 0; use <= 2; use++) {
            book.cue(0, Check.NONE, 1, use, use);
            book.bar(use, 7, 160);
        }
        book.cue(0, Check.NONE, 1, 2, 0);
        book.bar(3, 7, 160);
        for (int writer = 0; writer <= 3; writer++) {
            check.same("17: no TAKE, WRITER " + writer, book.sheet(writer), 0);
        }
        book.open(1);
        for (int cue = 0; cue <= 3; cue++) {
            book.take(cue, 1, 0);
            book.take(cue, 2, 0);
        }
        int[] due = {11, 33, 55 + 11, 0};
        for (int writer = 0; writer <= 3; writer++) {
            int asked = writer;
            check.asked("17: WRITER " + writer, due[writer], book, b -> b.sheet(asked));
        }
        check.same("18: to all", book.many(15), 110);
        book.shift(2, 2121);
        check.same("17: one that RUNS OVER", book.sheet(2), 11);
        book.retime(3, 0, 7, 160);
        check.same("17: one without a VALID TAKE", book.sheet(2), 0);
        check.same("18: to all then", book.many(15), 44);
        check.refused("17: writer -1", Check.INDEX, book, b -> b.sheet(-1));
        check.refused("17: writer 4", Check.INDEX, book, b -> b.sheet(4));
        check.refused("17: most writer", Check.INDEX, book, b -> b.sheet(Integer.MAX_VALUE));
    }

    private static void sameMany(String what, Clickbook book, int first, int... due) {
        for (int k = 0; k < due.length; k++) {
            int asked = first + k;
            check.asked(what + ", " + asked, due[k], book, b -> b.many(asked));
        }
    }

    private static void manyOfPicture() {
        Clickbook book = new Clickbook();
        book.hit(10, 0);
        book.hit(20, 0);
        book.hit(21, 1);
        book.hit(99, 9);
        book.theme(5);
        book.theme(50);
        book.cue(20, 0, 1, 0, 0);
        book.cue(20, 1, 1, 0, 0);
        book.cue(2400, Check.NONE, 1, 0, 0);
        sameMany("18: without BEATS", book, 0, 2400, 0, 4, 0, 0, 2, 3, 0, 1, 0);
        book.bar(0, 2, 24);
        book.bar(2, 2, 24);
        sameMany("18: with BEATS", book, 0, 2400, 0, 4, 0, 2, 2, 3, 1, 1, 0);
        book.change(90, -20);
        sameMany("18: one is GONE", book, 0, 2380, 1, 4, 1, 2, 2, 3, 1, 1, 0);
        book.change(0, -15);
        sameMany("18: two are GONE", book, 0, 2365, 2, 4, 2, 2, 2, 3, 1, 1, 0);
        book.shift(1, 0);
        book.shift(0, 0);
        sameMany("18: at 0", book, 0, 2365, 2, 4, 2, 1, 2, 3, 1, 1, 0);
        book.shift(0, 2365);
        book.shift(2, 2364);
        sameMany("18: two RUN OVER", book, 6, 3, 2, 1, 1);
        Clickbook first = new Clickbook();
        first.theme(1);
        first.cue(0, 0, 1, 0, 0);
        sameMany("18: the first one SPOILS", first, 6, 1, 0, 1, 0);
        check.refused("18: what -1", Check.ARGUMENT, book, b -> b.many(-1));
        check.refused("18: what 16", Check.ARGUMENT, book, b -> b.many(16));
        check.refused("18: least what", Check.ARGUMENT, book, b -> b.many(Integer.MIN_VALUE));
    }

    private static void clashOf(int start, int due) {
        Clickbook book = new Clickbook();
        Check.cue(book, 100, 2, 40);
        Check.cue(book, start, 3, 27);
        check.same("18: CLASH of 100 to 119 with " + start + " and 20 more", book.many(9), due);
        Check.cue(book, 110);
        check.same("18: one without BARS does not CLASH", book.many(9), due);
    }

    private static void manyClashes() {
        clashOf(79, 0);
        clashOf(80, 1);
        clashOf(100, 1);
        clashOf(119, 1);
        clashOf(120, 0);
        Clickbook book = new Clickbook();
        for (int i = 0; i < 8; i++) {
            Check.cue(book, 2400, 2, 24);
        }
        check.same("18: all CLASH, behind the picture", book.many(9), 28);
        book.shift(3, 0);
        check.same("18: all but one CLASH", book.many(9), 21);
    }

    private static void manyOfStudio() {
        Clickbook book = new Clickbook();
        Check.cue(book, 0, 2, 24);
        Check.cue(book, 0, 4, 96);
        sameMany("18: ahead", book, 10, 0, 0, 0, 0, 0, 0);
        book.open(9);
        book.take(0, 1, 0);
        book.take(1, 1, 0);
        book.take(1, 1, 0);
        sameMany("18: open", book, 10, 3, 3, 9, 12, 0, 4);
        book.close();
        sameMany("18: closed", book, 10, 3, 3, 0, 0, 36, 4);
        book.bar(1, 2, 24);
        sameMany("18: less are VALID", book, 10, 3, 1, 0, 0, 36, 0);
        book.open(1);
        book.take(1, 1, 0);
        book.close();
        sameMany("18: closed again", book, 10, 4, 2, 0, 0, 40, 4);
    }

    private static void meanNote() {
        Clickbook book = new Clickbook();
        Check.cue(book, 0, 2, 24);
        Check.cue(book, 0, 2, 24, 2, 24, 2, 24);
        check.sameDouble("19: without TAKES", book.meanNote(), 0.0);
        book.open(1);
        book.take(0, 9, 0);
        check.asked("19: one TAKE", 9.0, book, Clickbook::meanNote);
        book.take(1, 100, 0);
        check.asked("19: by BARS, not by TAKES", 10.0 / 4.0, book, Clickbook::meanNote);
        book.take(1, 0, 0);
        check.asked("19: not cut", 10.0 / 7.0, book, Clickbook::meanNote);
        book.retime(0, 0, 2, 24);
        check.asked("19: of VALID ones", 1.0 / 6.0, book, Clickbook::meanNote);
        book.change(1, 1);
        check.asked("19: without VALID ones", 0.0, book, Clickbook::meanNote);
    }
}

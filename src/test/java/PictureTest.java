/** Promises 1 to 4: a new object, hit, theme, change. */
final class PictureTest {
    private static final Check check = new Check();

    public static void main(String[] args) {
        newObject();
        hit();
        theme();
        changeMovesHits();
        changeMovesReveals();
        changeMovesStarts();
        changeTouches();
        changeAtTheEdges();
        changeRefuses();
        check.end("PictureTest");
    }

    private static void newObject() {
        Clickbook book = new Clickbook();
        for (int what = 0; what <= 15; what++) {
            check.same("1: many(" + what + ") of a new object", book.many(what), what == 0 ? 2400 : 0);
        }
        check.sameDouble("1: meanNote of a new object", book.meanNote(), 0.0);
        check.same("1: a new object has no CUE that another had", Check.cue(new Clickbook(), 5, 2, 24), 0);
        check.same("1: nor has it one behind that", book.many(6), 0);
        long d = 58231L;
        d = d * 31 + 2400;
        for (int k = 0; k < 15 + 4 + 1; k++) {
            d = d * 31;
        }
        check.same("1: digest of a new object", book.digest(), d);
    }

    private static void hit() {
        Clickbook book = new Clickbook();
        check.same("2: the first HIT", book.hit(0, 0), 0);
        check.same("2: the second HIT", book.hit(2399, 9), 1);
        check.same("2: FRAME of it", book.ofHit(1, 0), 2399);
        check.same("2: TOLERANCE of it", book.ofHit(1, 1), 9);
        check.same("2: not GONE", book.ofHit(1, 2), 0);
        check.refused("2: frame -1", Check.ARGUMENT, book, b -> b.hit(-1, 0));
        check.refused("2: frame of LENGTH", Check.ARGUMENT, book, b -> b.hit(2400, 0));
        check.refused("2: least frame", Check.ARGUMENT, book, b -> b.hit(Integer.MIN_VALUE, 0));
        check.refused("2: most frame", Check.ARGUMENT, book, b -> b.hit(Integer.MAX_VALUE, 0));
        check.refused("2: tolerance -1", Check.ARGUMENT, book, b -> b.hit(0, -1));
        check.refused("2: tolerance 10", Check.ARGUMENT, book, b -> b.hit(0, 10));
        for (int i = 2; i < 12; i++) {
            check.same("2: HIT " + i, book.hit(i, i % 10), i);
        }
        check.refused("2: a thirteenth", Check.STATE, book, b -> b.hit(0, 0));
        check.refused("2: a thirteenth, and a wrong frame", Check.ARGUMENT, book, b -> b.hit(2400, 0));
        check.refused("2: a thirteenth, and a wrong tolerance", Check.ARGUMENT, book, b -> b.hit(0, 10));
        check.same("2: HITS", book.many(2), 12);
        Clickbook cut = new Clickbook();
        cut.change(0, 5);
        check.same("2: the last FRAME of a longer picture", cut.hit(2404, 0), 0);
        check.refused("2: behind that", Check.ARGUMENT, cut, b -> b.hit(2405, 0));
        Clickbook allGone = new Clickbook();
        for (int i = 0; i < 12; i++) {
            allGone.hit(100, 0);
        }
        allGone.change(100, -1);
        check.refused("2: those that are GONE count", Check.STATE, allGone, b -> b.hit(0, 0));
    }

    private static void theme() {
        Clickbook book = new Clickbook();
        check.same("3: the first THEME", book.theme(0), 0);
        check.same("3: at LENGTH", book.theme(2400), 1);
        check.refused("3: reveal -1", Check.ARGUMENT, book, b -> b.theme(-1));
        check.refused("3: reveal above LENGTH", Check.ARGUMENT, book, b -> b.theme(2401));
        check.refused("3: most reveal", Check.ARGUMENT, book, b -> b.theme(Integer.MAX_VALUE));
        check.same("3: the third", book.theme(7), 2);
        check.same("3: the fourth", book.theme(8), 3);
        check.refused("3: a fifth", Check.STATE, book, b -> b.theme(8));
        check.refused("3: a fifth, and a wrong reveal", Check.ARGUMENT, book, b -> b.theme(2401));
        check.same("3: THEMES", book.many(5), 4);
        book.cue(6, 2, 1, 0, 0);
        book.cue(7, 2, 1, 0, 0);
        book.cue(2399, 1, 1, 0, 0);
        check.same("3: ahead of its REVEAL", book.ofCue(0, 10), 1);
        check.same("3: at its REVEAL", book.ofCue(1, 10), 0);
        check.same("3: ahead of a REVEAL at LENGTH", book.ofCue(2, 10), 1);
    }

    private static void changeMovesHits() {
        Clickbook book = new Clickbook();
        int[] frames = {99, 100, 101, 109, 110, 111, 2399};
        for (int frame : frames) {
            book.hit(frame, 1);
        }
        check.same("4: no CUES", book.change(100, 10), 0);
        int[] behind = {99, 110, 111, 119, 120, 121, 2409};
        sameFrames("4: put in", book, behind);
        check.same("4: LENGTH", book.many(0), 2410);
        check.same("4: VERSION", book.many(1), 1);
        book.change(110, -10);
        int[] taken = {99, 110, 111, 119, 110, 111, 2399};
        sameFrames("4: taken out", book, taken);
        check.same("4: LENGTH again", book.many(0), 2400);
        check.same("4: VERSION again", book.many(1), 2);
        int[] gone = {0, 1, 1, 1, 0, 0, 0};
        for (int i = 0; i < gone.length; i++) {
            check.same("4: GONE, HIT " + i, book.ofHit(i, 2), gone[i]);
        }
        book.change(0, 50);
        int[] moved = {149, 110, 111, 119, 160, 161, 2449};
        sameFrames("4: one that is GONE does not move", book, moved);
        book.change(0, -130);
        check.same("4: nor as FRAMES ahead of it are taken out", book.ofHit(3, 0), 119);
        check.same("4: and stays GONE", book.ofHit(3, 2), 1);
        check.same("4: those that are GONE", book.many(3), 3);
    }

    private static void sameFrames(String what, Clickbook book, int[] frames) {
        for (int i = 0; i < frames.length; i++) {
            check.same(what + ", HIT " + i, book.ofHit(i, 0), frames[i]);
        }
    }

    /** A REVEAL is told by CUES right ahead of it and at it. */
    private static void sameReveal(String what, Clickbook book, int theme, int reveal) {
        int probe = book.cue(reveal, theme, 1, 0, 0);
        check.same(what + ": at it", book.ofCue(probe, 10), 0);
        if (reveal > 0) {
            book.shift(probe, reveal - 1);
            check.same(what + ": ahead of it", book.ofCue(probe, 10), 1);
        }
    }

    private static void changeMovesReveals() {
        Clickbook book = new Clickbook();
        book.theme(99);
        book.theme(100);
        book.theme(109);
        book.theme(110);
        book.change(100, -10);
        sameReveal("4: REVEAL ahead of what is taken out", book, 0, 99);
        sameReveal("4: REVEAL at its first FRAME", book, 1, 100);
        sameReveal("4: REVEAL at its last FRAME", book, 2, 100);
        sameReveal("4: REVEAL behind it", book, 3, 100);
        Clickbook more = new Clickbook();
        more.theme(99);
        more.theme(100);
        more.theme(2400);
        more.change(100, 7);
        sameReveal("4: REVEAL ahead of what is put in", more, 0, 99);
        sameReveal("4: REVEAL at it", more, 1, 107);
        sameReveal("4: REVEAL at LENGTH", more, 2, 2407);
    }

    private static void changeMovesStarts() {
        Clickbook book = new Clickbook();
        int[] starts = {99, 100, 101, 109, 110, 111, 2400};
        for (int start : starts) {
            book.cue(start, Check.NONE, 1, 0, 0);
        }
        check.same("4: CUES without BARS are not TOUCHED", book.change(100, -10), 0);
        int[] taken = {99, 100, 100, 100, 100, 101, 2390};
        sameStarts("4: taken out", book, taken);
        check.same("4: nor by what is put in", book.change(100, 999), 0);
        int[] put = {99, 1099, 1099, 1099, 1099, 1100, 3389};
        sameStarts("4: put in", book, put);
    }

    private static void sameStarts(String what, Clickbook book, int[] starts) {
        for (int i = 0; i < starts.length; i++) {
            check.same(what + ", START of CUE " + i, book.ofCue(i, 0), starts[i]);
            check.same(what + ", EDITION of CUE " + i, book.ofCue(i, 5), 0);
        }
    }

    /** One CUE of the FRAMES 100 to 119 (EDITION 1), and one CHANGE. */
    private static void touches(String what, int frame, int n, int due, int start) {
        Clickbook book = new Clickbook();
        Check.cue(book, 100, 2, 40);
        check.same(what + ": END ahead", book.ofCue(0, 8), 120);
        check.same(what + ": TOUCHED", book.change(frame, n), due);
        check.same(what + ": EDITION", book.ofCue(0, 5), 1 + due);
        check.same(what + ": START", book.ofCue(0, 0), start);
        check.same(what + ": END", book.ofCue(0, 8), start + 20);
    }

    private static void changeTouches() {
        touches("4: put in ahead of START", 99, 5, 0, 105);
        touches("4: put in at START", 100, 5, 0, 105);
        touches("4: put in behind START", 101, 5, 1, 100);
        touches("4: put in at the last FRAME", 119, 5, 1, 100);
        touches("4: put in at END", 120, 5, 0, 100);
        touches("4: put in behind END", 121, 5, 0, 100);
        touches("4: taken out up to START", 90, -10, 0, 90);
        touches("4: START taken out", 90, -11, 1, 90);
        touches("4: taken out from START on", 100, -1, 1, 100);
        touches("4: taken out within", 105, -3, 1, 100);
        touches("4: taken out around", 90, -100, 1, 90);
        touches("4: last FRAME taken out", 119, -1, 1, 100);
        touches("4: taken out from END on", 120, -1, 0, 100);
        Clickbook rounded = new Clickbook();
        Check.cue(rounded, 100, 3, 27);
        check.same("4: END is rounded up", rounded.ofCue(0, 8), 121);
        check.same("4: its part of a FRAME counts", rounded.change(120, 1), 1);
        Clickbook many = new Clickbook();
        Check.cue(many, 100, 2, 40);
        Check.cue(many, 110, 2, 40);
        Check.cue(many, 111, 2, 40);
        check.same("4: several are TOUCHED", many.change(111, 2), 2);
        check.same("4: several are TOUCHED once each", many.change(90, -60), 3);
        check.same("4: EDITION of the first", many.ofCue(0, 5), 3);
        check.same("4: EDITION of the last", many.ofCue(2, 5), 2);
    }

    private static void changeAtTheEdges() {
        Clickbook book = new Clickbook();
        book.hit(2399, 0);
        book.theme(2400);
        check.same("4: put in at LENGTH", book.change(2400, 999), 0);
        check.same("4: the last HIT stays", book.ofHit(0, 0), 2399);
        check.same("4: LENGTH then", book.many(0), 3399);
        sameReveal("4: the REVEAL at LENGTH moves", book, 0, 3399);
        check.same("4: all behind are taken out", book.change(2400, -999), 0);
        check.same("4: LENGTH again", book.many(0), 2400);
        Clickbook least = new Clickbook();
        least.change(0, -999);
        least.change(0, -999);
        check.refused("4: less than 24 left", Check.ARGUMENT, least, b -> b.change(0, -379));
        check.same("4: 24 left", least.change(0, -378), 0);
        check.same("4: LENGTH of those", least.many(0), 24);
        check.refused("4: less than 24 left again", Check.ARGUMENT, least, b -> b.change(0, -1));
        Clickbook over = new Clickbook();
        Check.cue(over, 2395, 2, 40);
        check.same("4: a CUE that RUNS OVER, put in at LENGTH", over.change(2400, 14), 1);
        check.same("4: it still RUNS OVER", over.ofCue(0, 9), 1);
        check.same("4: put in at LENGTH again, within it", over.change(2414, 1), 1);
        check.same("4: it does not RUN OVER then", over.ofCue(0, 9), 0);
    }

    private static void changeRefuses() {
        Clickbook book = new Clickbook();
        book.hit(10, 2);
        Check.cue(book, 5, 4, 50);
        check.refused("4: frame -1", Check.ARGUMENT, book, b -> b.change(-1, 1));
        check.refused("4: frame above LENGTH", Check.ARGUMENT, book, b -> b.change(2401, 1));
        check.refused("4: least frame", Check.ARGUMENT, book, b -> b.change(Integer.MIN_VALUE, -1));
        check.refused("4: most frame", Check.ARGUMENT, book, b -> b.change(Integer.MAX_VALUE, -1));
        check.refused("4: n 0", Check.ARGUMENT, book, b -> b.change(7, 0));
        check.refused("4: n 1000", Check.ARGUMENT, book, b -> b.change(7, 1000));
        check.refused("4: n -1000", Check.ARGUMENT, book, b -> b.change(7, -1000));
        check.refused("4: least n", Check.ARGUMENT, book, b -> b.change(7, Integer.MIN_VALUE));
        check.refused("4: most n", Check.ARGUMENT, book, b -> b.change(7, Integer.MAX_VALUE));
        check.refused("4: FRAMES that are not there", Check.ARGUMENT, book, b -> b.change(2400, -1));
        check.refused("4: some that are not there", Check.ARGUMENT, book, b -> b.change(2390, -11));
        for (int i = 1; i <= 20; i++) {
            book.change(2400, i % 2 == 1 ? 1 : 2);
            check.same("4: VERSION", book.many(1), i);
        }
        check.refused("4: VERSION above 20", Check.STATE, book, b -> b.change(7, 1));
        check.refused("4: VERSION above 20, and n 0", Check.ARGUMENT, book, b -> b.change(7, 0));
        check.refused("4: VERSION above 20, and not there", Check.ARGUMENT, book, b -> b.change(2430, -1));
    }
}

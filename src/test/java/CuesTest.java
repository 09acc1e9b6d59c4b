/** Promises 5 to 8: cue, bar, retime, shift. */
final class CuesTest {
    private static final Check check = new Check();

    public static void main(String[] args) {
        cue();
        cueRefuses();
        bar();
        barRefuses();
        retime();
        retimeRefuses();
        shift();
        shiftRefuses();
        check.end("CuesTest");
    }

    private static void cue() {
        Clickbook book = new Clickbook();
        book.theme(10);
        book.theme(20);
        check.same("5: the first CUE", book.cue(0, Check.NONE, 1, 0, 0), 0);
        check.same("5: the second CUE", book.cue(2400, 1, 40, 3, 2), 1);
        int[] first = {0, -1, 1, 0, 0, 0, 0, 0, 0, 0, 0, 0, 0};
        int[] second = {2400, 1, 40, 3, 2, 0, 0, 0, 2400, 0, 0, 0, 0};
        for (int what = 0; what <= 12; what++) {
            check.same("5: first CUE, " + what, book.ofCue(0, what), first[what]);
            check.same("5: second CUE, " + what, book.ofCue(1, what), second[what]);
        }
        for (int i = 2; i < 8; i++) {
            check.same("5: CUE " + i, book.cue(i, i % 3 - 1, 2, 1, 1), i);
        }
        check.same("5: CUES", book.many(6), 8);
        check.refused("5: a ninth", Check.STATE, book, b -> b.cue(0, 0, 1, 0, 0));
        check.refused("5: a ninth, no THEME", Check.INDEX, book, b -> b.cue(0, 2, 1, 0, 0));
        check.refused("5: a ninth, wrong USE", Check.ARGUMENT, book, b -> b.cue(0, 0, 1, 0, 3));
    }

    private static void cueRefuses() {
        Clickbook book = new Clickbook();
        book.theme(10);
        book.cue(3, 0, 1, 0, 0);
        check.refused("5: theme -2", Check.INDEX, book, b -> b.cue(0, -2, 1, 0, 0));
        check.refused("5: no such THEME", Check.INDEX, book, b -> b.cue(0, 1, 1, 0, 0));
        check.refused("5: least theme", Check.INDEX, book, b -> b.cue(0, Integer.MIN_VALUE, 1, 0, 0));
        check.refused("5: most theme", Check.INDEX, book, b -> b.cue(0, Integer.MAX_VALUE, 1, 0, 0));
        check.refused("5: no such THEME, and all wrong", Check.INDEX, book, b -> b.cue(-1, 4, 0, -1, -1));
        check.refused("5: start -1", Check.ARGUMENT, book, b -> b.cue(-1, 0, 1, 0, 0));
        check.refused("5: start above LENGTH", Check.ARGUMENT, book, b -> b.cue(2401, 0, 1, 0, 0));
        check.refused("5: players 0", Check.ARGUMENT, book, b -> b.cue(0, 0, 0, 0, 0));
        check.refused("5: players 41", Check.ARGUMENT, book, b -> b.cue(0, 0, 41, 0, 0));
        check.refused("5: writer -1", Check.ARGUMENT, book, b -> b.cue(0, 0, 1, -1, 0));
        check.refused("5: writer 4", Check.ARGUMENT, book, b -> b.cue(0, 0, 1, 4, 0));
        check.refused("5: use -1", Check.ARGUMENT, book, b -> b.cue(0, 0, 1, 0, -1));
        check.refused("5: use 3", Check.ARGUMENT, book, b -> b.cue(0, 0, 1, 0, 3));
        check.same("5: none was told", book.cue(0, 0, 1, 0, 0), 1);
    }

    private static void bar() {
        Clickbook book = new Clickbook();
        int cue = Check.cue(book, 50);
        check.same("6: the first BAR", book.bar(cue, 2, 24), 0);
        check.same("6: EDITION is 1 more", book.ofCue(cue, 5), 1);
        check.same("6: END", book.ofCue(cue, 8), 62);
        check.same("6: the second BAR", book.bar(cue, 7, 160), 1);
        check.same("6: EDITION is 1 more again", book.ofCue(cue, 5), 2);
        check.same("6: END then", book.ofCue(cue, 8), 62 + 280);
        check.same("6: METER of the first", book.ofBar(cue, 0, 0), 2);
        check.same("6: CLICK of the first", book.ofBar(cue, 0, 1), 24);
        check.same("6: METER of the second", book.ofBar(cue, 1, 0), 7);
        check.same("6: CLICK of the second", book.ofBar(cue, 1, 1), 160);
        for (int i = 2; i < 9; i++) {
            check.same("6: BAR " + i, book.bar(cue, 2, 25), i);
        }
        check.same("6: BARS", book.ofCue(cue, 6), 9);
        check.same("6: BEATS", book.ofCue(cue, 7), 2 + 7 + 7 * 2);
        check.same("6: END is rounded up", book.ofCue(cue, 8), 342 + 88);
        check.refused("6: a tenth", Check.STATE, book, b -> b.bar(0, 2, 24));
        check.refused("6: a tenth, wrong METER", Check.ARGUMENT, book, b -> b.bar(0, 1, 24));
        check.refused("6: a tenth, no CUE", Check.INDEX, book, b -> b.bar(1, 2, 24));
        int other = Check.cue(book, 51, 3, 30);
        check.same("6: of the other CUE", book.ofCue(other, 6), 1);
        check.same("6: EDITION of the other CUE", book.ofCue(other, 5), 1);
        check.same("6: EDITION of the first CUE", book.ofCue(cue, 5), 9);
    }

    private static void barRefuses() {
        Clickbook book = new Clickbook();
        check.refused("6: without CUES", Check.INDEX, book, b -> b.bar(0, 2, 24));
        Check.cue(book, 50, 3, 30);
        check.refused("6: cue -1", Check.INDEX, book, b -> b.bar(-1, 2, 24));
        check.refused("6: cue 1", Check.INDEX, book, b -> b.bar(1, 2, 24));
        check.refused("6: cue 1, and all wrong", Check.INDEX, book, b -> b.bar(1, 0, 0));
        check.refused("6: meter 1", Check.ARGUMENT, book, b -> b.bar(0, 1, 24));
        check.refused("6: meter 8", Check.ARGUMENT, book, b -> b.bar(0, 8, 24));
        check.refused("6: click 23", Check.ARGUMENT, book, b -> b.bar(0, 2, 23));
        check.refused("6: click 161", Check.ARGUMENT, book, b -> b.bar(0, 2, 161));
        check.refused("6: most meter", Check.ARGUMENT, book, b -> b.bar(0, Integer.MAX_VALUE, 24));
        check.refused("6: most click", Check.ARGUMENT, book, b -> b.bar(0, 2, Integer.MAX_VALUE));
    }

    private static void retime() {
        Clickbook book = new Clickbook();
        int cue = Check.cue(book, 100, 4, 48, 3, 25, 2, 40);
        check.same("7: the END then", book.retime(cue, 1, 5, 25), 200);
        check.same("7: METER", book.ofBar(cue, 1, 0), 5);
        check.same("7: BEATS", book.ofCue(cue, 7), 11);
        check.same("7: EDITION", book.ofCue(cue, 5), 4);
        check.same("7: first BEAT of the BAR behind", book.ofBar(cue, 2, 2), 9);
        check.same("7: FRAME of that", book.ofBar(cue, 2, 3), 100 + 48 + 31);
        check.same("7: another CLICK", book.retime(cue, 0, 4, 160), 260 + 52);
        check.same("7: CLICK", book.ofBar(cue, 0, 1), 160);
        check.same("7: nothing is another one by that", book.retime(cue, 0, 4, 160), 312);
        check.same("7: EDITION is 1 more by that too", book.ofCue(cue, 5), 6);
        check.same("7: fewer BEATS", book.retime(cue, 0, 2, 24), 100 + 12 + 52);
        check.same("7: BEATS then", book.ofCue(cue, 7), 9);
        book.open(5);
        book.take(cue, 777, 0);
        check.same("7: VALID", book.ofTake(0, 3), 1);
        book.retime(cue, 0, 2, 24);
        check.same("7: not VALID, though nothing is another one", book.ofTake(0, 3), 0);
    }

    private static void retimeRefuses() {
        Clickbook book = new Clickbook();
        check.refused("7: without CUES", Check.INDEX, book, b -> b.retime(0, 0, 2, 24));
        Check.cue(book, 100, 4, 48, 3, 25);
        Check.cue(book, 100);
        check.refused("7: cue -1", Check.INDEX, book, b -> b.retime(-1, 0, 2, 24));
        check.refused("7: cue 2", Check.INDEX, book, b -> b.retime(2, 0, 2, 24));
        check.refused("7: bar -1", Check.INDEX, book, b -> b.retime(0, -1, 2, 24));
        check.refused("7: bar 2", Check.INDEX, book, b -> b.retime(0, 2, 2, 24));
        check.refused("7: without BARS", Check.INDEX, book, b -> b.retime(1, 0, 2, 24));
        check.refused("7: bar 2, and all wrong", Check.INDEX, book, b -> b.retime(0, 2, 1, 23));
        check.refused("7: meter 1", Check.ARGUMENT, book, b -> b.retime(0, 0, 1, 24));
        check.refused("7: meter 8", Check.ARGUMENT, book, b -> b.retime(0, 0, 8, 24));
        check.refused("7: click 23", Check.ARGUMENT, book, b -> b.retime(0, 0, 2, 23));
        check.refused("7: click 161", Check.ARGUMENT, book, b -> b.retime(0, 0, 2, 161));
        check.refused("7: least bar", Check.INDEX, book, b -> b.retime(0, Integer.MIN_VALUE, 2, 24));
        check.refused("7: most bar", Check.INDEX, book, b -> b.retime(0, Integer.MAX_VALUE, 2, 24));
    }

    private static void shift() {
        Clickbook book = new Clickbook();
        book.hit(200, 0);
        book.hit(212, 1);
        book.hit(2000, 0);
        int cue = Check.cue(book, 100, 4, 48);
        check.same("8: HITS that are MET then", book.shift(cue, 200), 2);
        check.same("8: START", book.ofCue(cue, 0), 200);
        check.same("8: END", book.ofCue(cue, 8), 248);
        check.same("8: EDITION stays", book.ofCue(cue, 5), 1);
        check.same("8: by the TOLERANCE", book.shift(cue, 201), 1);
        check.same("8: too far", book.shift(cue, 202), 0);
        Check.cue(book, 2000, 2, 24);
        check.same("8: those that another CUE meets count too", book.shift(cue, 200), 3);
        check.same("8: to 0", book.shift(cue, 0), 1);
        check.same("8: to LENGTH", book.shift(cue, 2400), 1);
        check.same("8: it RUNS OVER there", book.ofCue(cue, 9), 1);
        book.shift(cue, 0);
        book.open(9);
        book.take(cue, 5, 0);
        book.shift(cue, 44);
        check.same("8: a TAKE stays VALID", book.ofTake(0, 3), 1);
    }

    private static void shiftRefuses() {
        Clickbook book = new Clickbook();
        check.refused("8: without CUES", Check.INDEX, book, b -> b.shift(0, 0));
        Check.cue(book, 100, 4, 48);
        book.hit(200, 9);
        check.refused("8: cue -1", Check.INDEX, book, b -> b.shift(-1, 0));
        check.refused("8: cue 1", Check.INDEX, book, b -> b.shift(1, 0));
        check.refused("8: cue 1, and a wrong start", Check.INDEX, book, b -> b.shift(1, -1));
        check.refused("8: start -1", Check.ARGUMENT, book, b -> b.shift(0, -1));
        check.refused("8: start above LENGTH", Check.ARGUMENT, book, b -> b.shift(0, 2401));
        check.refused("8: most start", Check.ARGUMENT, book, b -> b.shift(0, Integer.MAX_VALUE));
        check.same("8: START stays", book.ofCue(0, 0), 100);
    }
}

/** Promises 9 to 11: open, take, close. */
final class StudioTest {
    private static final Check check = new Check();

    public static void main(String[] args) {
        open();
        take();
        takeTime();
        takeRefuses();
        takeRefusesInOrder();
        mostTakes();
        close();
        closeCosts();
        check.end("StudioTest");
    }

    private static void open() {
        Clickbook book = new Clickbook();
        check.refused("9: band 0", Check.ARGUMENT, book, b -> b.open(0));
        check.refused("9: band -1", Check.ARGUMENT, book, b -> b.open(-1));
        check.refused("9: band 61", Check.ARGUMENT, book, b -> b.open(61));
        check.same("9: no TAKES so far", book.open(60), 0);
        check.same("9: the band", book.many(12), 60);
        check.same("9: TIME", book.many(13), 0);
        check.refused("9: one is open", Check.STATE, book, b -> b.open(1));
        check.refused("9: one is open, and a wrong band", Check.ARGUMENT, book, b -> b.open(61));
        Check.cue(book, 0, 2, 24);
        book.take(0, 5, 0);
        book.take(0, 6, 0);
        check.same("9: TIME of those", book.many(13), 8);
        book.close();
        check.same("9: TAKES so far", book.open(1), 2);
        check.same("9: the band then", book.many(12), 1);
        check.same("9: TIME starts anew", book.many(13), 0);
        check.refused("9: one with a band of 1 is open", Check.STATE, book, b -> b.open(1));
    }

    private static void take() {
        Clickbook book = new Clickbook();
        int cue = Check.cue(book, 0, 2, 24, 3, 24, 2, 24);
        int other = Check.cue(book, 0, 2, 24);
        book.open(1);
        check.same("10: the first TAKE", book.take(cue, 907, -2), 0);
        check.same("10: the second TAKE", book.take(other, 9, 2), 1);
        check.same("10: the third TAKE", book.take(cue, 999, 0), 2);
        check.same("10: the fourth TAKE", book.take(cue, 0, 0), 3);
        int[][] due = {{0, 3, -2, 1, 16}, {1, 1, 2, 1, 9}, {0, 3, 0, 1, 27}, {0, 3, 0, 1, 0}};
        for (int t = 0; t < due.length; t++) {
            for (int what = 0; what <= 4; what++) {
                check.same("10: TAKE " + t + ", " + what, book.ofTake(t, what), due[t][what]);
            }
        }
        check.same("10: TAKES", book.many(10), 4);
        book.bar(other, 2, 24);
        check.same("10: of the EDITION that the CUE has then", book.ofTake(book.take(other, 12, 0), 1), 2);
    }

    /** TIME of one TAKE of a CUE of that many FRAMES. */
    private static void timeOf(int frames, int due, int... metersAndClicks) {
        Clickbook book = new Clickbook();
        int cue = Check.cue(book, 0, metersAndClicks);
        check.same("10: END of " + frames + " FRAMES", book.ofCue(cue, 8), frames);
        book.open(1);
        book.take(cue, 0, 0);
        check.same("10: TIME of " + frames + " FRAMES", book.many(13), due);
    }

    private static void takeTime() {
        timeOf(12, 4, 2, 24);
        timeOf(1440, 4, 6, 160, 6, 160, 6, 160, 6, 160, 6, 160, 6, 160);
        timeOf(1441, 5, 6, 160, 6, 160, 6, 160, 6, 160, 6, 160, 4, 160, 3, 107);
        timeOf(2520, 5, 7, 160, 7, 160, 7, 160, 7, 160, 7, 160, 7, 160, 7, 160, 7, 160, 7, 160);
        Clickbook book = new Clickbook();
        Check.cue(book, 2400, 2, 24);
        Check.cue(book, 0, 7, 160, 7, 160, 7, 160, 7, 160, 7, 160, 7, 160, 7, 160, 7, 160, 7, 160);
        book.open(1);
        check.same("10: one that RUNS OVER", book.take(0, 5, 0), 0);
        for (int i = 0; i < 28; i++) {
            book.take(0, 5, 0);
        }
        check.same("10: TIME of 29", book.many(13), 116);
        check.refused("10: TIME of 121", Check.STATE, book, b -> b.take(1, 0, 0));
        check.same("10: TIME of 120", book.take(0, 5, 0), 29);
        check.refused("10: TIME of 124", Check.STATE, book, b -> b.take(0, 5, 0));
        check.same("10: TIME stays", book.many(13), 120);
        book.close();
        book.open(1);
        check.same("10: anew in another SESSION", book.take(1, 0, 0), 30);
    }

    private static void takeRefuses() {
        Clickbook book = new Clickbook();
        check.refused("10: without CUES", Check.INDEX, book, b -> b.take(0, 0, 0));
        Check.cue(book, 0, 2, 24, 2, 24);
        Check.cue(book, 0);
        Check.cue(book, 0, 2, 24, 2, 24, 2, 24, 2, 24, 2, 24, 2, 24, 2, 24, 2, 24, 2, 24);
        check.refused("10: no SESSION", Check.STATE, book, b -> b.take(0, 0, 0));
        book.open(20);
        check.refused("10: cue -1", Check.INDEX, book, b -> b.take(-1, 0, 0));
        check.refused("10: cue 3", Check.INDEX, book, b -> b.take(3, 0, 0));
        check.refused("10: notes -1", Check.ARGUMENT, book, b -> b.take(0, -1, 0));
        check.refused("10: least notes", Check.ARGUMENT, book, b -> b.take(0, Integer.MIN_VALUE, 0));
        check.refused("10: three digits for two BARS", Check.ARGUMENT, book, b -> b.take(0, 100, 0));
        check.refused("10: ten digits for nine BARS", Check.ARGUMENT, book, b -> b.take(2, 1000000000, 0));
        check.refused("10: most notes", Check.ARGUMENT, book, b -> b.take(2, Integer.MAX_VALUE, 0));
        check.refused("10: notes without BARS", Check.ARGUMENT, book, b -> b.take(1, 1, 0));
        check.refused("10: push -3", Check.ARGUMENT, book, b -> b.take(0, 0, -3));
        check.refused("10: push 3", Check.ARGUMENT, book, b -> b.take(0, 0, 3));
        check.refused("10: no BARS", Check.STATE, book, b -> b.take(1, 0, 0));
        book.cue(0, Check.NONE, 21, 0, 0);
        book.bar(3, 2, 24);
        check.refused("10: more PLAYERS than the band", Check.STATE, book, b -> b.take(3, 0, 0));
        book.cue(0, Check.NONE, 20, 0, 0);
        book.bar(4, 2, 24);
        check.same("10: as many PLAYERS as the band", book.take(4, 0, 0), 0);
        check.same("10: nine digits for nine BARS", book.take(2, 999999999, 0), 1);
        check.same("10: two digits for two BARS", book.take(0, 99, 0), 2);
    }

    private static void takeRefusesInOrder() {
        Clickbook book = new Clickbook();
        Check.cue(book, 0);
        check.refused("10: no CUE ahead of all else", Check.INDEX, book, b -> b.take(1, -1, 9));
        check.refused("10: wrong notes ahead of no SESSION", Check.ARGUMENT, book, b -> b.take(0, 1, 0));
        check.refused("10: wrong push ahead of no SESSION", Check.ARGUMENT, book, b -> b.take(0, 0, 3));
        check.refused("10: neither SESSION nor BARS", Check.STATE, book, b -> b.take(0, 0, 0));
    }

    private static void mostTakes() {
        Clickbook book = new Clickbook();
        Check.cue(book, 0, 2, 24);
        for (int i = 0; i < 40; i++) {
            if (i % 30 == 0) {
                book.open(2);
            }
            check.same("10: TAKE " + i, book.take(0, i % 10, 0), i);
            if (i % 30 == 29) {
                book.close();
            }
        }
        check.refused("10: a forty-first", Check.STATE, book, b -> b.take(0, 0, 0));
        check.refused("10: a forty-first, wrong notes", Check.ARGUMENT, book, b -> b.take(0, 10, 0));
        check.same("10: TIME stays at the forty-first", book.many(13), 40);
        check.same("10: TAKES are at most 40", book.many(10), 40);
    }

    private static void close() {
        Clickbook book = new Clickbook();
        check.refused("11: none is open", Check.STATE, book, Clickbook::close);
        book.open(60);
        check.same("11: without TIME", book.close(), 0);
        check.same("11: the band", book.many(12), 0);
        check.refused("11: none is open any more", Check.STATE, book, Clickbook::close);
        Check.cue(book, 0, 2, 24);
        book.open(7);
        book.take(0, 0, 0);
        check.same("11: TIME ahead", book.many(13), 4);
        check.same("11: nothing is paid ahead", book.many(14), 0);
        check.same("11: one of 15 minutes", book.close(), 28);
        check.same("11: TIME without a SESSION", book.many(13), 0);
        check.same("11: what SESSIONS cost ever", book.many(14), 28);
        check.same("11: TAKES stay", book.many(11), 1);
        book.open(1);
        book.take(0, 0, 0);
        check.same("11: another one", book.close(), 4);
        check.same("11: what all cost ever", book.many(14), 32);
    }

    /** TAKES of 4 minutes (one BAR) and of 5 (nine BARS), and what a band of 10 costs then. */
    private static void costOf(int ofFour, int ofFive, int due) {
        Clickbook book = new Clickbook();
        Check.cue(book, 0, 2, 24);
        Check.cue(book, 0, 7, 160, 7, 160, 7, 160, 7, 160, 7, 160, 7, 160, 7, 160, 7, 160, 7, 160);
        book.open(10);
        for (int i = 0; i < ofFour; i++) {
            book.take(0, 0, 0);
        }
        for (int i = 0; i < ofFive; i++) {
            book.take(1, 0, 0);
        }
        int minutes = ofFour * 4 + ofFive * 5;
        check.same("11: TIME " + minutes, book.many(13), minutes);
        check.same("11: cost of TIME " + minutes, book.close(), due);
    }

    private static void closeCosts() {
        costOf(0, 3, 40);
        costOf(4, 0, 80);
        costOf(15, 0, 160);
        costOf(14, 1, 160 + 60);
        costOf(0, 15, 160 + 60);
        costOf(19, 0, 160 + 120);
        costOf(30, 0, 160 + 240);
    }
}

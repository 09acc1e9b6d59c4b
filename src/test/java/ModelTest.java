/** Long runs of calls, always the same ones, on the class and on the model: each answer and each exception. */
final class ModelTest {
    private static final int RUNS = 250;
    /** As many as the document promises anything for. */
    private static final int CALLS = 512;

    private static final Check check = new Check();

    private long seed;
    private Clickbook book;
    private Model model;
    // a small picture has more that meets, touches and clashes
    private int small;
    private int wrongOnes;

    public static void main(String[] args) {
        ModelTest test = new ModelTest();
        int runs = args.length > 0 ? Integer.parseInt(args[0]) : RUNS;
        for (int run = 0; run < runs; run++) {
            test.run(run);
        }
        check.end("ModelTest");
    }

    private void run(int run) {
        seed = 1000003L * run + 17;
        book = new Clickbook();
        model = new Model();
        small = below(3);
        wrongOnes = run % 4 == 0 ? 6 : 40;
        for (int call = 0; call < CALLS; call++) {
            String text = "run " + run + ", call " + call + ": ";
            int kind = call < 60 ? early() : below(100);
            oneCall(text, kind);
        }
    }

    /** At the beginning mostly what tells something. */
    private int early() {
        int kind = below(50);
        return kind < 8 ? 0 : kind < 10 ? 6 : kind < 18 ? 14 : kind < 38 ? 18 : kind < 39 ? 30 : kind < 49 ? 33 : 50;
    }

    private int below(int n) {
        seed = seed * 6364136223846793005L + 1442695040888963407L;
        return (int) ((seed >>> 33) % n);
    }

    /** Mostly a number from least to most, at times one at or behind the edges. */
    private int number(int least, int most) {
        if (below(wrongOnes) > 0) {
            return below(8) > 0 ? least + below(Math.max(1, most - least + 1)) : below(2) == 0 ? least : most;
        }
        int[] odd = {least - 1, most + 1, least - 2, most + 2, Integer.MIN_VALUE, Integer.MAX_VALUE, -1, 0};
        return odd[below(odd.length)];
    }

    private int frame() {
        int kind = below(10);
        if (kind < 2 && !model.cues.isEmpty()) {
            Model.Cue c = model.cues.get(below(model.cues.size()));
            return (below(2) == 0 ? c.start : c.end()) + below(5) - 2;
        }
        if (kind < 3 && !model.hits.isEmpty()) {
            return model.hits.get(below(model.hits.size())).frame + below(5) - 2;
        }
        if (kind < 4) {
            return model.length - below(4);
        }
        return number(0, kind < 8 && small > 0 ? Math.min(model.length, 300 * small) : model.length);
    }

    private int notes(int cue) {
        int bars = cue >= 0 && cue < model.cues.size() ? model.cues.get(cue).bars.size() : 0;
        int notes = 0;
        for (int k = 0; k < bars; k++) {
            notes = notes * 10 + (below(3) == 0 ? 9 : below(10));
        }
        return below(wrongOnes) > 0 ? notes : below(2) == 0 ? notes * 10 + 1 : -notes;
    }

    private int cueNumber() {
        return number(0, model.cues.size() - 1);
    }

    private int barOf(int cue) {
        return number(0, cue >= 0 && cue < model.cues.size() ? model.cues.get(cue).bars.size() - 1 : 0);
    }

    private int cutOf(int frame) {
        int kind = below(6);
        if (kind == 0) {
            return number(-999, 999);
        }
        return kind < 3 ? -1 - below(60) : kind == 3 ? frame - model.length : 1 + below(60);
    }

    private interface Asked<T> {
        Object of(T object);
    }

    private static <T> String answer(Asked<T> call, T object) {
        try {
            return String.valueOf(call.of(object));
        } catch (RuntimeException e) {
            return e.getClass().getSimpleName();
        }
    }

    private void both(String text, Asked<Clickbook> ofBook, Asked<Model> ofModel) {
        Asked<Clickbook> watched = b -> {
            try {
                return ofBook.of(b);
            } catch (RuntimeException e) {
                check.isTrue(text + " (thrown by the class itself, not by the machine)", Check.isOwnThrow(e));
                throw e;
            }
        };
        check.sameText(text, answer(watched, book), answer(ofModel, model));
    }

    private void oneCall(String text, int kind) {
        if (kind < 30) {
            tell(text, kind);
        } else if (kind < 50) {
            studio(text, kind);
        } else if (kind < 80) {
            ask(text, kind);
        } else {
            wouldBe(text, kind);
        }
    }

    private void tell(String text, int kind) {
        int cue = cueNumber();
        int bar = barOf(cue);
        int at = frame();
        int a = number(0, 9);
        int meter = number(2, 7);
        int click = number(24, small == 0 ? 160 : 60);
        if (kind < 4) {
            both(text + "hit", b -> b.hit(at, a), m -> m.hit(at, a));
        } else if (kind < 8) {
            if (kind < 7) {
                both(text + "theme", b -> b.theme(at), m -> m.theme(at));
            } else {
                int n = cutOf(at);
                both(text + "change " + at + " " + n, b -> b.change(at, n), m -> m.change(at, n));
            }
        } else if (kind < 18) {
            int theme = number(-1, model.reveals.size() - 1);
            int players = number(1, 40);
            int writer = number(0, 3);
            int use = number(0, 2);
            both(text + "cue", b -> b.cue(at, theme, players, writer, use), m -> m.cue(at, theme, players, writer, use));
        } else if (kind < 24) {
            both(text + "bar", b -> b.bar(cue, meter, click), m -> m.bar(cue, meter, click));
        } else if (kind < 25) {
            both(text + "retime", b -> b.retime(cue, bar, meter, click), m -> m.retime(cue, bar, meter, click));
        } else {
            both(text + "shift", b -> b.shift(cue, at), m -> m.shift(cue, at));
        }
    }

    private void studio(String text, int kind) {
        if (kind < 33) {
            int band = number(1, 60);
            both(text + "open", b -> b.open(band), m -> m.open(band));
        } else if (kind < 48) {
            int cue = cueNumber();
            int notes = notes(cue);
            int push = number(-2, 2);
            both(text + "take", b -> b.take(cue, notes, push), m -> m.take(cue, notes, push));
        } else {
            both(text + "close", Clickbook::close, Model::close);
        }
    }

    private void ask(String text, int kind) {
        int cue = cueNumber();
        int bar = barOf(cue);
        if (kind < 57) {
            int hit = number(0, model.hits.size() - 1);
            int what = number(0, 6);
            both(text + "ofHit " + what, b -> b.ofHit(hit, what), m -> m.ofHit(hit, what));
        } else if (kind < 63) {
            int what = number(0, 12);
            both(text + "ofCue " + what, b -> b.ofCue(cue, what), m -> m.ofCue(cue, what));
        } else if (kind < 66) {
            int what = number(0, 3);
            both(text + "ofBar " + what, b -> b.ofBar(cue, bar, what), m -> m.ofBar(cue, bar, what));
        } else if (kind < 68) {
            int beat = number(0, barOf(cue) * 4);
            both(text + "beat", b -> b.beat(cue, beat), m -> m.beat(cue, beat));
        } else if (kind < 71) {
            int take = number(0, model.takes.size() - 1);
            int what = number(0, 4);
            both(text + "ofTake " + what, b -> b.ofTake(take, what), m -> m.ofTake(take, what));
        } else if (kind < 73) {
            int writer = number(0, 3);
            both(text + "sheet", b -> b.sheet(writer), m -> m.sheet(writer));
        } else if (kind < 78) {
            int what = number(0, 15);
            both(text + "many " + what, b -> b.many(what), m -> m.many(what));
        } else {
            both(text + "meanNote", Clickbook::meanNote, Model::meanNote);
        }
    }

    private void wouldBe(String text, int kind) {
        int cue = cueNumber();
        int bar = barOf(cue);
        if (kind < 83) {
            both(text + "join", b -> b.join(cue), m -> m.join(cue));
        } else if (kind < 87) {
            both(text + "joined", b -> b.joined(cue, bar), m -> m.joined(cue, bar));
        } else if (kind < 89) {
            both(text + "bestStart", b -> b.bestStart(cue), m -> m.bestStart(cue));
        } else if (kind < 91) {
            both(text + "bestClick", b -> b.bestClick(cue, bar), m -> m.bestClick(cue, bar));
        } else if (kind < 98) {
            int at = frame();
            int n = cutOf(at);
            both(text + "wouldMeet " + at + " " + n, b -> b.wouldMeet(at, n), m -> m.wouldMeet(at, n));
        } else {
            both(text + "digest", Clickbook::digest, Model::digest);
        }
    }
}

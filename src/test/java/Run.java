import java.lang.reflect.InvocationTargetException;
import java.lang.reflect.Method;
import java.util.ArrayList;
import java.util.List;
import java.util.Set;
import java.util.TreeSet;

/**
 * A run of calls on a new object, told as text: rows behind one another or parted by ';', each a call and, if it is
 * checked, the answer that is due. A row without one has to be accepted, and to answer as the model does.
 *
 * <pre>hit 48 1 = 0; hit -1 0 = ARGUMENT</pre>
 *
 * Behind each row that is refused, and behind the whole run, the object is compared with another one on which only the
 * accepted calls that tell something were made: all that both answer from there on has to be the same.
 */
final class Run {
    /** The document promises nothing behind that many. */
    private static final int MOST_CALLS = 512;
    private static final Set<String> TELLING =
        Set.of("hit", "theme", "change", "cue", "bar", "retime", "shift", "open", "take", "close");
    private static final Set<String> REFUSED = Set.of("ARGUMENT", "STATE", "INDEX");

    private final Check check;
    /** Which call threw what, in all runs so far. */
    private final Set<String> seen = new TreeSet<>();

    Run(Check check) {
        this.check = check;
    }

    private static final class Row {
        final String text;
        final String name;
        final int[] numbers;
        final String due;

        Row(String text) {
            this.text = text;
            String[] sides = text.split("=");
            String[] words = sides[0].trim().split(" +");
            name = words[0];
            numbers = new int[words.length - 1];
            for (int i = 0; i < numbers.length; i++) {
                numbers[i] = Integer.parseInt(words[i + 1]);
            }
            due = sides.length > 1 ? sides[1].trim() : null;
        }
    }

    private static List<Row> rowsOf(String text) {
        List<Row> rows = new ArrayList<>();
        for (String part : text.split("[;\n]")) {
            if (!part.isBlank()) {
                rows.add(new Row(part.trim()));
            }
        }
        return rows;
    }

    /** Makes the calls of one object, counts them, and tells an answer or an exception as a text. */
    private final class Player {
        private final Object target;
        private final String title;
        private int calls;

        Player(Object target, String title) {
            this.target = target;
            this.title = title;
        }

        String call(String name, int... numbers) {
            calls++;
            if (calls == MOST_CALLS + 1) {
                check.isTrue(title + " (a run makes no more calls than the document promises)", false);
            }
            Class<?>[] types = new Class<?>[numbers.length];
            Object[] given = new Object[numbers.length];
            for (int i = 0; i < numbers.length; i++) {
                types[i] = int.class;
                given[i] = numbers[i];
            }
            try {
                Method method = target.getClass().getDeclaredMethod(name, types);
                return String.valueOf(method.invoke(target, given));
            } catch (InvocationTargetException e) {
                return thrown(name, e.getCause());
            } catch (ReflectiveOperationException e) {
                return "no such call: " + name;
            }
        }

        private String thrown(String name, Throwable e) {
            if (target instanceof Clickbook && e instanceof RuntimeException own) {
                check.isTrue(title + ", " + name + " (thrown by the class itself, not by the machine)",
                    Check.isOwnThrow(own));
            }
            return e.getClass() == Check.INDEX ? "INDEX" : e.getClass() == Check.ARGUMENT ? "ARGUMENT"
                : e.getClass() == Check.STATE ? "STATE" : e.getClass().getName();
        }

        int number(String name, int... numbers) {
            String answer = call(name, numbers);
            return answer.matches("-?[0-9]+") ? Integer.parseInt(answer) : Check.NONE;
        }

        void play(List<Row> rows) {
            for (Row row : rows) {
                call(row.name, row.numbers);
            }
        }

        /** All that can be found out of the object from here on, told in one text. */
        String allFromHereOn() {
            StringBuilder told = new StringBuilder();
            told.append(call("digest")).append(' ').append(call("meanNote"));
            int cues = number("many", 6);
            for (int cue = 0; cue < cues; cue++) {
                told.append("; starts ").append(call("bestStart", cue)).append(", clicks");
                int bars = number("ofCue", cue, 6);
                for (int bar = 0; bar < bars; bar++) {
                    told.append(' ').append(call("bestClick", cue, bar));
                }
            }
            int themes = number("many", 5);
            for (int theme = 0; theme < themes; theme++) {
                told.append("; REVEAL ").append(revealOf(theme));
            }
            for (Row row : rowsOf("hit 1 1; theme 2; cue 3 -1 4 1 2; bar 0 2 30; digest; retime 0 0 3 31; open 40;"
                + "take 0 0 0; digest; close; change 1 3; digest; meanNote")) {
                told.append("; ").append(row.text).append(" = ").append(call(row.name, row.numbers));
            }
            return told.toString();
        }

        /** No call tells a REVEAL: it is the least START with which a CUE of that THEME does not SPOIL. */
        private int revealOf(int theme) {
            int probe = Check.NONE;
            for (int cue = number("many", 6) - 1; cue >= 0 && probe == Check.NONE; cue--) {
                probe = number("ofCue", cue, 1) == theme ? cue : Check.NONE;
            }
            probe = probe == Check.NONE ? number("cue", 0, theme, 1, 0, 0) : probe;
            int least = 0;
            int most = probe == Check.NONE ? 0 : number("many", 0);
            while (least < most) {
                int middle = (least + most) / 2;
                call("shift", probe, middle);
                if (number("ofCue", probe, 10) == 1) {
                    least = middle + 1;
                } else {
                    most = middle;
                }
            }
            return least;
        }
    }

    void of(String title, String text) {
        List<Row> rows = rowsOf(text);
        List<Row> told = new ArrayList<>();
        Player book = new Player(new Clickbook(), title);
        Player model = new Player(new Model(), title);
        for (int i = 0; i < rows.size(); i++) {
            Row row = rows.get(i);
            String what = title + ", row " + (i + 1) + ": " + row.text;
            String got = book.call(row.name, row.numbers);
            check.sameText(what + " (by the model)", got, model.call(row.name, row.numbers));
            if (row.due != null) {
                check.sameText(what, got, row.due);
            }
            if (REFUSED.contains(got)) {
                seen.add(row.name + " " + got);
                check.isTrue(what + " (only told, and refused with " + got + ")", row.due != null);
                leftAsItWas(what, rows.subList(0, i + 1), told);
            } else if (TELLING.contains(row.name)) {
                told.add(row);
            }
        }
        leftAsItWas(title + ", at its end", rows, told);
    }

    private void leftAsItWas(String what, List<Row> all, List<Row> told) {
        Player one = new Player(new Clickbook(), what);
        one.play(all);
        Player other = new Player(new Clickbook(), what);
        other.play(told);
        check.sameText(what + " (all from there on)", one.allFromHereOn(), other.allFromHereOn());
    }

    /** Every exception that the face names has been seen in a run, each call with each of its own. */
    void sawAllExceptions() {
        for (Method method : Clickbook.class.getMethods()) {
            if (method.getDeclaringClass() == Clickbook.class) {
                for (Class<?> thrown : method.getExceptionTypes()) {
                    String name = thrown == Check.INDEX ? "INDEX" : thrown == Check.ARGUMENT ? "ARGUMENT" : "STATE";
                    check.isTrue("a run in which " + method.getName() + " throws " + name,
                        seen.contains(method.getName() + " " + name));
                }
            }
        }
    }
}

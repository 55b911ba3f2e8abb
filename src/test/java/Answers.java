import java.util.ArrayList;
import java.util.List;

/** All that an object answers, a line each: what leaves the lines as they were has changed nothing. */
final class Answers {
    /** The document promises 512 calls of an object: a scene may take the rest of them. */
    private static final int QUESTIONS = 190;
    private static final int UNITS = 16, NAMES = 32;

    interface Step {
        long on(RemakeNeeds2 x);
    }

    /** Calls on a new object, the same each time. */
    interface Scene {
        void on(RemakeNeeds2 x);
    }

    private final Scene scene;
    private final List<String> lines = new ArrayList<>();
    private RemakeNeeds2 x;
    private int left = 0;

    private Answers(Scene scene) {
        this.scene = scene;
    }

    static List<String> behind(Scene scene) {
        Answers answers = new Answers(scene);
        answers.askAll();
        return answers.lines;
    }

    static void same(String what, List<String> got, List<String> want) {
        Due.due(what + ": how many answers", got.size(), want.size());
        for (int i = 0; i < got.size() && i < want.size(); i++) {
            Due.holds(what + ": " + got.get(i) + ", before " + want.get(i), got.get(i).equals(want.get(i)));
        }
    }

    private void ask(String question, Step step) {
        if (left == 0) {
            x = new RemakeNeeds2();
            scene.on(x);
            left = QUESTIONS;
        }
        left--;
        RemakeNeeds2 asked = x;
        lines.add(question + " is " + Due.answerOf(() -> step.on(asked)));
    }

    private void askAll() {
        for (int u = -1; u <= UNITS; u++) {
            askUnit(u);
        }
        for (int what = 0; what < 5; what++) {
            int asked = what;
            ask("count(" + what + ")", y -> y.count(asked));
        }
        for (int place = 0; place < UNITS; place++) {
            int asked = place;
            ask("order(" + place + ")", y -> y.order(asked));
        }
        ask("needs()", y -> y.needs());
        ask("coarse()", y -> y.coarse());
        ask("anew()", y -> y.anew());
        askByChanging();
    }

    private void askUnit(int u) {
        ask("size(" + u + ")", y -> y.size(u));
        ask("why(" + u + ")", y -> y.why(u));
        ask("missing(" + u + ")", y -> y.missing(u));
        ask("output(" + u + ")", y -> y.output(u));
        ask("ring(" + u + ")", y -> y.ring(u));
        for (int other = 0; other < UNITS; other++) {
            int asked = other;
            ask("leads(" + u + ", " + other + ")", y -> y.leads(u, asked));
        }
        boolean isThere = lines.stream().noneMatch(("size(" + u + ") is -1")::equals);
        if (isThere) {
            askRows(u);
            askNames(u);
        }
    }

    private void askRows(int u) {
        boolean isRow = true;
        boolean isKept = true;
        for (int i = 0; isRow || isKept; i++) {
            int place = i;
            if (isRow) {
                ask("row(" + u + ", " + i + ")", y -> y.row(u, place));
                isRow = !lastThrew();
            }
            if (isKept) {
                ask("kept(" + u + ", " + i + ")", y -> y.kept(u, place));
                isKept = !lastThrew();
            }
        }
    }

    private boolean lastThrew() {
        return lines.get(lines.size() - 1).contains(" is throws ");
    }

    private void askNames(int u) {
        for (int name = 0; name < NAMES; name++) {
            int asked = name;
            ask("value(" + u + ", " + name + ")", y -> y.value(u, asked));
            ask("round(" + u + ", " + name + ")", y -> y.round(u, asked));
            ask("found(" + u + ", 2, " + name + ")", y -> y.found(u, 2, asked));
        }
    }

    /** How often a unit was made, and the next number, are told by changing calls alone: so each has its own object. */
    private void askByChanging() {
        left = 0;
        for (int u = 0; u < UNITS; u++) {
            int asked = u;
            ask("force(" + u + ")", y -> y.force(asked));
        }
        left = 0;
        ask("unit()", y -> y.unit());
        left = 0;
        ask("clear()", y -> y.clear());
        left = 0;
    }
}

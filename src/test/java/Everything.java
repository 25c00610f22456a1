import java.util.ArrayList;
import java.util.List;
import java.util.function.Supplier;

/**
 * All that an object answers, and what it still knows: its past, its images, its text, what was heard.
 * It is asked of several objects that are made alike, as each has a bounded number of calls.
 */
final class Everything {
    private static final int PLACES = 8, DOORS = 8, BOYS = 5;

    private final Supplier<Asked> make;
    private final List<String> answers = new ArrayList<>();
    private Asked keys;

    private Everything(Supplier<Asked> make) {
        this.make = make;
    }

    /** A line for each call and its answer. */
    static List<String> of(Supplier<Asked> make) {
        Everything everything = new Everything(make);
        everything.city();
        everything.boys();
        everything.ways();
        everything.odds();
        everything.kinds();
        everything.pastOfBoys();
        everything.pastOfDoors();
        everything.images();
        everything.text();
        everything.heard();
        return everything.answers;
    }

    private long ask(String name, int... numbers) {
        String call = Calls.written(name, numbers);
        long answer = keys.answers(call);
        answers.add(call + " = " + answer);
        return answer;
    }

    private void askEach(String name, int least, int most) {
        for (int a = least; a <= most; a++) {
            ask(name, a);
        }
    }

    private void askEach(String name, int mostA, int leastB, int mostB) {
        for (int a = 0; a <= mostA; a++) {
            for (int b = leastB; b <= mostB; b++) {
                ask(name, a, b);
            }
        }
    }

    private void city() {
        keys = make.get();
        askEach("now", 0, 4);
        askEach("count", 0, 5);
        ask("trace");
        ask("who");
        ask("ask");
        askEach("door", DOORS - 1, 0, 4);
    }

    private void boys() {
        keys = make.get();
        askEach("boy", BOYS - 1, 0, 9);
    }

    private void ways() {
        keys = make.get();
        askEach("way", BOYS - 1, 0, PLACES - 1);
        askEach("posts", -1, BOYS - 1);
        askEach("tune", 0, (1 << BOYS) - 1);
        askEach("thirds", BOYS - 1, 0, BOYS - 1);
    }

    private void odds() {
        keys = make.get();
        for (int x = 0; x <= 10; x++) {
            for (int k = 0; k <= 5; k++) {
                ask("odds", x, k, 0);
                ask("odds", x, k, 1);
            }
        }
    }

    private void kinds() {
        keys = make.get();
        askEach("rate", 5, 0, BOYS - 1);
        ask("trace");
    }

    private void whereBoysAre() {
        for (int b = 0; b < BOYS; b++) {
            ask("boy", b, 2);
            ask("boy", b, 5);
            ask("boy", b, 6);
        }
    }

    private void howDoorsAre() {
        for (int d = 0; d < DOORS; d++) {
            ask("door", d, 2);
        }
        ask("now", 0);
        ask("now", 1);
    }

    private void pastOfBoys() {
        keys = make.get();
        while (ask("undo") >= 0) {
            whereBoysAre();
        }
    }

    private void pastOfDoors() {
        keys = make.get();
        while (ask("undo") >= 0) {
            howDoorsAre();
        }
    }

    private void images() {
        keys = make.get();
        for (int image = 0; image <= 1; image++) {
            if (ask("back", image) >= 0) {
                whereBoysAre();
                howDoorsAre();
            }
        }
    }

    private void text() {
        keys = make.get();
        if (ask("city") < 0) {
            ask("type", ';');
            ask("city");
        }
        askEach("count", 0, 5);
        whereBoysAre();
        howDoorsAre();
        ask("clear");
    }

    /** What was heard shows in who() as things change. */
    private void heard() {
        keys = make.get();
        for (int d = 0; d < DOORS; d++) {
            if (ask("props", d, 1) < 0) {
                ask("props", d, 0);
            }
            ask("who");
        }
        for (int times = 0; times < 9; times++) {
            ask("michaelmas");
            ask("who");
        }
        while (ask("hears", 0, 1) >= 0) {
            ask("who");
        }
        ask("forget");
    }
}

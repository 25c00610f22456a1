import java.util.List;

/** The calls of the class by their names, and as tests write them: "goes(0, 1)". */
final class Calls {
    static final List<String> NAMES = List.of("type", "clear", "city", "door", "boy", "now", "goes", "colds",
        "props", "year", "michaelmas", "undo", "way", "posts", "tune", "thirds", "odds", "hears", "forget", "who",
        "ask", "rate", "keep", "back", "count", "trace");

    private Calls() { }

    /** What a call answers: its place among the names, and three numbers, of which it takes as many as it wants. */
    static long answer(ChoristerKeys keys, int call, int a, int b, int c) {
        switch (NAMES.get(call)) {
            case "type": return keys.type(a);
            case "clear": return keys.clear();
            case "city": return keys.city();
            case "door": return keys.door(a, b);
            case "boy": return keys.boy(a, b);
            case "now": return keys.now(a);
            case "goes": return keys.goes(a, b);
            case "colds": return keys.colds(a, b);
            case "props": return keys.props(a, b);
            case "year": return keys.year();
            case "michaelmas": return keys.michaelmas();
            case "undo": return keys.undo();
            case "way": return keys.way(a, b);
            case "posts": return keys.posts(a);
            case "tune": return keys.tune(a);
            case "thirds": return keys.thirds(a, b);
            case "odds": return keys.odds(a, b, c);
            case "hears": return keys.hears(a, b);
            case "forget": return keys.forget();
            case "who": return keys.who();
            case "ask": return keys.ask();
            case "rate": return keys.rate(a, b);
            case "keep": return keys.keep(a);
            case "back": return keys.back(a);
            case "count": return keys.count(a);
            case "trace": return keys.trace();
            default: throw new IllegalArgumentException("no such call: " + call);
        }
    }

    /** A call as tests write it. */
    static String written(String name, int... numbers) {
        StringBuilder call = new StringBuilder(name).append('(');
        for (int i = 0; i < numbers.length; i++) {
            call.append(i == 0 ? "" : ", ").append(numbers[i]);
        }
        return call.append(')').toString();
    }

    static long answer(ChoristerKeys keys, String written) {
        int open = written.indexOf('(');
        int call = NAMES.indexOf(written.substring(0, Math.max(open, 0)));
        if (call < 0 || !written.endsWith(")")) {
            throw new IllegalArgumentException("no call: " + written);
        }
        String inside = written.substring(open + 1, written.length() - 1);
        int[] numbers = new int[3];
        int given = 0;
        for (String number : inside.isEmpty() ? new String[0] : inside.split(", *")) {
            numbers[given++] = Integer.parseInt(number);
        }
        return answer(keys, call, numbers[0], numbers[1], numbers[2]);
    }
}

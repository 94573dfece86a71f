import java.util.List;

/** The calls of the face by their names, so that tests can tell them as text and make them on an object or a model. */
interface Calls {
    /** Nothing is promised about an object after this call. */
    int CALLS_MOST = 512;

    List<String> NAMES = List.of("wall", "ofModule", "ofLamp", "level", "die", "cut", "ofUnit", "slices", "bears",
        "steadiest", "send", "day", "reading", "back", "kinds", "levels", "cuts", "odds", "sheet", "lose", "put",
        "cell", "copy", "tell", "switchOn", "as", "trace", "fault", "many");

    /** Those that name FAULTS: fault() tells of the latest of them alone. */
    List<String> FAULTING = List.of("wall", "send", "day", "sheet", "put", "cell", "copy", "as");

    long call(String name, int... a);

    static int parametersOf(String name) {
        switch (name) {
            case "cuts": case "trace": case "fault": return 0;
            case "ofModule": case "ofLamp": case "level": case "ofUnit": case "as": return 2;
            case "reading": case "odds": case "sheet": case "put": case "cell": return 3;
            case "wall": case "send": return 4;
            case "day": case "copy": return 5;
            default: return 1;
        }
    }

    static String told(String name, int... a) {
        StringBuilder text = new StringBuilder(name).append('(');
        for (int k = 0; k < parametersOf(name); k++) {
            text.append(k == 0 ? "" : ", ").append(a[k]);
        }
        return text.append(')').toString();
    }
}

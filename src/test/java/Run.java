import java.util.ArrayList;
import java.util.List;

/**
 * A run of calls that can be made again on new objects: so all that an object can be asked is asked
 * within 512 calls. A run itself never changes; what follows makes a longer one.
 */
final class Run {
    interface Call {
        long on(ModuleScanner s);
    }

    private record Question(String text, Call call) {
    }

    static final int MOST_CALLS = 512;
    private static final List<Question> QUESTIONS = questions();

    private final List<Call> calls;

    Run() {
        this(List.of());
    }

    private Run(List<Call> calls) {
        this.calls = calls;
    }

    Run then(Call call) {
        List<Call> longer = new ArrayList<>(calls);
        longer.add(call);
        if (longer.size() > MOST_CALLS) {
            throw new IllegalStateException("a run of more than 512 calls");
        }
        return new Run(longer);
    }

    Run put(int n, long bytes) {
        return then(s -> s.put(n, bytes) ? 1 : 0);
    }

    Run put(byte[] bytes) {
        Run run = this;
        for (int at = 0; at < bytes.length; at += 8) {
            int n = Math.min(8, bytes.length - at);
            long packed = 0;
            for (int i = 0; i < n; i++) {
                packed = packed << 8 | bytes[at + i] & 255;
            }
            run = run.put(n, packed);
        }
        return run;
    }

    Run put(ClassMaker maker) {
        return put(maker.bytes());
    }

    Run scrap() {
        return then(s -> {
            s.scrap();
            return 0;
        });
    }

    Run add(int jar) {
        return then(s -> s.add(jar));
    }

    Run add(int jar, ClassMaker maker) {
        return put(maker).add(jar);
    }

    Run drop(int jar) {
        return then(s -> s.drop(jar));
    }

    /** With calls that change nothing in front, so that it has so many in all. */
    Run stretched(int length) {
        List<Call> longer = new ArrayList<>();
        while (longer.size() + calls.size() < length) {
            longer.add(ModuleScanner::names);
        }
        longer.addAll(calls);
        return new Run(longer);
    }

    int length() {
        return calls.size();
    }

    ModuleScanner made() {
        ModuleScanner s = new ModuleScanner();
        calls.forEach(call -> call.on(s));
        return s;
    }

    long lastAnswer() {
        return new Run(calls.subList(0, calls.size() - 1)).ask(calls.get(calls.size() - 1));
    }

    long ask(Call question) {
        return question.on(made());
    }

    /** How many bytes more the draft takes. */
    int room() {
        ModuleScanner s = made();
        int room = 0;
        while (room < 400 && s.put(8, 0)) {
            room += 8;
        }
        while (room < 400 && s.put(1, 0)) {
            room++;
        }
        return room;
    }

    /** The first question that is answered in another way after the other run; null if none is. */
    String difference(Run other) {
        List<Long> mine = answers();
        List<Long> others = other.answers();
        for (int i = 0; i < QUESTIONS.size(); i++) {
            if (!mine.get(i).equals(others.get(i))) {
                return QUESTIONS.get(i).text + " answers " + mine.get(i) + ", not " + others.get(i);
            }
        }
        return null;
    }

    private List<Long> answers() {
        List<Long> answers = new ArrayList<>();
        ModuleScanner s = made();
        int done = calls.size();
        for (Question question : QUESTIONS) {
            if (done == MOST_CALLS) {
                s = made();
                done = calls.size();
            }
            answers.add(question.call.on(s));
            done++;
        }
        return answers;
    }

    private static List<Question> questions() {
        List<Question> all = new ArrayList<>();
        all.add(new Question("names()", ModuleScanner::names));
        for (int n = -1; n <= 48; n++) {
            int name = n;
            for (int letter = -1; letter <= 16; letter++) {
                int i = letter;
                all.add(new Question("letter(" + name + ", " + i + ")", s -> s.letter(name, i)));
            }
            all.add(new Question("provider(" + name + ")", s -> s.provider(name)));
            all.add(new Question("closure(" + name + ")", s -> s.closure(name)));
            all.add(new Question("component(" + name + ")", s -> s.component(name)));
            all.add(new Question("layer(" + name + ")", s -> s.layer(name)));
            all.add(new Question("packageOf(" + name + ")", s -> s.packageOf(name)));
            all.add(new Question("jars(" + name + ")", s -> s.jars(name)));
        }
        for (int n = -1; n <= 16; n++) {
            int c = n;
            for (int part = -1; part <= 7; part++) {
                int which = part;
                all.add(new Question("file(" + c + ", " + which + ")", s -> s.file(c, which)));
            }
            all.add(new Question("uses(" + c + ", false)", s -> s.uses(c, false)));
            all.add(new Question("uses(" + c + ", true)", s -> s.uses(c, true)));
        }
        for (int n = -1; n <= 5; n++) {
            int jar = n;
            for (int part = -1; part <= 3; part++) {
                int which = part;
                all.add(new Question("jar(" + jar + ", " + which + ")", s -> s.jar(jar, which)));
            }
            all.add(new Question("exports(" + jar + ")", s -> s.exports(jar)));
            all.add(new Question("problems(" + jar + ")", s -> s.problems(jar)));
        }
        return all;
    }
}

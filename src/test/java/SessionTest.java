import java.util.ArrayList;
import java.util.List;
import java.util.Random;

/**
 * All promises, on one object for its whole life of 512 calls: calls of every kind, sound and wrong
 * ones, follow one another, and each answer is compared with the model's.
 */
final class SessionTest {
    private static final int SESSIONS = 120;
    private static final int CALLS = 512;
    private static final String[] WORDS = {"fn ", "let ", "if ", "while ", "print ", "return ", "main "};
    private static final String[] NEW_NAMES = {"a", "b", "n", "q", "main", "longer", "return", "let", "sixteen", ""};
    private static final char[] NO_CHARACTERS = {0, 31, 127, 128, 255, 'a' + 256, 65535};
    private static final int[] FAR = {Integer.MIN_VALUE, -2, -1, 240, 241, Integer.MAX_VALUE};

    private static final Random random = new Random(512);
    private static final Programs programs = new Programs(random);
    private static final List<String> told = new ArrayList<>();

    private ProgramDesk desk = new ProgramDesk();
    private Model model = new Model("");
    private int calls = 0;
    private List<Integer> printed = new ArrayList<>();
    private int given = 0;
    /** The latest text that was no mere edit: without going back to it, few texts would be programs. */
    private String sound = "";

    private interface Question {
        Object ask();
    }

    public static void main(String[] args) {
        Check.sentence("An object is used for at most 512 calls after it has been made");
        for (int s = 0; s < SESSIONS; s++) {
            new SessionTest().live();
        }
        for (String kind : new String[] {"type", "word", "insert", "remove", "length", "letter", "tokens", "token",
            "faults", "fault", "reference", "rename", "inline", "run", "output"}) {
            Check.is("answers of " + kind, told.contains(kind), true);
        }
        for (String kind : new String[] {"insert", "remove", "letter", "token", "fault", "reference", "rename", "inline",
            "run", "output"}) {
            Check.is("exceptions of " + kind, told.contains(kind + " threw"), true);
        }
        Check.finish();
    }

    private void live() {
        String program = programs.program();
        while (program.length() > 200) {
            program = programs.program();
        }
        write(program);
        sound = program;
        while (calls < CALLS) {
            switch (random.nextInt(4)) {
                case 0:
                    edit();
                    break;
                case 1:
                    change();
                    break;
                default:
                    look();
                    break;
            }
        }
    }

    /** One call, and its answer or exception. */
    private void expect(String call, Question question, Object due) {
        calls++;
        if (calls > CALLS) {
            return;
        }
        String got;
        String kind = call.substring(0, call.indexOf('('));
        try {
            got = String.valueOf(question.ask());
        } catch (RuntimeException e) {
            got = e.getClass().getSimpleName();
            kind += " threw";
        }
        if (!told.contains(kind)) {
            told.add(kind);
        }
        Check.is("call " + calls + ", " + call + " on " + model.text, got, String.valueOf(due));
    }

    private void become(String text) {
        model = new Model(text);
    }

    private void write(String text) {
        int at = 0;
        while (at < text.length()) {
            int w = wordAt(text, at);
            if (w < 0) {
                char c = text.charAt(at);
                expect("type(" + c + ")", () -> desk.type(c), true);
                become(model.text + c);
                at++;
            } else {
                expect("word(" + w + ")", () -> desk.word(w), true);
                become(model.text + WORDS[w]);
                at += WORDS[w].length();
            }
        }
    }

    private static int wordAt(String text, int at) {
        for (int w = 0; w < WORDS.length; w++) {
            if (text.startsWith(WORDS[w], at)) {
                return w;
            }
        }
        return -1;
    }

    private void edit() {
        switch (random.nextInt(5)) {
            case 0:
                type();
                break;
            case 1:
                word();
                break;
            case 2:
                insert();
                break;
            case 3:
                remove();
                break;
            default:
                restore();
                break;
        }
    }

    private char someCharacter() {
        if (random.nextInt(10) == 0) {
            return NO_CHARACTERS[random.nextInt(NO_CHARACTERS.length)];
        }
        return (char) (random.nextBoolean() ? 32 : 32 + random.nextInt(95));
    }

    private static boolean isAllowed(char c) {
        return c >= 32 && c <= 126;
    }

    private int someNumber(int most) {
        return random.nextInt(10) == 0 ? FAR[random.nextInt(FAR.length)] : random.nextInt(most + 2) - 1;
    }

    private void type() {
        char c = someCharacter();
        boolean due = isAllowed(c) && model.text.length() < 240;
        expect("type(" + (int) c + ")", () -> desk.type(c), due);
        if (due) {
            become(model.text + c);
        }
    }

    private void word() {
        int w = someNumber(7);
        boolean due = w >= 0 && w < 7 && model.text.length() + WORDS[w].length() <= 240;
        expect("word(" + w + ")", () -> desk.word(w), due);
        if (due) {
            become(model.text + WORDS[w]);
        }
    }

    private void insert() {
        int at = someNumber(model.text.length());
        char c = someCharacter();
        Object due = null;
        if (!isAllowed(c)) {
            due = "IllegalArgumentException";
        } else if (at < 0 || at > model.text.length()) {
            due = "IndexOutOfBoundsException";
        } else if (model.text.length() == 240) {
            due = "IllegalStateException";
        }
        expect("insert(" + at + "," + (int) c + ")", () -> {
            desk.insert(at, c);
            return null;
        }, due);
        if (due == null) {
            become(model.text.substring(0, at) + c + model.text.substring(at));
        }
    }

    private void remove() {
        remove(someNumber(model.text.length()), someNumber(random.nextInt(4) == 0 ? 240 : 4));
    }

    private void remove(int at, int n) {
        Object due = null;
        if (n < 0) {
            due = "IllegalArgumentException";
        } else if (at < 0 || (long) at + n > model.text.length()) {
            due = "IndexOutOfBoundsException";
        }
        expect("remove(" + at + "," + n + ")", () -> {
            desk.remove(at, n);
            return null;
        }, due);
        if (due == null) {
            become(model.text.substring(0, at) + model.text.substring(at + n));
        }
    }

    /** Takes out what differs from the text that was sound, and puts the rest of that in again. */
    private void restore() {
        int same = 0;
        while (same < sound.length() && same < model.text.length() && sound.charAt(same) == model.text.charAt(same)) {
            same++;
        }
        int behind = 0;
        while (behind < Math.min(sound.length(), model.text.length()) - same
            && sound.charAt(sound.length() - 1 - behind) == model.text.charAt(model.text.length() - 1 - behind)) {
            behind++;
        }
        remove(same, model.text.length() - behind - same);
        for (int at = same; at < sound.length() - behind; at++) {
            int place = at;
            char c = sound.charAt(at);
            expect("insert(" + at + "," + (int) c + ")", () -> {
                desk.insert(place, c);
                return null;
            }, null);
            become(sound.substring(0, at + 1) + model.text.substring(at));
        }
    }

    private void change() {
        int place = someNumber(model.text.length());
        Model.Change due;
        if (random.nextBoolean()) {
            String name = programs.pick(NEW_NAMES);
            due = model.rename(place, name);
            expect("rename(" + place + "," + name + ")", () -> desk.rename(place, Check.pack(name)), due.answer);
        } else {
            due = model.inline(place);
            expect("inline(" + place + ")", () -> desk.inline(place), due.answer);
        }
        if (due.answer.matches("[0-9]+")) {
            sound = due.text;
            become(due.text);
        }
    }

    private void look() {
        switch (random.nextInt(7)) {
            case 0:
                expect("length()", () -> desk.length(), model.text.length());
                letter();
                break;
            case 1:
                expect("tokens()", () -> desk.tokens(), model.tokens.size());
                token();
                break;
            case 2:
                expect("faults()", () -> desk.faults(), model.faults().size());
                fault();
                break;
            case 3:
                reference();
                break;
            case 4:
                run();
                break;
            default:
                output();
                break;
        }
    }

    private void letter() {
        int at = someNumber(model.text.length());
        boolean there = at >= 0 && at < model.text.length();
        expect("letter(" + at + ")", () -> desk.letter(at), there ? model.text.charAt(at) : "IndexOutOfBoundsException");
    }

    private void token() {
        int k = someNumber(model.tokens.size());
        int what = someNumber(4);
        Object due;
        if (what < 0 || what > 3) {
            due = "IllegalArgumentException";
        } else if (k < 0 || k >= model.tokens.size()) {
            due = "NoSuchElementException";
        } else {
            Model.Token token = model.tokens.get(k);
            int bound = token.declaration == null ? -1 : token.declaration.index;
            due = new int[] {token.kind, token.start, token.end, bound}[what];
        }
        expect("token(" + k + "," + what + ")", () -> desk.token(k, what), due);
    }

    private void fault() {
        List<Integer> faults = model.faults();
        int k = someNumber(faults.size());
        expect("fault(" + k + ")", () -> desk.fault(k), k >= 0 && k < faults.size() ? faults.get(k) : "NoSuchElementException");
    }

    private void reference() {
        int at = someNumber(model.text.length());
        int j = someNumber(4);
        expect("reference(" + at + "," + j + ")", () -> desk.reference(at, j), model.reference(at, j));
    }

    private void run() {
        int x = random.nextInt(4) == 0 ? random.nextInt() : random.nextInt(10);
        String due = model.run(x);
        expect("run(" + x + ")", () -> desk.run(x), due);
        if (due.length() == 1) {
            printed = new ArrayList<>(model.printed);
            given = model.given;
        }
    }

    private void output() {
        int j = random.nextInt(4) == 0 ? -1 - random.nextInt(3) : someNumber(Math.min(printed.size(), 34));
        Object due = "NoSuchElementException";
        if (j == -1) {
            due = printed.size();
        } else if (j == -2) {
            due = given;
        } else if (j >= 0 && j < printed.size() && j < 32) {
            due = printed.get(j);
        }
        expect("output(" + j + ")", () -> desk.output(j), due);
    }
}

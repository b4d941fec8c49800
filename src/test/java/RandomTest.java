import java.util.List;
import java.util.Random;

/** All promises: random programs, whole and spoilt ones, on the desk and on the model. */
final class RandomTest {
    private static final int PROGRAMS = 3000;
    private static final String[] NEW_NAMES = {"a", "b", "c", "n", "f", "g", "main", "q", "longer", "let", "sixteen", "fnn"};

    private static final Random random = new Random(20261115L);
    private static final Programs programs = new Programs(random);
    private static int good = 0;
    private static int renamed = 0;
    private static int inlined = 0;
    private static final int[] outcomes = new int[3];

    public static void main(String[] args) {
        for (int n = 0; n < PROGRAMS; n++) {
            String text = programs.program();
            for (int spoil = random.nextInt(3) - 1; spoil > 0; spoil--) {
                text = spoilt(text);
            }
            if (text.length() <= 240) {
                compare(text);
            }
        }
        Check.is("enough programs without faults", good > PROGRAMS / 10, true);
        Check.is("enough names changed", renamed > PROGRAMS / 10, true);
        Check.is("enough variables replaced", inlined > PROGRAMS / 20, true);
        for (int outcome = 0; outcome < 3; outcome++) {
            Check.is("enough runs with outcome " + outcome, outcomes[outcome] > PROGRAMS / 100, true);
        }
        System.out.println(good + " programs without faults, " + renamed + " names changed, " + inlined + " variables replaced");
        Check.finish();
    }

    private static String spoilt(String text) {
        int at = random.nextInt(text.length());
        String signs = "fn (){},;=<+-*a1A~";
        if (random.nextBoolean()) {
            return text.substring(0, at) + text.substring(at + 1);
        }
        return text.substring(0, at) + signs.charAt(random.nextInt(signs.length())) + text.substring(at);
    }

    private static void compare(String text) {
        Model model = new Model(text);
        ProgramDesk desk = Check.desk(text);
        compareReading(model, desk);
        compareRun(model, desk);
        edit(text);
        good += model.faults().isEmpty() ? 1 : 0;
        for (int change = 0; change < 6; change++) {
            int place = somePlace(model);
            Model.Change due;
            String what;
            String got;
            if (random.nextBoolean()) {
                String name = programs.pick(NEW_NAMES);
                what = "rename " + place + " to " + name;
                due = model.rename(place, name);
                got = answer(() -> desk.rename(place, Check.pack(name)));
                renamed += due.answer.matches("[0-9]+") ? 1 : 0;
            } else {
                what = "inline " + place;
                due = model.inline(place);
                got = answer(() -> desk.inline(place));
                inlined += due.answer.matches("[1-9]+") ? 1 : 0;
            }
            Check.is(what + " in " + model.text, got, due.answer);
            Check.is(what + " in " + model.text + ", the text then", Check.text(desk), due.text);
            String before = outcomeOf(model);
            model = new Model(due.text);
            compareReading(model, desk);
            Check.is(what + " in " + model.text + ", the run then", outcomeOf(model), before);
        }
    }

    /** A text that is edited must be read as one that was typed so. */
    private static void edit(String text) {
        ProgramDesk desk = Check.desk(text);
        StringBuilder now = new StringBuilder(text);
        for (int change = 0; change < 5; change++) {
            int at = random.nextInt(now.length() + 1);
            if (random.nextBoolean() && now.length() < 240) {
                char c = (char) (32 + random.nextInt(95));
                now.insert(at, c);
                desk.insert(at, c);
            } else {
                int n = Math.min(random.nextInt(8), now.length() - at);
                now.delete(at, at + n);
                desk.remove(at, n);
            }
            Check.is("the edited text", Check.text(desk), now.toString());
            compareReading(new Model(now.toString()), desk);
        }
    }

    private static int somePlace(Model model) {
        int place = random.nextInt(model.text.length() + 2) - 1;
        for (int tries = 0; tries < 20 && random.nextInt(20) > 0; tries++) {
            Model.Token token = model.tokenAt(place);
            if (token != null && token.declaration != null) {
                return place;
            }
            place = random.nextInt(model.text.length() + 2) - 1;
        }
        return place;
    }

    /** What a program does must not be changed by a change of a name or a variable. */
    private static String outcomeOf(Model model) {
        return model.run(3) + model.printed + model.given;
    }

    private static void compareReading(Model model, ProgramDesk desk) {
        Check.is("tokens of " + model.text, desk.tokens(), model.tokens.size());
        for (Model.Token token : model.tokens) {
            String got = desk.token(token.index, 0) + " " + desk.token(token.index, 1) + " " + desk.token(token.index, 2)
                + " " + desk.token(token.index, 3);
            int bound = token.declaration == null ? -1 : token.declaration.index;
            Check.is("token " + token.index + " of " + model.text, got, token.kind + " " + token.start + " " + token.end + " " + bound);
        }
        List<Integer> faults = model.faults();
        Check.is("faults of " + model.text, desk.faults(), faults.size());
        for (int k = 0; k < faults.size() && k < desk.faults(); k++) {
            Check.is("fault " + k + " of " + model.text, desk.fault(k), faults.get(k));
        }
        for (int place = -1; place <= model.text.length(); place += 1 + random.nextInt(4)) {
            int at = place;
            int j = random.nextInt(5) - 1;
            Check.is("reference " + at + " " + j + " of " + model.text, answer(() -> desk.reference(at, j)), model.reference(at, j));
        }
    }

    private static void compareRun(Model model, ProgramDesk desk) {
        int x = random.nextInt(12) - 2;
        String due = model.run(x);
        Check.is("run " + x + " of " + model.text, answer(() -> desk.run(x)), due);
        if (due.length() == 1) {
            outcomes[due.charAt(0) - '0']++;
            Check.is("what was printed by " + model.text, desk.output(-1), model.printed.size());
            Check.is("what was given by " + model.text, desk.output(-2), model.given);
            for (int j = 0; j < 32 && j < model.printed.size(); j++) {
                Check.is("output " + j + " of " + model.text, desk.output(j), model.printed.get(j));
            }
        }
    }

    private interface Question {
        int ask();
    }

    private static String answer(Question question) {
        try {
            return String.valueOf(question.ask());
        } catch (RuntimeException e) {
            return e.getClass().getSimpleName();
        }
    }
}

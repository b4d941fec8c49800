import java.util.ArrayList;
import java.util.List;
import java.util.Random;

/** All promises: random programs, whole and spoilt ones, on the desk and on the model. */
final class RandomTest {
    private static final int PROGRAMS = 3000;
    private static final String[] NAMES = {"a", "b", "c", "n"};
    private static final String[] FUNCTIONS = {"main", "f", "g", "a"};
    private static final String[] NEW_NAMES = {"a", "b", "c", "n", "f", "g", "main", "q", "longer", "let", "sixteen", "fnn"};

    private static final Random random = new Random(20261115L);
    private static StringBuilder made;
    private static int functions;
    private static final String[] called = new String[5];
    private static final int[] taken = new int[5];
    private static final List<String> inForce = new ArrayList<>();
    private static int good = 0;
    private static int renamed = 0;
    private static int inlined = 0;
    private static final int[] outcomes = new int[3];

    public static void main(String[] args) {
        for (int n = 0; n < PROGRAMS; n++) {
            String text = program();
            for (int spoil = random.nextInt(3) - 1; spoil > 0; spoil--) {
                text = spoilt(text);
            }
            if (text.length() <= 240) {
                compare(text);
            }
        }
        Check.is("enough programs without faults", good > PROGRAMS / 10, true);
        Check.is("enough names changed", renamed > PROGRAMS / 10, true);
        Check.is("enough variables replaced", inlined > PROGRAMS / 20, true);
        for (int outcome = 0; outcome < 3; outcome++) {
            Check.is("enough runs with outcome " + outcome, outcomes[outcome] > PROGRAMS / 100, true);
        }
        System.out.println(good + " programs without faults, " + renamed + " names changed, " + inlined + " variables replaced");
        Check.finish();
    }

    private static String pick(String[] words) {
        return words[random.nextInt(words.length)];
    }

    private static String program() {
        made = new StringBuilder();
        functions = 1 + random.nextInt(random.nextInt(12) == 0 ? 5 : 3);
        int turned = random.nextInt(4);
        for (int f = 0; f < functions; f++) {
            called[f] = slips() ? pick(FUNCTIONS) : FUNCTIONS[(f + (slips() ? turned : 0)) % 4];
            taken[f] = random.nextInt(3);
        }
        for (int f = 0; f < functions; f++) {
            inForce.clear();
            made.append("fn ").append(called[f]).append('(');
            for (int p = 0; p < taken[f]; p++) {
                made.append(p == 0 ? "" : ",").append(p == 0 ? "n" : slips() ? pick(NAMES) : "b");
                inForce.add(p == 0 ? "n" : "b");
            }
            made.append("){");
            statements(1, 2 + random.nextInt(8 / functions));
            made.append('}');
        }
        return made.toString();
    }

    /** Now and then something is written that may be a fault. */
    private static boolean slips() {
        return random.nextInt(40) == 0;
    }

    private static void statements(int depth, int count) {
        int before = inForce.size();
        for (int s = 0; s < count; s++) {
            made.append(random.nextInt(8) == 0 ? " " : "");
            switch (random.nextInt(depth < 4 || slips() ? 10 : 6)) {
                case 0:
                case 1:
                case 2:
                    let(before);
                    break;
                case 3:
                    if (!inForce.isEmpty()) {
                        store(someName());
                    }
                    break;
                case 4:
                case 5:
                    use(random.nextInt(4) == 0 ? "return " : "print ");
                    break;
                case 6:
                    inner("if ", depth);
                    break;
                case 7:
                case 8:
                    inner("while ", depth);
                    break;
                default:
                    made.append('{');
                    statements(depth + 1, 1 + random.nextInt(3));
                    made.append('}');
                    break;
            }
        }
        while (inForce.size() > before) {
            inForce.remove(inForce.size() - 1);
        }
    }

    private static void let(int before) {
        String name = pick(NAMES);
        if (!slips() && inForce.subList(before, inForce.size()).contains(name)) {
            return;
        }
        made.append("let ");
        store(name);
        inForce.add(name);
    }

    private static void store(String name) {
        made.append(name).append(random.nextInt(4) == 0 ? " = " : "=");
        expression(0);
        made.append(random.nextInt(4) == 0 ? " ;" : ";");
    }

    private static void use(String keyword) {
        made.append(keyword);
        expression(0);
        made.append(';');
    }

    private static void inner(String keyword, int depth) {
        made.append(keyword);
        expression(0);
        made.append('{');
        statements(depth + 1, random.nextInt(3));
        made.append('}');
    }

    private static void expression(int depth) {
        sum(depth);
        if (random.nextInt(6) == 0) {
            made.append('<');
            sum(depth);
        }
    }

    private static void sum(int depth) {
        factor(depth);
        for (int more = random.nextInt(3) - 1; more > 0; more--) {
            made.append("+-*".charAt(random.nextInt(3)));
            factor(depth);
        }
    }

    private static void factor(int depth) {
        int choice = random.nextInt(depth < 4 || slips() ? 12 : 9);
        if (choice < 3 || choice < 9 && inForce.isEmpty()) {
            made.append(random.nextInt(random.nextInt(5) == 0 ? 10000 : 4));
        } else if (choice < 9) {
            made.append(someName());
        } else if (choice < 11) {
            made.append('(');
            expression(depth + 1);
            made.append(')');
        } else {
            call(random.nextInt(functions), depth);
        }
    }

    private static void call(int f, int depth) {
        made.append(slips() ? pick(FUNCTIONS) : called[f]).append('(');
        int count = slips() ? random.nextInt(3) : taken[f];
        for (int e = 0; e < count; e++) {
            made.append(e == 0 ? "" : ",");
            expression(depth + 1);
        }
        made.append(')');
    }

    private static String someName() {
        return slips() ? pick(NAMES) : inForce.get(random.nextInt(inForce.size()));
    }

    private static String spoilt(String text) {
        int at = random.nextInt(text.length());
        String signs = "fn (){},;=<+-*a1A~";
        if (random.nextBoolean()) {
            return text.substring(0, at) + text.substring(at + 1);
        }
        return text.substring(0, at) + signs.charAt(random.nextInt(signs.length())) + text.substring(at);
    }

    private static void compare(String text) {
        Model model = new Model(text);
        ProgramDesk desk = Check.desk(text);
        compareReading(model, desk);
        compareRun(model, desk);
        edit(text);
        good += model.faults().isEmpty() ? 1 : 0;
        for (int change = 0; change < 6; change++) {
            int place = somePlace(model);
            Model.Change due;
            String what;
            String got;
            if (random.nextBoolean()) {
                String name = pick(NEW_NAMES);
                what = "rename " + place + " to " + name;
                due = model.rename(place, name);
                got = answer(() -> desk.rename(place, Check.pack(name)));
                renamed += due.answer.matches("[0-9]+") ? 1 : 0;
            } else {
                what = "inline " + place;
                due = model.inline(place);
                got = answer(() -> desk.inline(place));
                inlined += due.answer.matches("[1-9]+") ? 1 : 0;
            }
            Check.is(what + " in " + model.text, got, due.answer);
            Check.is(what + " in " + model.text + ", the text then", Check.text(desk), due.text);
            String before = outcomeOf(model);
            model = new Model(due.text);
            compareReading(model, desk);
            Check.is(what + " in " + model.text + ", the run then", outcomeOf(model), before);
        }
    }

    /** A text that is edited must be read as one that was typed so. */
    private static void edit(String text) {
        ProgramDesk desk = Check.desk(text);
        StringBuilder now = new StringBuilder(text);
        for (int change = 0; change < 5; change++) {
            int at = random.nextInt(now.length() + 1);
            if (random.nextBoolean() && now.length() < 240) {
                char c = (char) (32 + random.nextInt(95));
                now.insert(at, c);
                desk.insert(at, c);
            } else {
                int n = Math.min(random.nextInt(8), now.length() - at);
                now.delete(at, at + n);
                desk.remove(at, n);
            }
            Check.is("the edited text", Check.text(desk), now.toString());
            compareReading(new Model(now.toString()), desk);
        }
    }

    private static int somePlace(Model model) {
        int place = random.nextInt(model.text.length() + 2) - 1;
        for (int tries = 0; tries < 20 && random.nextInt(20) > 0; tries++) {
            Model.Token token = model.tokenAt(place);
            if (token != null && token.declaration != null) {
                return place;
            }
            place = random.nextInt(model.text.length() + 2) - 1;
        }
        return place;
    }

    /** What a program does must not be changed by a change of a name or a variable. */
    private static String outcomeOf(Model model) {
        return model.run(3) + model.printed + model.given;
    }

    private static void compareReading(Model model, ProgramDesk desk) {
        Check.is("tokens of " + model.text, desk.tokens(), model.tokens.size());
        for (Model.Token token : model.tokens) {
            String got = desk.token(token.index, 0) + " " + desk.token(token.index, 1) + " " + desk.token(token.index, 2)
                + " " + desk.token(token.index, 3);
            int bound = token.declaration == null ? -1 : token.declaration.index;
            Check.is("token " + token.index + " of " + model.text, got, token.kind + " " + token.start + " " + token.end + " " + bound);
        }
        List<Integer> faults = model.faults();
        Check.is("faults of " + model.text, desk.faults(), faults.size());
        for (int k = 0; k < faults.size() && k < desk.faults(); k++) {
            Check.is("fault " + k + " of " + model.text, desk.fault(k), faults.get(k));
        }
        for (int place = -1; place <= model.text.length(); place += 1 + random.nextInt(4)) {
            int at = place;
            int j = random.nextInt(5) - 1;
            Check.is("reference " + at + " " + j + " of " + model.text, answer(() -> desk.reference(at, j)), model.reference(at, j));
        }
    }

    private static void compareRun(Model model, ProgramDesk desk) {
        int x = random.nextInt(12) - 2;
        String due = model.run(x);
        Check.is("run " + x + " of " + model.text, answer(() -> desk.run(x)), due);
        if (due.length() == 1) {
            outcomes[due.charAt(0) - '0']++;
            Check.is("what was printed by " + model.text, desk.output(-1), model.printed.size());
            Check.is("what was given by " + model.text, desk.output(-2), model.given);
            for (int j = 0; j < 32 && j < model.printed.size(); j++) {
                Check.is("output " + j + " of " + model.text, desk.output(j), model.printed.get(j));
            }
        }
    }

    private interface Question {
        int ask();
    }

    private static String answer(Question question) {
        try {
            return String.valueOf(question.ask());
        } catch (RuntimeException e) {
            return e.getClass().getSimpleName();
        }
    }
}

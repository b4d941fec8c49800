import java.util.ArrayList;
import java.util.List;
import java.util.Random;

/** Makes random programs: most are without faults, now and then something is written that may be one. */
final class Programs {
    private static final String[] NAMES = {"a", "b", "c", "n"};
    private static final String[] FUNCTIONS = {"main", "f", "g", "a"};

    private final Random random;
    private final String[] called = new String[5];
    private final int[] taken = new int[5];
    private final List<String> inForce = new ArrayList<>();
    private StringBuilder made;
    private int functions;

    Programs(Random random) {
        this.random = random;
    }

    String pick(String[] words) {
        return words[random.nextInt(words.length)];
    }

    String program() {
        made = new StringBuilder();
        functions = 1 + random.nextInt(random.nextInt(12) == 0 ? 5 : 3);
        int turned = random.nextInt(4);
        for (int f = 0; f < functions; f++) {
            called[f] = slips() ? pick(FUNCTIONS) : FUNCTIONS[(f + (slips() ? turned : 0)) % 4];
            taken[f] = random.nextInt(3);
        }
        for (int f = 0; f < functions; f++) {
            inForce.clear();
            made.append("fn ").append(called[f]).append('(');
            for (int p = 0; p < taken[f]; p++) {
                made.append(p == 0 ? "" : ",").append(p == 0 ? "n" : slips() ? pick(NAMES) : "b");
                inForce.add(p == 0 ? "n" : "b");
            }
            made.append("){");
            statements(1, 2 + random.nextInt(8 / functions));
            made.append('}');
        }
        return made.toString();
    }

    private boolean slips() {
        return random.nextInt(40) == 0;
    }

    private void statements(int depth, int count) {
        int before = inForce.size();
        for (int s = 0; s < count; s++) {
            made.append(random.nextInt(8) == 0 ? " " : "");
            switch (random.nextInt(depth < 4 || slips() ? 10 : 6)) {
                case 0:
                case 1:
                case 2:
                    let(before);
                    break;
                case 3:
                    if (!inForce.isEmpty()) {
                        store(someName());
                    }
                    break;
                case 4:
                case 5:
                    use(random.nextInt(4) == 0 ? "return " : "print ");
                    break;
                case 6:
                    inner("if ", depth);
                    break;
                case 7:
                case 8:
                    inner("while ", depth);
                    break;
                default:
                    made.append('{');
                    statements(depth + 1, 1 + random.nextInt(3));
                    made.append('}');
                    break;
            }
        }
        while (inForce.size() > before) {
            inForce.remove(inForce.size() - 1);
        }
    }

    private void let(int before) {
        String name = pick(NAMES);
        if (!slips() && inForce.subList(before, inForce.size()).contains(name)) {
            return;
        }
        made.append("let ");
        store(name);
        inForce.add(name);
    }

    private void store(String name) {
        made.append(name).append(random.nextInt(4) == 0 ? " = " : "=");
        expression(0);
        made.append(random.nextInt(4) == 0 ? " ;" : ";");
    }

    private void use(String keyword) {
        made.append(keyword);
        expression(0);
        made.append(';');
    }

    private void inner(String keyword, int depth) {
        made.append(keyword);
        expression(0);
        made.append('{');
        statements(depth + 1, random.nextInt(3));
        made.append('}');
    }

    private void expression(int depth) {
        sum(depth);
        if (random.nextInt(6) == 0) {
            made.append('<');
            sum(depth);
        }
    }

    private void sum(int depth) {
        factor(depth);
        for (int more = random.nextInt(3) - 1; more > 0; more--) {
            made.append("+-*".charAt(random.nextInt(3)));
            factor(depth);
        }
    }

    private void factor(int depth) {
        int choice = random.nextInt(depth < 4 || slips() ? 12 : 9);
        if (choice < 3 || choice < 9 && inForce.isEmpty()) {
            made.append(random.nextInt(random.nextInt(5) == 0 ? 10000 : 4));
        } else if (choice < 9) {
            made.append(someName());
        } else if (choice < 11) {
            made.append('(');
            expression(depth + 1);
            made.append(')');
        } else {
            call(random.nextInt(functions), depth);
        }
    }

    private void call(int f, int depth) {
        made.append(slips() ? pick(FUNCTIONS) : called[f]).append('(');
        int count = slips() ? random.nextInt(3) : taken[f];
        for (int e = 0; e < count; e++) {
            made.append(e == 0 ? "" : ",");
            expression(depth + 1);
        }
        made.append(')');
    }

    private String someName() {
        return slips() ? pick(NAMES) : inForce.get(random.nextInt(inForce.size()));
    }
}

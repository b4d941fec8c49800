/** What the tests share: a desk with a text, and answers compared with those that are due. */
final class Check {
    interface Call {
        void make();
    }

    private static int wrong = 0;

    private Check() {
    }

    static ProgramDesk desk(String text) {
        ProgramDesk desk = new ProgramDesk();
        for (int at = 0; at < text.length(); at++) {
            if (!desk.type(text.charAt(at))) {
                throw new IllegalArgumentException("no text for a desk: " + text);
            }
        }
        return desk;
    }

    static String text(ProgramDesk desk) {
        StringBuilder text = new StringBuilder();
        for (int at = 0; at < desk.length(); at++) {
            text.append(desk.letter(at));
        }
        return text.toString();
    }

    static String faults(ProgramDesk desk) {
        StringBuilder faults = new StringBuilder();
        for (int k = 0; k < desk.faults(); k++) {
            faults.append(k == 0 ? "" : " ").append(desk.fault(k) % 8).append('@').append(desk.fault(k) / 8);
        }
        return faults.toString();
    }

    static String printed(ProgramDesk desk) {
        StringBuilder printed = new StringBuilder();
        for (int j = 0; j < desk.output(-1) && j < 32; j++) {
            printed.append(j == 0 ? "" : " ").append(desk.output(j));
        }
        return printed.toString();
    }

    static String repeat(String piece, int times) {
        return piece.repeat(times);
    }

    static long pack(String name) {
        long packed = 0;
        for (int at = name.length() - 1; at >= 0; at--) {
            packed = packed * 32 + name.charAt(at) - 96;
        }
        return packed;
    }

    static void is(String what, long got, long due) {
        is(what, Long.toString(got), Long.toString(due));
    }

    static void is(String what, boolean got, boolean due) {
        is(what, Boolean.toString(got), Boolean.toString(due));
    }

    static void is(String what, String got, String due) {
        if (!got.equals(due)) {
            wrong++;
            System.out.println(what + ": answered " + got + ", due is " + due);
        }
    }

    static void refuses(String what, Class<? extends RuntimeException> due, Call call) {
        is(what, outcome(call), due.getSimpleName());
    }

    /** As refuses, and the text and the output must be as before. */
    static void refusesAndKeeps(String what, Class<? extends RuntimeException> due, ProgramDesk desk, Call call) {
        String before = state(desk);
        refuses(what, due, call);
        is(what + ", what is there afterwards", state(desk), before);
    }

    static String state(ProgramDesk desk) {
        StringBuilder state = new StringBuilder(text(desk)).append('|').append(faults(desk)).append('|');
        for (int k = 0; k < desk.tokens(); k++) {
            state.append(desk.token(k, 3)).append(' ');
        }
        return state.append('|').append(printed(desk)).append('|').append(desk.output(-2)).toString();
    }

    static String outcome(Call call) {
        try {
            call.make();
            return "nothing thrown";
        } catch (RuntimeException e) {
            return e.getClass().getSimpleName();
        }
    }

    static void finish() {
        if (wrong > 0) {
            System.out.println(wrong + " answers are not as due");
            System.exit(1);
        }
    }
}

import java.io.IOException;
import java.nio.file.Files;
import java.nio.file.Path;

/** What the tests share: a desk with a text, and answers compared with those that are due. */
final class Check {
    interface Call {
        void make();
    }

    interface Question {
        boolean ask();
    }

    private static int wrong = 0;
    private static String sentence = "";
    private static String document = "";

    private Check() {
    }

    /**
     * The words of the document that are tested from here on. They must stand there, so that a test
     * can't outlive its sentence.
     */
    static void sentence(String words) {
        sentence = "";
        is("in the document: " + words, document().contains(words), true);
        sentence = "[" + words + "] ";
    }

    private static String document() {
        if (document.isEmpty()) {
            try {
                document = Files.readString(Path.of("../shared/DOC.md")).replaceAll("\\s+", " ");
            } catch (IOException e) {
                document = "none";
            }
        }
        return document;
    }

    static ProgramDesk desk(String text) {
        ProgramDesk desk = new ProgramDesk();
        for (int at = 0; at < text.length(); at++) {
            if (!desk.type(text.charAt(at))) {
                throw new IllegalArgumentException("no text for a desk: " + text);
            }
        }
        return desk;
    }

    static String text(ProgramDesk desk) {
        StringBuilder text = new StringBuilder();
        int length = desk.length();
        for (int at = 0; at < length; at++) {
            text.append(desk.letter(at));
        }
        return text.toString();
    }

    static String faults(ProgramDesk desk) {
        StringBuilder faults = new StringBuilder();
        int count = desk.faults();
        for (int k = 0; k < count; k++) {
            int fault = desk.fault(k);
            faults.append(k == 0 ? "" : " ").append(fault % 8).append('@').append(fault / 8);
        }
        return faults.toString();
    }

    static String printed(ProgramDesk desk) {
        StringBuilder printed = new StringBuilder();
        int count = desk.output(-1);
        for (int j = 0; j < count && j < 32; j++) {
            printed.append(j == 0 ? "" : " ").append(desk.output(j));
        }
        return printed.toString();
    }

    static String repeat(String piece, int times) {
        return piece.repeat(times);
    }

    static long pack(String name) {
        long packed = 0;
        for (int at = name.length() - 1; at >= 0; at--) {
            packed = packed * 32 + name.charAt(at) - 96;
        }
        return packed;
    }

    /** A text, filled up with blanks at its end. */
    static String filled(String text, int length) {
        return text + repeat(" ", length - text.length());
    }

    static void is(String what, long got, long due) {
        is(what, Long.toString(got), Long.toString(due));
    }

    static void is(String what, boolean got, boolean due) {
        is(what, Boolean.toString(got), Boolean.toString(due));
    }

    static void is(String what, String got, String due) {
        if (!got.equals(due)) {
            wrong++;
            System.out.println(sentence + what + ": answered " + got + ", due is " + due);
        }
    }

    static void refuses(String what, Class<? extends RuntimeException> due, Call call) {
        is(what, outcome(call), due.getSimpleName());
    }

    /** As refuses, and all that can be asked must be answered as before. */
    static void refusesAndKeeps(String what, Class<? extends RuntimeException> due, ProgramDesk desk, Call call) {
        String before = state(desk);
        refuses(what, due, call);
        is(what + ", what is there afterwards", state(desk), before);
    }

    /** For the calls that answer false. */
    static void saysNoAndKeeps(String what, ProgramDesk desk, Question question) {
        String before = state(desk);
        is(what, question.ask(), false);
        is(what + ", what is there afterwards", state(desk), before);
    }

    static String state(ProgramDesk desk) {
        StringBuilder state = new StringBuilder(text(desk)).append('|').append(faults(desk)).append('|');
        int count = desk.tokens();
        for (int k = 0; k < count; k++) {
            for (int what = 0; what < 4; what++) {
                state.append(desk.token(k, what)).append(what == 3 ? ' ' : ',');
            }
        }
        return state.append('|').append(desk.output(-1)).append(':').append(printed(desk))
            .append('|').append(desk.output(-2)).toString();
    }

    static String outcome(Call call) {
        try {
            call.make();
            return "nothing thrown";
        } catch (RuntimeException e) {
            return e.getClass().getSimpleName();
        }
    }

    static void finish() {
        if (wrong > 0) {
            System.out.println(wrong + " answers are not as due");
            System.exit(1);
        }
    }
}

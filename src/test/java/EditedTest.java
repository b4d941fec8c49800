/** A text is read at once: what was there before an edit must not be seen any more. */
final class EditedTest {
    private static final String[] TEXTS = {
        "fn main(a,b){let c=a+b;while c{c=c-1;print f(c,a);}return c;}fn f(a,b){return a*b;}",
        "fn f(n){let a=n*2;{let n=a;print n;}return a<n;}fn main(x){print f(x)+1;return f(f(2));}",
        "",
        "fn main(){let a=1;let b=2;let c=a*b+(a-b);print c;}",
        "fn main(a,b,c,d){print a;print b+c+d;}",
        "fn main(a,b,c){print c;}",
        "x fn g(){print g(1,2);} fn g(a){b=a;} fn h(",
        "fn main(n){if n{return main(n-1)+1;}}",
        "fn a(){}fn b(){}fn c(){}fn main(){print a()+b()*c();}",
    };

    public static void main(String[] args) {
        everyMethod();
        namesThatAreGone();
        wholeTexts();
        singleCharacters();
        manyTimes();
        Check.finish();
    }

    /** All that is read, and what a run gives, as of a desk on which only this text was typed. */
    private static void same(String what, ProgramDesk desk) {
        String text = Check.text(desk);
        ProgramDesk fresh = Check.desk(text);
        String ran = Check.outcome(() -> desk.run(3));
        Check.is(what + ", the run of " + text, ran, Check.outcome(() -> fresh.run(3)));
        if (ran.equals("nothing thrown")) {
            Check.is(what + ", what is read and printed of " + text, Check.state(desk), Check.state(fresh));
        } else {
            Check.is(what + ", what is read of " + text, read(desk), read(fresh));
        }
    }

    private static String read(ProgramDesk desk) {
        String state = Check.state(desk);
        return state.substring(0, state.lastIndexOf('|', state.lastIndexOf('|') - 1));
    }

    private static void everyMethod() {
        ProgramDesk desk = new ProgramDesk();
        Check.is("no tokens", desk.tokens(), 0);
        desk.word(0);
        Check.is("a token behind word", desk.tokens(), 1);
        Check.is("a fault behind word", Check.faults(desk), "1@2");
        desk.word(6);
        Check.is("tokens behind word", desk.tokens(), 2);
        Check.is("the fault behind word", Check.faults(desk), "1@7");
        for (char c : "(n){print n;}".toCharArray()) {
            desk.type(c);
            desk.faults();
        }
        Check.is("no fault behind type", Check.faults(desk), "");
        desk.insert(12, '?');
        Check.is("a fault behind insert", Check.faults(desk), "1@12");
        desk.remove(12, 1);
        Check.is("no fault behind remove", Check.faults(desk), "");
        desk.insert(21, '}');
        Check.is("a fault behind insert at the end", Check.faults(desk), "1@21");
        desk.remove(21, 1);
        Check.is("the name before rename", desk.reference(9, 0), 9);
        desk.rename(9, Check.pack("abc"));
        Check.is("behind rename", desk.reference(9, 1), 20);
        same("behind rename", desk);
    }

    /** In the longer text, the token that is the first one behind the shorter is bound to the same. */
    private static void namesThatAreGone() {
        ProgramDesk changed = Check.desk("fn f(){let a=1;print a;}");
        Check.is("references before", changed.reference(11, 1), 21);
        changed.remove(15, 8);
        Check.is("references afterwards", changed.reference(11, 1), ProgramDesk.NONE);
        Check.is("changed", changed.rename(11, Check.pack("b")), 1);
        Check.is("the text", Check.text(changed), "fn f(){let b=1;}");
        ProgramDesk replaced = Check.desk("fn f(){let a=1;print a;}");
        Check.is("faults before", replaced.faults(), 0);
        replaced.remove(15, 8);
        Check.is("replaced", replaced.inline(11), 0);
        Check.is("the text without it", Check.text(replaced), "fn f(){}");
    }

    private static void wholeTexts() {
        for (String first : TEXTS) {
            for (String second : TEXTS) {
                String what = "instead of " + first;
                same(what, instead(first, second));
                for (int at = 0; at < Math.max(first.length(), second.length()); at++) {
                    int place = at;
                    ProgramDesk desk = instead(first, second);
                    ProgramDesk fresh = Check.desk(second);
                    Check.is(what + ", references at " + at + " of " + second, references(desk, at), references(fresh, at));
                    Check.is(what + ", rename " + at + " of " + second, answer(() -> desk.rename(place, 17L)), answer(() -> fresh.rename(place, 17L)));
                    Check.is(what + ", inline " + at + " of " + second, answer(() -> desk.inline(place)), answer(() -> fresh.inline(place)));
                    Check.is(what + ", changed at " + at, Check.text(desk), Check.text(fresh));
                }
            }
        }
    }

    /** A desk on which one text was read, and another one typed instead of it. */
    private static ProgramDesk instead(String first, String second) {
        ProgramDesk desk = Check.desk(first);
        desk.faults();
        desk.remove(0, desk.length());
        for (char c : second.toCharArray()) {
            desk.type(c);
        }
        return desk;
    }

    private static String references(ProgramDesk desk, int at) {
        StringBuilder places = new StringBuilder();
        for (int j = 0; j < 10; j++) {
            int asked = j;
            places.append(answer(() -> desk.reference(at, asked))).append(' ');
        }
        return places.toString();
    }

    private interface Asked {
        int answer();
    }

    private static String answer(Asked asked) {
        try {
            return String.valueOf(asked.answer());
        } catch (RuntimeException e) {
            return e.getClass().getSimpleName();
        }
    }

    private static void singleCharacters() {
        for (String text : TEXTS) {
            ProgramDesk desk = Check.desk(text);
            for (int at = 0; at < text.length(); at++) {
                desk.remove(at, 1);
                same("without place " + at, desk);
                desk.insert(at, text.charAt(at));
                same("with place " + at + " again", desk);
            }
        }
    }

    private static void manyTimes() {
        ProgramDesk desk = Check.desk(TEXTS[0]);
        for (int time = 0; time < 100; time++) {
            desk.insert(0, ' ');
            Check.is("run behind an edit " + time, desk.run(2), 0);
            desk.remove(0, 1);
        }
        same("edited many times", desk);
    }
}

import java.io.IOException;
import java.util.ArrayList;
import java.util.Arrays;
import java.util.List;

/**
 * Runs of calls that stand on the document's bounds, each behind the sentence that it holds the class to.
 * Behind every call that is refused all that can be seen of the object is compared with an object for which
 * the refused calls were not made: nothing may have changed.
 */
final class Edges {
    private static final int MOST_CALLS = 512;
    private static final List<List<Call>> VIEWS = views();

    private final Check check;
    private final Document document = new Document();
    private String sentence = "";
    private int runs = 1;

    Edges(Check check) throws IOException {
        this.check = check;
    }

    /** The runs that follow hold this sentence of the document; promises are told where the place is none. */
    void says(String place, String quoted, int... promises) {
        check.isTrue("no run holds '" + sentence + "'", runs > 0);
        check.isTrue("the document's " + place + " says '" + quoted + "'", document.quote(place, quoted));
        String named = promises.length == 0 ? "promise " + place : place + ", promises " + Arrays.toString(promises);
        sentence = named + ": " + quoted;
        runs = 0;
    }

    /** What asks for nothing that a call could answer. */
    void passesOver(String place, String quoted) {
        check.isTrue("the document's " + place + " says '" + quoted + "'", document.quote(place, quoted));
    }

    void run(String... lines) {
        runCalls(Call.read(lines));
    }

    void fine(String text, int children, String... lines) {
        List<Call> calls = Call.telling(text, children);
        calls.addAll(Call.read("fault = NONE"));
        calls.addAll(Call.read(lines));
        runCalls(calls);
    }

    void faulty(String text, int number, int place) {
        List<Call> calls = Call.telling(text, -10 - number);
        calls.addAll(Call.read("fault = " + place + ", told 3 = 0"));
        runCalls(calls);
    }

    /** Behind those calls all is as ahead of them. */
    void changesNothing(String ahead, String... lines) {
        runs++;
        List<Call> without = Call.read(ahead);
        List<Call> made = new ArrayList<>(without);
        made.addAll(Call.read(lines));
        looksAlike(sentence, made, without, VIEWS);
    }

    void end() {
        says("top", "An object is used for at most 512 calls after it has been made", 5, 12);
        run("tell <b0;c1 1;d0 1;> = 1, 497 x home = 0, told 4 = 497");
        List<String> places = new ArrayList<>(List.of("Terms", "section 1", "section 2", "section 3"));
        for (int promise = 1; promise <= 29; promise++) {
            places.add("" + promise);
        }
        for (String place : places) {
            for (String words : document.unquoted(place)) {
                check.isTrue("no test quotes of " + place + ": '" + words + "'", false);
            }
        }
    }

    private void runCalls(List<Call> calls) {
        runs++;
        check.isTrue(sentence + ": a run of " + calls.size() + " calls", calls.size() <= MOST_CALLS);
        User program = new User(new SatchelSins());
        User model = new User(new Model());
        for (int i = 0; i < calls.size(); i++) {
            Call call = calls.get(i);
            String named = sentence + ": call " + (i + 1) + ", " + call;
            int got = program.answer(call);
            if (call.due == null) {
                check.isTrue(named + " answered " + got, got >= 0);
                check.due("the model, " + named, model.answer(call), got);
            } else {
                check.due(named, got, call.due);
                check.due("the model, " + named, model.answer(call), call.due);
            }
            if (call.isRefused() || call.isFaultySchool()) {
                nothingChanges(named, calls.subList(0, i + 1));
            }
        }
    }

    private void nothingChanges(String named, List<Call> made) {
        if (made.get(made.size() - 1).isFaultySchool()) {
            // The first view is the fault and its letter, which a school() with a fault tells anew.
            looksAlike(named, made, withoutFaultyTexts(made), VIEWS.subList(1, VIEWS.size()));
        } else {
            looksAlike(named, made, withoutRefused(made), VIEWS);
        }
    }

    private void looksAlike(String named, List<Call> made, List<Call> without, List<List<Call>> views) {
        for (List<Call> view : views) {
            List<Call> seen = view.subList(0, Math.min(view.size(), MOST_CALLS - made.size()));
            int[] behind = seenBehind(made, seen);
            int[] due = seenBehind(without, seen);
            for (int i = 0; i < due.length; i++) {
                check.due(named + " changed what " + seen.get(i) + " tells", behind[i], due[i]);
            }
        }
    }

    private static int[] seenBehind(List<Call> made, List<Call> view) {
        User user = new User(new SatchelSins());
        user.answers(made);
        return user.answers(view);
    }

    private static List<Call> withoutRefused(List<Call> made) {
        List<Call> without = new ArrayList<>(made);
        without.removeIf(Call::isRefused);
        return without;
    }

    /** A text with a fault goes with all its letters. */
    private static List<Call> withoutFaultyTexts(List<Call> made) {
        List<Call> without = new ArrayList<>();
        int told = 0;
        for (Call call : withoutRefused(made)) {
            if (call.isFaultySchool()) {
                without.subList(told, without.size()).removeIf(letter -> letter.name.equals("feed"));
            } else {
                without.add(call);
            }
            told = call.name.equals("school") ? without.size() : told;
        }
        return without;
    }

    /** What can be seen of an object, from several sides: each is a run of its own, as some looks change what is there. */
    private static List<List<Call>> views() {
        StringBuilder school = new StringBuilder();
        for (int what = 0; what <= 13; what++) {
            school.append("told " + what + ",");
        }
        for (int k = 0; k < 40; k++) {
            school.append("child " + k / 8 + " " + k % 8 + ",");
        }
        StringBuilder tried = new StringBuilder("hold, judge");
        for (int d = -1; d < 7; d++) {
            tried.append(",loads " + d + ",fair " + d + ",lighter " + d + ",handed " + d + " 0,handed " + d + " 1");
        }
        StringBuilder shown = new StringBuilder("hold,judge");
        for (int d = 0; d < 7; d++) {
            shown.append(",doIt " + d + ",judge,home,hold,takeBack " + d + ",hold");
        }
        StringBuilder told = new StringBuilder("feed 59,told 3,school,fault,told 0,told 1,told 2");
        for (int c = 0; c < 5; c++) {
            told.append(",child " + c + " 0,child " + c + " 1,child " + c + " 7");
        }
        String day = "told 4,told 5,told 6,told 8" + deeds();
        String back = "undo,told 4,told 5,told 6,told 8";
        for (int c = 0; c < 5; c++) {
            back += ",child " + c + " 4,child " + c + " 5";
        }
        return List.of(
            Call.read("fault"), Call.read(school + deeds()), Call.read(tried.toString()), Call.read(shown + ",tear"),
            Call.read(told + deeds()), Call.read("seed 1,seed 2,undo,seed 3"), Call.read("drift 7," + day),
            Call.read((back + ",").repeat(21)), Call.read("goBack 0,seed 0," + day), Call.read("goBack 1,seed 0," + day));
    }

    private static String deeds() {
        StringBuilder all = new StringBuilder();
        for (int k = 0; k < 28; k++) {
            all.append(",deed " + k / 4 + " " + k % 4);
        }
        return all.toString();
    }
}

import java.util.ArrayList;
import java.util.List;
import java.util.concurrent.Callable;

/**
 * Tells whether two objects are alike, by the answers to the same calls on both. What an object holds
 * cannot be seen otherwise, and the calls change it, so that two are needed.
 */
final class Twins {
    private final WayTables table;
    private final List<String> answers = new ArrayList<>();

    private Twins(WayTables table) {
        this.table = table;
    }

    /** Some 180 calls on each, so that there is room below 512 for those that went before. */
    static void alike(String what, WayTables got, WayTables due) {
        List<String> gotAnswers = new Twins(got).tellAll();
        List<String> dueAnswers = new Twins(due).tellAll();
        for (int i = 0; i < dueAnswers.size(); i++) {
            if (!gotAnswers.get(i).equals(dueAnswers.get(i))) {
                Check.tell(what + ": " + gotAnswers.get(i) + ", due is " + dueAnswers.get(i));
                return;
            }
        }
    }

    private List<String> tellAll() {
        look();
        useWhatIsSet();
        finishTable();
        look();
        useWhatIsSet();
        askForSmallValues();
        fill();
        look();
        return answers;
    }

    private void tell(String call, Callable<Object> answer) {
        String text;
        try {
            text = String.valueOf(answer.call());
        } catch (Exception e) {
            text = e.getClass().getName();
        }
        answers.add(answers.size() + ". " + call + " answers " + text);
    }

    private void look() {
        for (int what = -1; what <= 4; what++) {
            int asked = what;
            tell("count(" + asked + ")", () -> table.count(asked));
        }
        tell("datum()", table::datum);
        tell("bucket()", table::bucket);
    }

    private void useWhatIsSet() {
        tell("match()", table::match);
        tell("datum()", table::datum);
        tell("change(6, 66)", () -> table.change(6, 66));
        tell("match()", table::match);
        tell("remove()", table::remove);
        tell("match()", table::match);
        tell("insert(1, 5, 55)", () -> table.insert(1, 5, 55));
        tell("match()", table::match);
        tell("datum()", table::datum);
    }

    /** Where no table is made yet, wide keys show what is set for all four. */
    private void finishTable() {
        for (int k = 0; k < 4; k++) {
            tell("key(64, 0)", () -> table.key(64, 0));
        }
        tell("make(16, 4, 8)", () -> {
            table.make(16, 4, 8);
            return "nothing";
        });
    }

    private void askForSmallValues() {
        for (int v = 0; v < 16; v++) {
            table.set(0, v, -1);
            tell("match() of " + v, table::match);
            tell("datum() of " + v, table::datum);
            tell("bucket() of " + v, table::bucket);
            tell("remove() of " + v, table::remove);
        }
        tell("count(0)", () -> table.count(0));
    }

    private void fill() {
        for (int v = 0; v < 16; v++) {
            table.set(0, v, -1);
            tell("insert() of " + v, () -> table.insert(0, 0, 0));
        }
    }
}

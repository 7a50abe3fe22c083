import java.util.ArrayList;
import java.util.List;

/** All that an object can be asked, one call behind the other; at the end its acts are undone and its text is its paper. */
final class Everything {
    private final ErrataColumn x;
    private final List<String> told = new ArrayList<>();

    private Everything(ErrataColumn x) {
        this.x = x;
    }

    static List<String> of(ErrataColumn x) {
        Everything all = new Everything(x);
        all.askPaper();
        all.askNames();
        all.askChances();
        all.askSeed();
        all.askPast();
        all.askSlots();
        all.askText();
        return all.told;
    }

    private void tell(String call, long answer) {
        told.add(call + " " + answer);
    }

    private void askPaper() {
        for (int what = 0; what <= 10; what++) {
            tell("about " + what, x.about(what));
        }
        for (int r = 0; r < 4; r++) {
            tell("p " + r, x.reader(r, 0));
            tell("f " + r, x.reader(r, 1));
            tell("right " + r, x.reader(r, 3));
        }
        tell("fault", x.fault());
        askStanding();
    }

    private void askStanding() {
        tell("said", x.about(4));
        tell("day", x.about(6));
        for (int c = 0; c < 3; c++) {
            tell("kind " + c, x.kind(c));
        }
        for (int r = 0; r < 4; r++) {
            tell("belief " + r, x.reader(r, 2));
        }
    }

    private void askNames() {
        for (int what = 0; what <= 1; what++) {
            tell("righted " + what, x.righted(what));
            tell("allRighted " + what, x.allRighted(what));
            tell("ring " + what, x.ring(1, 0, what));
            tell("first " + what, x.first(1, 0, what));
        }
        tell("after", x.after(0, 2, 1));
        tell("who", x.who(0, 0, 0, 0));
        tell("code", x.code(2));
        tell("codeName", x.codeName(2, 3));
    }

    private void askChances() {
        tell("rests 0", x.rests(0, 1, 0, 2, 0));
        tell("rests 1", x.rests(0, 1, 0, 2, 1));
        for (int c = 0; c < 3; c++) {
            tell("chance " + c, x.chance(c, 3, 4, true));
            tell("share " + c, x.share(c, true));
        }
    }

    private void askSeed() {
        long seed = x.seed(0);
        tell("seed", seed);
        x.seed(seed);
        tell("years", x.years(9));
    }

    private void askPast() {
        for (int act = 0; act < 15; act++) {
            tell("undo", x.undo());
            askStanding();
        }
    }

    private void askSlots() {
        for (int slot = 1; slot >= 0; slot--) {
            tell("again " + slot, x.again(slot));
            tell("acts", x.about(9));
            askStanding();
        }
    }

    private void askText() {
        tell("paper", x.paper());
        askPaper();
        tell("write", x.write('C'));
        tell("fault", x.fault());
        tell("wipe", x.wipe());
    }
}

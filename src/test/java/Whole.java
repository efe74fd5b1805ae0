import java.util.ArrayList;
import java.util.List;

/** All that can be seen of an object after some acts, looked at on new objects each time, since looking may change it. */
final class Whole {
    interface Act {
        int on(EchoFolk x);
    }

    private static final int LARGE_PRIME = 1000000007;

    private final Act[] acts;
    private final List<Integer> seen = new ArrayList<>();

    private Whole(Act... acts) {
        this.acts = acts;
    }

    static List<Integer> after(Act... acts) {
        Whole whole = new Whole(acts);
        whole.lookAtFolk(whole.made());
        EchoFolk asTheImage = whole.made();
        whole.see(asTheImage.back());
        whole.lookAtFolk(asTheImage);
        for (int slot = 0; slot < 5; slot++) whole.lookAtSlot(slot);
        for (int sheet = 0; sheet < 4; sheet++) whole.lookAtSheet(sheet);
        whole.lookAtTape();
        for (int n = 1; n <= 30; n++) whole.see(whole.made().check(n));
        return whole.seen;
    }

    private EchoFolk made() {
        EchoFolk x = new EchoFolk();
        for (Act act : acts) act.on(x);
        return x;
    }

    private void see(int v) {
        seen.add(v);
    }

    private void lookAtFolk(EchoFolk x) {
        for (int what = 0; what < 7; what++) see(x.count(what));
        for (int what = 0; what < 5; what++) see(x.folk(what));
        for (int i = 0; i < 8; i++) {
            for (int what = 0; what < 10; what++) see(x.told(i, what));
            for (int k = 0; k < 12; k++) see(x.heard(i, k));
            see(x.fine(i));
        }
        see(x.fee());
        for (int key = 0; key < 3; key++) see(x.why(key));
        for (int text = 0; text < 14; text++) for (int what = 0; what < 2; what++) see(x.textTold(text, what));
    }

    private void lookAtSlot(int slot) {
        EchoFolk x = made();
        for (int kind = 0; kind < 6; kind++) see(x.ask(slot, kind));
        for (int place = 0; place < 25; place++) see(x.item(slot, place));
        see(x.rest(slot, LARGE_PRIME));
        see(x.lay(slot, 0, 0));
    }

    private void lookAtSheet(int sheet) {
        EchoFolk x = made();
        see(x.lay(0, 2, sheet));
        for (int place = 0; place < 25; place++) see(x.item(0, place));
        int other = (sheet + 1) % 4;
        x.sheet(other, 0, 0);
        see(x.copy(sheet, 0, other, 0, 0));
    }

    private void lookAtTape() {
        EchoFolk x = made();
        see(x.text());
        lookAtFolk(x);
    }
}

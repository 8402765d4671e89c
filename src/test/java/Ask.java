/** Makes a call that is told by its name. */
final class Ask {
    private Ask() {
    }

    static int of(CakeMarks x, String call, int... a) {
        switch (call) {
            case "addGuest": return x.addGuest();
            case "setValue": return x.setValue(a[0], a[1], a[2], a[3]);
            case "append": return x.append(a[0]);
            case "clearText": return x.clearText();
            case "read": return x.read(a[0]);
            case "give": return x.give(a[0], a[1], a[2]);
            case "putBack": return x.putBack(a[0], a[1]);
            case "move": return x.move(a[0], a[1]);
            case "cut": return x.cut(a[0], a[1], a[2], a[3]);
            case "trim": return x.trim(a[0], a[1]);
            case "exchange": return x.exchange();
            case "undo": return x.undo();
            case "count": return x.count(a[0]);
            case "guest": return x.guest(a[0], a[1]);
            case "crumb": return x.crumb(a[0]);
            case "value": return x.value(a[0], a[1]);
            case "envy": return x.envy(a[0], a[1]);
            case "ring": return x.ring(a[0]);
            case "middle": return x.middle(a[0]);
            case "best": return x.best(a[0]);
            case "calm": return x.calm(a[0]);
            case "calls": return x.calls(a[0], a[1]);
            default: throw new IllegalArgumentException(call);
        }
    }
}

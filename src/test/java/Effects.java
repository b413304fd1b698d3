/** Tests of what a call answers and of what it leaves as it was. */
final class Effects {
    private static final Scene[] SCENES = Scene.values();

    /** One call, with its arguments. */
    interface Call {
        long on(ConstrainedCoder x);
    }

    private Effects() {
    }

    /** A refused call answers its error code and leaves everything as it was. */
    static void refused(Check check, Everything.Maker maker, String name, Call call, long due) {
        check.is(name, call.on(maker.make()), due);
        check.text("everything after " + name, Everything.allOf(after(maker, call)), Everything.allOf(maker));
    }

    /** The same in every scene. */
    static void refusedEverywhere(Check check, String name, Call call, long due) {
        for (Scene scene : SCENES) {
            refused(check, scene, name + " when " + scene, call, due);
        }
    }

    /** A question leaves everything as it was, and is answered again in the same way. */
    static void asks(Check check, String name, Call call) {
        for (Scene scene : SCENES) {
            check.text("everything after " + name + " when " + scene, Everything.allOf(after(scene, call)),
                Everything.allOf(scene));
            ConstrainedCoder x = scene.make();
            long answer = call.on(x);
            check.is(name + " once more when " + scene, call.on(x), answer);
        }
    }

    /** A call that is not refused changes nothing but the parts that are named. */
    static void changesOnly(Check check, Everything.Maker maker, String name, Call call, Everything... parts) {
        check.holds(name + " is not refused", call.on(maker.make()) >= 0);
        check.text("the rest after " + name, Everything.allBut(after(maker, call), parts),
            Everything.allBut(maker, parts));
    }

    private static Everything.Maker after(Everything.Maker maker, Call call) {
        return () -> {
            ConstrainedCoder x = maker.make();
            call.on(x);
            return x;
        };
    }
}

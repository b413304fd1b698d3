/** States of an object in which calls are tried. */
enum Scene implements Everything.Maker {
    /** Nothing was done yet. */
    NEW {
        @Override
        public ConstrainedCoder make() {
            return new ConstrainedCoder();
        }
    },
    /** All parts hold something, with room for more; the graph has the anticipation 1, and the encoder is on. */
    WORKING {
        @Override
        public ConstrainedCoder make() {
            return workingWith("rll 1 ");
        }
    },
    /** The same with a deterministic graph and an encoder that was started at another state. */
    DETERMINISTIC {
        @Override
        public ConstrainedCoder make() {
            ConstrainedCoder x = Calls.charge(1);
            Calls.setWord(x, "0");
            x.saveSnapshot();
            x.clear(1);
            for (int s = 0; s < 3; s++) {
                x.addState();
            }
            addEdges(x, 0, 1, 1, 0, 0, 2, 1, 0, 0, 1, 1, 2, 2, 1, 0, 2, 0, 1);
            fillArrays(x);
            Calls.type(x, "charge ");
            Calls.setWord(x, "10");
            x.startEncoder(1, 2);
            x.encode(0);
            return x;
        }
    },
    /** There is no room for a state, an edge, a bit, a character or an element. */
    FULL {
        @Override
        public ConstrainedCoder make() {
            ConstrainedCoder x = Calls.states(2, 16);
            for (int e = 0; e < 60; e++) {
                x.addEdge(e % 16, e / 16, (5 * e + 3) % 16);
            }
            x.saveSnapshot();
            for (int e = 60; e < 64; e++) {
                x.addEdge(e % 16, e / 16, (5 * e + 3) % 16);
            }
            for (int slot = 0; slot < 3; slot++) {
                x.newArray(slot, 20);
                x.setElement(slot, 19, 9999 - slot);
                x.setElement(slot, 0, slot);
            }
            Calls.type(x, "charge 3            ");
            x.startEncoder(2, 5);
            for (int i = 0; i < 20; i++) {
                x.encode(i * 7 % 4);
            }
            return x;
        }
    },
    /** A constraint and a word of odd length; the encoder is off, and there is no snapshot. */
    OFF {
        @Override
        public ConstrainedCoder make() {
            ConstrainedCoder x = Calls.runLength(1, 3);
            Calls.setWord(x, "01001");
            x.newArray(1, 2);
            Calls.type(x, "c");
            return x;
        }
    },
    /** States of which one has no edge, and no word. */
    DEAD_END {
        @Override
        public ConstrainedCoder make() {
            ConstrainedCoder x = Calls.graph(3, 3, 0, 5, 1, 0, 6, 0, 2, 7, 1);
            x.newArray(2, 0);
            x.saveSnapshot();
            return x;
        }
    };

    /** The scene WORKING with another input. */
    static ConstrainedCoder workingWith(String input) {
        ConstrainedCoder x = Calls.runLength(0, 1);
        Calls.setWord(x, "101");
        x.saveSnapshot();
        x.clear(2);
        for (int s = 0; s < 3; s++) {
            x.addState();
        }
        addEdges(x, 0, 1, 1, 0, 1, 2, 1, 2, 0, 0, 0, 0, 1, 1, 2, 2, 0, 2, 2, 0, 1, 2, 3, 0);
        fillArrays(x);
        Calls.type(x, input);
        Calls.setWord(x, "0110");
        x.startEncoder(1, 1);
        x.encode(0);
        x.encode(0);
        return x;
    }

    private static void addEdges(ConstrainedCoder x, int... edges) {
        for (int i = 0; i + 2 < edges.length; i += 3) {
            x.addEdge(edges[i], edges[i + 1], edges[i + 2]);
        }
    }

    private static void fillArrays(ConstrainedCoder x) {
        x.newArray(0, 3);
        x.setElement(0, 0, 7);
        x.setElement(0, 1, 9999);
        x.setElement(0, 2, 1);
        x.newArray(1, 20);
        x.setElement(1, 19, 5);
    }
}

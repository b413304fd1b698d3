/**
 * All that can be seen of an object, in parts. Seeing some of it uses the object up (the input, the snapshot), so each
 * part is read from an object of its own, which is made and brought into its state anew.
 */
enum Everything {
    GRAPH {
        @Override
        String of(ConstrainedCoder x) {
            StringBuilder text = new StringBuilder(Calls.graphText(x));
            text.append(" deterministic ").append(x.isDeterministic());
            text.append(" irreducible ").append(x.isIrreducible());
            text.append(" growth ").append(x.growthRate(3)).append(' ').append(x.growthRate(4));
            text.append(" anticipation ").append(x.anticipation());
            int states = x.stateCount();
            for (int p = 1; p <= 4; p++) {
                text.append(" p ").append(x.isEncoder(p)).append(' ').append(x.eigenvectorBound(p)).append(':');
                for (int s = 0; s < states; s++) {
                    text.append(' ').append(x.eigenvectorElement(p, s));
                }
            }
            return text.toString();
        }
    },
    WORD {
        @Override
        String of(ConstrainedCoder x) {
            return x.wordLength() + ": " + Calls.word(x) + " ends " + x.wordBit(x.wordLength());
        }
    },
    INPUT {
        @Override
        String of(ConstrainedCoder x) {
            return "parsed " + graphIfDone(x.parseConstraint(), x);
        }
    },
    INPUT_LENGTH {
        @Override
        String of(ConstrainedCoder x) {
            return "with a digit " + x.appendCharacter('6') + " parsed " + graphIfDone(x.parseConstraint(), x);
        }
    },
    ENCODER {
        @Override
        String of(ConstrainedCoder x) {
            StringBuilder text = new StringBuilder();
            text.append("state ").append(x.encoderState());
            x.clearWord();
            for (int i = 0; i < 40; i++) {
                x.appendBit(0);
            }
            for (int data = -1; data <= 16; data++) {
                text.append(' ').append(x.encode(data));
            }
            x.clearWord();
            for (int i = 0; i < 8; i++) {
                text.append(" to ").append(x.encode(i % 2)).append(' ').append(x.encoderState());
            }
            return text.toString();
        }
    },
    /** What decode tells of short words, which shows where the encoder was started. */
    ENCODER_START {
        @Override
        String of(ConstrainedCoder x) {
            StringBuilder text = new StringBuilder();
            int bits = 2 * x.labelLength();
            // Words of more than 4 bits would take more calls than an object is used for.
            for (int word = 0; word < 1 << bits && bits <= 4; word++) {
                x.clearWord();
                for (int i = bits - 1; i >= 0; i--) {
                    x.appendBit(word >> i & 1);
                }
                text.append(x.decode(0)).append(' ').append(x.decode(1)).append(' ');
            }
            return text.toString();
        }
    },
    ARRAYS {
        @Override
        String of(ConstrainedCoder x) {
            StringBuilder text = new StringBuilder();
            for (int slot = 0; slot < 3; slot++) {
                text.append(slot).append(':');
                for (int i = -1; i <= 20; i++) {
                    text.append(' ').append(x.element(slot, i));
                }
            }
            return text.toString();
        }
    },
    SNAPSHOT {
        @Override
        String of(ConstrainedCoder x) {
            int answer = x.restoreSnapshot();
            return "restored " + graphIfDone(answer, x) + (answer < 0 ? "" : " with " + Calls.word(x));
        }
    };

    /** Makes an object and brings it into a state, the same one each time. */
    interface Maker {
        ConstrainedCoder make();
    }

    private static final Everything[] PARTS = values();

    /** What can be seen of this part; the object is used up. */
    abstract String of(ConstrainedCoder x);

    private static String graphIfDone(int answer, ConstrainedCoder x) {
        return answer < 0 ? "not: " + answer : answer + " as " + Calls.graphText(x);
    }

    static String allOf(Maker maker) {
        return allBut(maker);
    }

    /** All parts but those that are named. */
    static String allBut(Maker maker, Everything... left) {
        StringBuilder text = new StringBuilder();
        for (Everything part : PARTS) {
            if (!java.util.Arrays.asList(left).contains(part)) {
                text.append(part).append(' ').append(part.of(maker.make())).append("; ");
            }
        }
        return text.toString();
    }
}
